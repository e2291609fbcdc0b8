/-! p27: the law's run -/
section LAW
variable {σ τ : ASt} {V W : Nat → Nat} {m n t N M : Nat} {Hs : Nat → Nat → Nat} {Tx : Nat → Nat} {Q : Option Value → ASt → Prop} {K : Int32 → ASt → Prop}
theorem j_und {E : AEnv} (L : LJ N σ V n Hs t Tx) (h0 : n = 0 → K (-1000002 : Int32) σ) (h1 : ∀ τ, 0 < n → LJ N τ (Hs (n - 1)) (n - 1) Hs t Tx → K (nI (n - 1)) τ) : cI E 77 [.ref 0] σ K :=
  u_und L.1 L.2.1 h0 fun τ hn hf hc => h1 τ hn ⟨hf.mi L.1, hc, (L.2.2.2.2.1 (n - 1) (by omega)).1, (L.2.2.2.2.1 (n - 1) (by omega)).2, fun j hj => L.2.2.2.2.1 j (by omega), L.2.2.2.2.2⟩
theorem cmp_self (x : Int64) : lg_cmp x x = nI 0 := (lg_cmp_eq x x).mpr rfl
/-- to the loop's head again -/
def NX (L : Nat) (xs : Nat → Int32) (Q : Option Value → ASt → Prop) (M k : Nat) : Prop := ∀ τ V n Hs t Tx, LJ M τ V n Hs t Tx → wp (lawE L xs) 105 40 [.ref 1003, .ref 0, .int (nI 1), .int (nI k)] [] τ Q
section S
variable {L k : Nat} {xs : Nat → Int32} {x4 x5 x8 x9 : Int32} {x6 : Int64}
theorem la_249 (J : LJ M σ V n Hs t Tx) (hk : k < 48) (nx : NX L xs Q M (k + 1)) : wp (lawE L xs) 105 249 [.ref 1003, .ref 0, .int (nI 1), .int (nI k), .int x4, .int x5, .long x6, .double 0, .int x8, .int x9] [] σ Q := by
  have fin : ∀ τ V n Hs t Tx, LJ M τ V n Hs t Tx → wp (lawE L xs) 105 297 [.ref 1003, .ref 0, .int (nI 1), .int (nI k), .int x4, .int x5, .long x6, .double 0, .int x8, .int x9] [] τ Q := fun τ V n Hs t Tx J2 => sg105_297 (by
    rw [nI_add]
    exact nx τ V n Hs t Tx J2)
  have hn4 := J.n4
  refine sg105_249 ⟨one0, nI_ne0 (by decide) (by decide), fun _ => fin _ _ _ _ _ _ J, fun _ => ⟨J.sh, j_cnt J ⟨J.sh, j_und J (fun h0 => ?_) (fun τ hn J2 => ?_)⟩⟩⟩
  · rw [cnt_18, h0]
    rw [h0] at J
    exact ⟨fun z => absurd rfl z, fun _ => ⟨nn, fin _ _ _ _ _ _ J⟩⟩
  · rw [cnt_18, prd hn]
    exact ⟨fun _ => ⟨nn, fin _ _ _ _ _ _ J2⟩, fun z => absurd (nI_ne (by omega) (by decide) (by omega)) z⟩
theorem la_198 {V' : Nat → Nat} {n' : Nat} {Hs' : Nat → Nat → Nat} (J : LJ M σ V' n' Hs' t Tx) (hk : k < 48) (nx : NX L xs Q M (k + 1)) (hn : n ≤ 4) (hH : n' = n + 1 → Hs' n = V) : wp (lawE L xs) 105 198 [.ref 1003, .ref 0, .int (nI 1), .int (nI k), .int x4, .int x5, .long (lookV V), .double 0, .int (nI n), .int (nI n')] [.int (nI 1)] σ Q := by
  have hn4 := J.n4
  refine sg105_198 ⟨one0, fun _ => la_249 J hk nx, fun z => ?_⟩
  rw [nI_add, Ne, nI_eq (by omega) (by omega)] at z
  have z := Classical.not_not.mp z
  refine j_low (by decide) (by decide) ⟨fun _ => la_249 J hk nx, fun _ => ⟨J.sh, j_und J (fun h0 => absurd h0 (by omega)) (fun τ _ J2 => ?_)⟩⟩
  have e1 : n' - 1 = n := by omega
  rw [e1, hH z] at J2
  rw [e1]
  refine ⟨nn, j_look J2 ⟨?_, la_249 J2 hk nx⟩⟩
  rw [cmp_self]
  exact nn
theorem la_148 {V' : Nat → Nat} {n' : Nat} {Hs' : Nat → Nat → Nat} (J : LJ M σ V' n' Hs' t Tx) (hk : k < 48) (nx : NX L xs Q M (k + 1)) (hn : n ≤ 4) (hc : (V' = V ∧ n' = n ∧ Hs' = Hs) ∨ (n' = pushN n ∧ Hs' = pushH n Hs V)) {x2 : Int32} : wp (lawE L xs) 105 148 [.ref 1003, .ref 0, .int x2, .int (nI k), .int x4, .int x5, .long (lookV V), .double 0, .int (nI n)] [.int (nI 1)] σ Q := by
  have hH : n' = n + 1 → Hs' n = V := fun h => by
    rcases hc with ⟨_, e, _⟩ | ⟨e1, e2⟩
    · omega
    · have h4 : n < 4 := by
        unfold pushN at e1
        split at e1 <;> omega
      rw [e2]
      unfold pushH
      rw [if_pos h4, if_pos rfl]
  have go := la_198 (x4 := x4) (x5 := x5) (V := V) (n := n) J hk nx hn hH
  refine sg105_148 ⟨J.sh, j_cnt J ?_⟩
  rw [cnt_18]
  have hn4 := J.n4
  refine ⟨one0, fun z => ⟨?_, go⟩, fun z => ⟨fun _ => go, fun z4 => ?_⟩⟩
  · have z : n' ≠ n := fun q => z (by rw [q])
    rcases hc with ⟨_, e, _⟩ | ⟨e1, e2⟩
    · exact absurd e z
    · unfold pushN at e1
      split at e1
      · rw [e1, nI_add]; exact nn
      · omega
  · have z := (nI_eq (by omega) (by omega)).mp (Classical.not_not.mp z)
    have z4 : n ≠ 4 := fun q => z4 (by rw [q])
    rcases hc with ⟨e0, _, _⟩ | ⟨e1, e2⟩
    · rw [e0] at J
      exact j_look J ⟨fun _ => go, fun q => absurd (cmp_self _) q⟩
    · unfold pushN at e1
      split at e1 <;> omega
theorem la_76 (J : LJ N σ V n Hs t Tx) (hL : L ≤ 260) (hk : k < 48) (hN : N + 24000 < 2 ^ 31) (nx : NX L xs Q (N + 24000) (k + 1)) {x2 b0 : Int32} : wp (lawE L xs) 105 76 [.ref 1003, .ref 0, .int x2, .int (nI k)] [.int b0] σ Q := by
  have em : nI 2 * nI k = nI (2 * k) := (Int32.ofNat_mul 2 k).symm
  refine sg105_76 ?_
  rw [em, nI_add]
  refine j_lot hL (by omega) fun y => j_look J ⟨J.sh, j_cnt J (j_acts eok_law J fun τ hA => ?_)⟩
  rw [cnt_18]
  obtain ⟨V', n', Hs', t', Tx', J', hc⟩ := hA
  have fin : ∀ τ, LJ (N + 24000) τ V' n' Hs' t' Tx' → wp (lawE L xs) 105 148 [.ref 1003, .ref 0, .int x2, .int (nI k), .int b0, .int y, .long (lookV V), .double 0, .int (nI n)] [.int (nI 1)] τ Q := fun τ J2 => la_148 J2 hk nx J.n4 hc
  have wd : ∀ τ, LJ (N + 24000) τ V' n' Hs' t' Tx' → ¬ nI 5 = 0 ∧ ((nI k - nI k / (nI 5) * (nI 5)) ≠ (nI 3) →
      wp (lawE L xs) 105 148 [.ref 1003, .ref 0, .int x2, .int (nI k), .int b0, .int y, .long (lookV V), .double 0, .int (nI n)] [.int (nI 1)] τ Q) ∧
    (¬ (nI k - nI k / (nI 5) * (nI 5)) ≠ (nI 3) →
      cI (lawE L xs) 99 [.ref 0, .int y] τ (fun x10 s9 =>
      ¬ x10 = (nI 0) ∧ wp (lawE L xs) 105 148 [.ref 1003, .ref 0, .int x2, .int (nI k), .int b0, .int y, .long (lookV V), .double 0, .int (nI n)] [.int (nI 1)] s9 Q)) := fun τ J2 => ⟨nI_ne0 (by decide) (by decide), fun _ => fin τ J2, fun _ => j_would J2 fun τ2 J3 => ⟨one0, fin τ2 J3⟩⟩
  exact ⟨one0, nI_ne0 (by decide) (by decide), fun _ => wd τ J', fun _ => j_holds J' hN ⟨one0, wd τ J'⟩⟩
theorem la_40 (hL : L ≤ 260) (hQ : ∀ s, s.1 = SHP → Q (some (.int (nI 1))) s) : ∀ d k : Nat, k + d = 48 → NX L xs Q (24000 * k) k
  | 0, k, hk => fun τ V n Hs t Tx J => by
    refine sg105_40 ⟨fun _ => ⟨one0, j_holds J (by omega) ⟨one0, fN1, hQ τ J.1.1⟩⟩, fun z => absurd (nI_le (by omega) (by omega)) z⟩
  | d + 1, k, hk => fun τ V n Hs t Tx J => by
    have nx := la_40 hL hQ d (k + 1) (by omega)
    rw [show 24000 * (k + 1) = 24000 * k + 24000 by omega] at nx
    refine sg105_40 ⟨fun z => absurd z (nI_ge (by omega) (by decide)), fun _ => ⟨one0, fun _ => ⟨fun _ => ?_, fun _ => ?_⟩, fun _ => ?_⟩⟩
    · have em : nI 2 * nI k = nI (2 * k) := (Int32.ofNat_mul 2 k).symm
      rw [em]
      exact j_lot hL (by omega) fun x => la_76 J hL (by omega) (by omega) nx
    · exact la_76 J hL (by omega) (by omega) nx
    · exact la_76 J hL (by omega) (by omega) nx
end S
/-! the start -/
/-- the state of a new object -/
def V0 (k : Nat) : Nat := if k = 1 then 1 else if k = 3 then 1 else if k = 4 then 30 else if k = 5 then 10 else if k = 7 then 3 else if k = 8 then 12 else if k = 10 then 40 else if k = 11 then 200 else 0
def h0 (j : Nat) : Nat := if j = 0 then 63 else if j = 1 then 92 else if j = 2 then 121 else 150
def mIN (c k x : Nat) : Bool := INZ.any (fun q => Nat.beq q.1 c && Nat.beq q.2 k) && Nat.beq (inz c k) x
theorem chk_p (h : chk0 σ = true) : σ.1 = SHP ∧ (∀ q ∈ RF0, rf σ q.1 q.2.1 q.2.2) ∧ ∀ q ∈ INZ, gI σ q.1 q.2 = nI (inz q.1 q.2) := by
  unfold chk0 at h
  rw [Bool.and_eq_true, Bool.and_eq_true] at h
  exact ⟨of_decide_eq_true h.1.1, fun q hq => of_decide_eq_true (p := σ.2.2 q.1 q.2.1 = q.2.2 + 1) (List.all_eq_true.mp h.1.2 q hq), fun q hq => of_decide_eq_true (List.all_eq_true.mp h.2 q hq)⟩
theorem i0 (h : chk0 σ = true) {c k x : Nat} (hm : mIN c k x = true) : gI σ c k = nI x := by
  unfold mIN at hm
  rw [Bool.and_eq_true] at hm
  obtain ⟨q, hq, hb⟩ := List.any_eq_true.mp hm.1
  rw [Bool.and_eq_true] at hb
  have := (chk_p h).2.2 q hq
  rw [Nat.eq_of_beq_eq_true hb.1, Nat.eq_of_beq_eq_true hb.2, Nat.eq_of_beq_eq_true hm.2] at this
  exact this
theorem f0 (h : chk0 σ = true) {c k r : Nat} (hm : RF0.any (fun q => Nat.beq q.1 c && Nat.beq q.2.1 k && Nat.beq q.2.2 r) = true) : rf σ c k r := by
  obtain ⟨q, hq, hb⟩ := List.any_eq_true.mp hm
  rw [Bool.and_eq_true, Bool.and_eq_true] at hb
  have := (chk_p h).2.1 q hq
  rw [Nat.eq_of_beq_eq_true hb.1.1, Nat.eq_of_beq_eq_true hb.1.2, Nat.eq_of_beq_eq_true hb.2] at this
  exact this
theorem rfx_0 : RFX.all (fun e => RF0.any (fun q => Nat.beq q.1 e.1 && Nat.beq q.2.1 e.2.1 && Nat.beq q.2.2 e.2.2)) = true := by decide +kernel
theorem mi_0 (h : chk0 σ = true) : MI σ := ⟨(chk_p h).1, fun e he => f0 h (List.all_eq_true.mp rfx_0 e he)⟩
theorem g0 (h : chk0 σ = true) {c k x : Nat} (hc : c < 29) (hm : mIN (1 + c) k x = true) : blk σ 1 c k = nI x := by
  rw [blk_g hc]
  exact i0 h hm
theorem set_0 : (List.range 8).all (fun k => mIN (1 + 3) k (V0 (3 + k))) = true := by decide +kernel
theorem v0_1 : V0 1 = 1 := by decide +kernel
theorem v0_2 : V0 2 = 0 := by decide +kernel
theorem v0_15 : V0 15 = 0 := by decide +kernel
theorem wf_0 : WF 9999 V0 := by
  refine ⟨?_, ?_, fun b hb => ?_, fun i hi => ?_, ?_⟩
  · unfold W1; decide +kernel
  · unfold W2; decide +kernel
  · rw [v0_2] at hb; exact absurd hb (Nat.not_lt_zero _)
  · rw [v0_1] at hi
    obtain rfl : i = 0 := by omega
    decide +kernel
  · unfold W5; decide +kernel
theorem pi_0 : PI 0 V0 := by
  refine ⟨?_, fun b hb => ?_, fun i hi => ?_, fun a ha => ?_, ?_⟩
  · unfold IC; decide +kernel
  · rw [v0_2] at hb; exact absurd hb (Nat.not_lt_zero _)
  · rw [v0_1] at hi
    obtain rfl : i = 0 := by omega
    unfold IWi
    decide +kernel
  · rw [v0_15] at ha; exact absurd ha (Nat.not_lt_zero _)
  · unfold IKs; decide +kernel
theorem rel_0 (h : chk0 σ = true) : Rel (blk σ 1) V0 := by
  refine ⟨?_, fun s hs => g0 h (by decide) (List.all_eq_true.mp set_0 s (List.mem_range.mpr hs)), ⟨g0 h (by decide) (by decide +kernel), fun a ha => ?_⟩, fun i hi => ?_, fun b hb => ?_⟩
  · exact ⟨g0 h (by decide) (by decide +kernel), g0 h (by decide) (by decide +kernel), g0 h (by decide) (by decide +kernel), g0 h (by decide) (by decide +kernel), g0 h (by decide) (by decide +kernel), g0 h (by decide) (by decide +kernel), g0 h (by decide) (by decide +kernel)⟩
  · rw [v0_15] at ha; exact absurd ha (Nat.not_lt_zero _)
  · rw [v0_1] at hi
    obtain rfl : i = 0 := by omega
    exact ⟨g0 h (by decide) (by decide +kernel), g0 h (by decide) (by decide +kernel), g0 h (by decide) (by decide +kernel), g0 h (by decide) (by decide +kernel), g0 h (by decide) (by decide +kernel)⟩
  · rw [v0_2] at hb; exact absurd hb (Nat.not_lt_zero _)
theorem j4 {j : Nat} (hj : j < 4) : j = 0 ∨ j = 1 ∨ j = 2 ∨ j = 3 := by omega
theorem ds_0 : DS 1 30 h0 := by
  refine ⟨Or.inl rfl, Or.inr (Or.inl rfl), fun j hj => ?_, by decide, fun j hj => ?_, fun i j hi hj hij => ?_⟩
  · rcases j4 hj with rfl | rfl | rfl | rfl
    · exact Or.inr (Or.inr (Or.inl rfl))
    · exact Or.inr (Or.inr (Or.inr (Or.inl rfl)))
    · exact Or.inr (Or.inr (Or.inr (Or.inr (Or.inl rfl))))
    · exact Or.inr (Or.inr (Or.inr (Or.inr (Or.inr rfl))))
  · rcases j4 hj with rfl | rfl | rfl | rfl <;> decide
  · rcases j4 hi with rfl | rfl | rfl | rfl <;> rcases j4 hj with rfl | rfl | rfl | rfl <;> first | exact absurd rfl hij | decide
theorem cd_0 (h : chk0 σ = true) : CD σ V0 0 (fun _ _ => 0) 0 (fun _ => 0) := by
  refine ⟨1, 30, h0, ds_0, ⟨f0 h (by decide +kernel), f0 h (by decide +kernel), fun j hj => ?_⟩, ⟨i0 h (by decide +kernel), by decide, rel_0 h, fun j hj => absurd hj (Nat.not_lt_zero _)⟩, i0 h (by decide +kernel), by decide, fun j hj => absurd hj (Nat.not_lt_zero _)⟩
  rcases j4 hj with rfl | rfl | rfl | rfl
  · exact f0 h (by decide +kernel)
  · exact f0 h (by decide +kernel)
  · exact f0 h (by decide +kernel)
  · exact f0 h (by decide +kernel)
theorem lj_0 (h : chk0 σ = true) : LJ 0 σ V0 0 (fun _ _ => 0) 0 (fun _ => 0) := ⟨mi_0 h, cd_0 h, wf_0, pi_0, fun j hj => absurd hj (Nat.not_lt_zero _), fun j hj => absurd hj (Nat.not_lt_zero _)⟩
theorem start_ex : ∃ σ, ex env0 20000 57 0 [.ref 0] [] (pushC sig0 5 8 (fun _ => 0)) = some (none, σ) ∧ chk0 σ = true := by
  have h := run0_ok
  unfold run0 at h
  split at h
  · rename_i σ h1
    exact ⟨σ, h1, h⟩
  · cases h
theorem law_all (L : Nat) (xs : Nat → Int32) (hL : L ≤ 260) : wp (lawE L xs) 105 0 [.ref 1003] [] sig0 (fun r s => r = some (.int 1) ∧ s.1 = SHP) := by
  obtain ⟨σ, e1, e2⟩ := start_ex
  have hE : lawE L xs 0 = env0 0 := rfl
  refine wp_go (o := .new 5) (nx := 3) (ct := 99) rfl rfl ?_
  refine wp_go (o := .dup) (nx := 4) (ct := 99) rfl rfl ?_
  refine wp_cl (o := .invokevirtual 57) (nx := 7) (ct := 99) rfl rfl ?_
  refine ⟨20000, none, σ, (ex_env hE 20000 57 0 _ _ _ (by decide)).trans e1, ?_⟩
  refine wp_go (o := .astore 1) (nx := 8) (ct := 99) rfl rfl ?_
  have J := lj_0 e2
  refine sg105_8 (j_holds J (by decide) ⟨one0, j_would J fun τ J2 => ⟨one0, J2.sh, j_und J2 (fun _ => ⟨nn, sg105_37 ?_⟩) (fun _ h _ => absurd h (by decide))⟩⟩)
  exact la_40 hL (fun s hs => ⟨rfl, hs⟩) 48 0 rfl τ _ _ _ _ _ J2
end LAW
