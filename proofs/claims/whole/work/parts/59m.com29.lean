/-! the law's run -/
section COM29
variable {σ τ ρ : ASt} {Q : Option Value → ASt → Prop}
theorem nI_sub4 {L k : Nat} (hL : L ≤ 2048) (hk : k ≤ 4096) : (nI L - nI 4 < nI k) ↔ L < k + 4 := by
  rw [Int32.lt_iff_toInt_lt, Int32.toInt_sub, nI_toInt (by omega), nI_toInt (by decide), nI_toInt (by omega), Int.bmod_def]
  split <;> omega
theorem law_loop {L : Nat} {xs : Nat → Int32} (hL : L ≤ 2048) : ∀ (d k : Nat) (σ : ASt), k ≤ 4096 → L < k + 4 * d + 4 → LI σ → wp (lawE L xs) 173 18 [.ref 1003, .ref 0, .ref 179, .int (nI k)] [] σ (fun r s => r = some (.int 1) ∧ s.1 = SHP) := by
  intro d
  induction d with
  | zero =>
    intro k σ hk hd LL
    obtain ⟨_, _, _, _, _, H, _⟩ := LL
    refine sg173_18 ⟨fun _ => ⟨fb1, rfl, H.1⟩, fun z => absurd ?_ z⟩
    exact (nI_sub4 hL hk).mpr (by omega)
  | succ d ih =>
    intro k σ hk hd LL
    have H : MI σ := by
      obtain ⟨_, _, _, _, _, H, _⟩ := LL
      exact H
    refine sg173_18 ⟨fun _ => ⟨fb1, rfl, H.1⟩, fun z => ?_⟩
    have hk4 : k + 4 ≤ L := by
      have : ¬ L < k + 4 := fun y => z ((nI_sub4 hL hk).mpr y)
      omega
    have v0 : vp_in (nI k) L := vi (by omega) (by omega)
    have v1 : vp_in (nI k + nI 1) L := by rw [nI_add]; exact vi (by omega) (by omega)
    have v2 : vp_in (nI k + nI 2) L := by rw [nI_add]; exact vi (by omega) (by omega)
    have v3 : vp_in (nI k + nI 3) L := by rw [nI_add]; exact vi (by omega) (by omega)
    have nx : ∀ ρ, LI ρ → wp (lawE L xs) 173 18 [.ref 1003, .ref 0, .ref 179, .int (nI k + nI 4)] [] ρ (fun r s => r = some (.int 1) ∧ s.1 = SHP) := fun ρ hρ => by
      rw [nI_add]
      exact ih (k + 4) ρ (by omega) (by omega) hρ
    have nk : ∀ (a : Int32) ρ, LI ρ → (a = a → wp (lawE L xs) 173 18 [.ref 1003, .ref 0, .ref 179, .int (nI k + nI 4)] [] ρ (fun r s => r = some (.int 1) ∧ s.1 = SHP)) ∧ (¬ a = a → fN .boolean (nI 0) = true ∧ (some (Value.int (nI 0)) = some (.int 1) ∧ ρ.1 = SHP)) := fun a ρ hρ => ⟨fun _ => nx ρ hρ, fun z => absurd rfl z⟩
    refine ⟨v0, fun _ => ?_, fun _ => ⟨fun _ => ?_, fun _ => ⟨fun _ => ?_, fun _ => ⟨fun _ => ?_, fun _ => ⟨fun _ => ?_, fun _ => ⟨fun _ => ?_, fun _ => ⟨fun _ => ?_, fun _ => ⟨fun _ => ?_, fun _ => ⟨fun _ => ?_, fun _ => ⟨fun _ => ?_, fun _ => ⟨fun _ => ?_, fun _ => ⟨fun _ => ?_, fun _ => ⟨fun _ => ?_, fun _ => ⟨fun _ => ?_, fun _ => ⟨fun _ => ?_, fun _ => ⟨fun _ => ?_, fun _ => ⟨fun _ => ?_, fun _ => ⟨fun _ => ?_, fun _ => ⟨fun _ => ?_, fun _ => ⟨fun _ => ?_, fun _ => ⟨fun _ => ?_, fun _ => ⟨fun _ => ?_, fun _ => ⟨fun _ => ?_, fun _ => ⟨fun _ => ?_, fun _ => nx σ LL⟩⟩⟩⟩⟩⟩⟩⟩⟩⟩⟩⟩⟩⟩⟩⟩⟩⟩⟩⟩⟩⟩⟩⟩
    · exact ⟨v1, sh0 H, cI_mono (s_isl LL nk) fun a s hh => ⟨v1, shM hh.1, hh.2⟩⟩
    · exact ⟨v1, v2, v3, sh0 H, cI_mono (s_nbr LL nk) fun a s hh => ⟨v1, v2, v3, shM hh.1, hh.2⟩⟩
    · exact ⟨v1, v2, sh0 H, cI_mono (s_snd LL nk) fun a s hh => ⟨v1, v2, shM hh.1, hh.2⟩⟩
    · exact ⟨v1, sh0 H, cI_mono (s_rec LL nk) fun a s hh => ⟨v1, shM hh.1, hh.2⟩⟩
    · exact ⟨v1, sh0 H, cI_mono (s_pay LL nk) fun a s hh => ⟨v1, shM hh.1, hh.2⟩⟩
    · exact ⟨v1, sh0 H, cI_mono (s_dys LL nk) fun a s hh => ⟨v1, shM hh.1, hh.2⟩⟩
    · exact ⟨v1, v2, sh0 H, cI_mono (s_set eok_law LL nk) fun a s hh => ⟨v1, v2, shM hh.1, hh.2⟩⟩
    · exact ⟨v1, v2, sh0 H, cI_mono (s_qBrg LL nk) fun a s hh => ⟨v1, v2, shM hh.1, hh.2⟩⟩
    · exact ⟨v1, v2, sh0 H, cI_mono (s_qIsl LL nk) fun a s hh => ⟨v1, v2, shM hh.1, hh.2⟩⟩
    · exact ⟨v1, sh0 H, cI_mono (s_qRea LL nk) fun a s hh => ⟨v1, shM hh.1, hh.2⟩⟩
    · exact ⟨v1, v2, sh0 H, cI_mono (s_qBok LL nk) fun a s hh => ⟨v1, v2, shM hh.1, hh.2⟩⟩
    · exact ⟨v1, v2, sh0 H, cI_mono (s_qWhy LL nk) fun a s hh => ⟨v1, v2, shM hh.1, hh.2⟩⟩
    · exact ⟨sh0 H, cI_mono (s_qBst LL nk) fun a s hh => ⟨shM hh.1, hh.2⟩⟩
    · exact ⟨v1, sh0 H, cI_mono (s_qRus LL nk) fun a s hh => ⟨v1, shM hh.1, hh.2⟩⟩
    · exact ⟨v1, sh0 H, cI_mono (s_pin LL nk) fun a s hh => ⟨v1, shM hh.1, hh.2⟩⟩
    · exact ⟨sh0 H, cI_mono (s_aln LL nk) fun a s hh => ⟨shM hh.1, hh.2⟩⟩
    · exact ⟨v1, sh0 H, cI_mono (s_ifd LL nk) fun a s hh => ⟨v1, shM hh.1, hh.2⟩⟩
    · exact ⟨sh0 H, cI_mono (s_mea LL nk) fun a s hh => ⟨shM hh.1, hh.2⟩⟩
    · exact ⟨v1, sh0 H, cI_mono (s_cnt LL nk) fun a s hh => ⟨v1, shM hh.1, hh.2⟩⟩
    · exact ⟨sh0 H, cI_mono (s_und LL nk) fun a s hh => ⟨shM hh.1, hh.2⟩⟩
    · exact ⟨v1, sh0 H, cI_mono (s_typ LL nk) fun a s hh => ⟨v1, shM hh.1, hh.2⟩⟩
    · exact ⟨sh0 H, cI_mono (s_clr LL nk) fun a s hh => ⟨shM hh.1, hh.2⟩⟩
    · exact ⟨v1, sh0 H, cI_mono (s_flt LL nk) fun a s hh => ⟨v1, shM hh.1, hh.2⟩⟩
    · exact ⟨sh0 H, cI_mono (s_ply LL nk) fun a s hh => ⟨shM hh.1, hh.2⟩⟩
def V0 (k : Nat) : Nat := inz 180 k
def h0 (j : Nat) : Nat := if j = 0 then 63 else if j = 1 then 92 else if j = 2 then 121 else 150
def mIN (c k x : Nat) : Bool := INZ.any (fun q => Nat.beq q.1 c && Nat.beq q.2 k) && Nat.beq (inz c k) x
theorem chk_p (h : chk0 σ = true) : σ.1 = SHP ∧ (∀ q ∈ RF0, rf σ q.1 q.2.1 q.2.2) ∧ ∀ q ∈ INZ, gI σ q.1 q.2 = nI (inz q.1 q.2) := by
  unfold chk0 at h
  rw [Bool.and_eq_true, Bool.and_eq_true] at h
  exact ⟨of_decide_eq_true h.1.1, fun q hq => of_decide_eq_true (p := σ.2.2 q.1 q.2.1 = q.2.2 + 1) (List.all_eq_true.mp h.1.2 q hq), fun q hq => of_decide_eq_true (List.all_eq_true.mp h.2 q hq)⟩
theorem i0 (h : chk0 σ = true) {c k x : Nat} (hm : mIN c k x = true) : gI σ c k = nI x := by
  unfold mIN at hm
  rw [Bool.and_eq_true] at hm
  obtain ⟨q, hq, hb⟩ := List.any_eq_true.mp hm.1
  rw [Bool.and_eq_true] at hb
  have := (chk_p h).2.2 q hq
  rw [Nat.eq_of_beq_eq_true hb.1, Nat.eq_of_beq_eq_true hb.2, Nat.eq_of_beq_eq_true hm.2] at this
  exact this
theorem f0 (h : chk0 σ = true) {c k r : Nat} (hm : RF0.any (fun q => Nat.beq q.1 c && Nat.beq q.2.1 k && Nat.beq q.2.2 r) = true) : rf σ c k r := by
  obtain ⟨q, hq, hb⟩ := List.any_eq_true.mp hm
  rw [Bool.and_eq_true, Bool.and_eq_true] at hb
  have := (chk_p h).2.1 q hq
  rw [Nat.eq_of_beq_eq_true hb.1.1, Nat.eq_of_beq_eq_true hb.1.2, Nat.eq_of_beq_eq_true hb.2] at this
  exact this
theorem rfx_0 : RFX.all (fun e => RF0.any (fun q => Nat.beq q.1 e.1 && Nat.beq q.2.1 e.2.1 && Nat.beq q.2.2 e.2.2)) = true := by decide +kernel
theorem mi_0 (h : chk0 σ = true) : MI σ := ⟨(chk_p h).1, fun e he => f0 h (List.all_eq_true.mp rfx_0 e he)⟩
theorem g0 (h : chk0 σ = true) {c k x : Nat} (hc : c < 29) (hm : mIN (1 + c) k x = true) : blk σ 1 c k = nI x := by
  rw [blk_g hc]
  exact i0 h hm
theorem all_0 : (List.range 184).all (fun k => mIN 180 k (V0 k)) = true := by decide +kernel
theorem set_0 : (List.range 8).all (fun k => mIN (1 + 3) k (V0 (3 + k))) = true := by decide +kernel
theorem v0_1 : V0 1 = 1 := by decide +kernel
theorem v0_2 : V0 2 = 0 := by decide +kernel
theorem v0_15 : V0 15 = 0 := by decide +kernel
theorem wf_0 : WF 9999 V0 := by
  refine ⟨?_, ?_, fun b hb => ?_, fun i hi => ?_, ?_⟩
  · unfold W1; decide +kernel
  · unfold W2; decide +kernel
  · rw [v0_2] at hb; exact absurd hb (Nat.not_lt_zero _)
  · rw [v0_1] at hi
    obtain rfl : i = 0 := by omega
    decide +kernel
  · unfold W5; decide +kernel
theorem md_0 (h : chk0 σ = true) : MD σ V0 0 (fun _ _ => 0) 0 (fun _ => 0) :=
  ⟨fun k hk => i0 h (List.all_eq_true.mp all_0 k (List.mem_range.mpr hk)), i0 h (by decide +kernel), by decide, fun j hj => absurd hj (Nat.not_lt_zero _), i0 h (by decide +kernel), by decide, fun j hj => absurd hj (Nat.not_lt_zero _)⟩
theorem rel_0 (h : chk0 σ = true) : Rel (blk σ 1) V0 := by
  refine ⟨?_, fun s hs => g0 h (by decide) (List.all_eq_true.mp set_0 s (List.mem_range.mpr hs)), ⟨g0 h (by decide) (by decide +kernel), fun a ha => ?_⟩, fun i hi => ?_, fun b hb => ?_⟩
  · exact ⟨g0 h (by decide) (by decide +kernel), g0 h (by decide) (by decide +kernel), g0 h (by decide) (by decide +kernel), g0 h (by decide) (by decide +kernel), g0 h (by decide) (by decide +kernel), g0 h (by decide) (by decide +kernel), g0 h (by decide) (by decide +kernel)⟩
  · rw [v0_15] at ha; exact absurd ha (Nat.not_lt_zero _)
  · rw [v0_1] at hi
    obtain rfl : i = 0 := by omega
    exact ⟨g0 h (by decide) (by decide +kernel), g0 h (by decide) (by decide +kernel), g0 h (by decide) (by decide +kernel), g0 h (by decide) (by decide +kernel), g0 h (by decide) (by decide +kernel)⟩
  · rw [v0_2] at hb; exact absurd hb (Nat.not_lt_zero _)
theorem j4 {j : Nat} (hj : j < 4) : j = 0 ∨ j = 1 ∨ j = 2 ∨ j = 3 := by omega
theorem ds_0 : DS 1 30 h0 := by
  refine ⟨Or.inl rfl, Or.inr (Or.inl rfl), fun j hj => ?_, by decide, fun j hj => ?_, fun i j hi hj hij => ?_⟩
  · rcases j4 hj with rfl | rfl | rfl | rfl
    · exact Or.inr (Or.inr (Or.inl rfl))
    · exact Or.inr (Or.inr (Or.inr (Or.inl rfl)))
    · exact Or.inr (Or.inr (Or.inr (Or.inr (Or.inl rfl))))
    · exact Or.inr (Or.inr (Or.inr (Or.inr (Or.inr rfl))))
  · rcases j4 hj with rfl | rfl | rfl | rfl <;> decide
  · rcases j4 hi with rfl | rfl | rfl | rfl <;> rcases j4 hj with rfl | rfl | rfl | rfl <;> first | exact absurd rfl hij | decide
theorem cd_0 (h : chk0 σ = true) : CD σ V0 0 (fun _ _ => 0) 0 (fun _ => 0) := by
  refine ⟨1, 30, h0, ds_0, ⟨f0 h (by decide +kernel), f0 h (by decide +kernel), fun j hj => ?_⟩, ⟨i0 h (by decide +kernel), by decide, rel_0 h, fun j hj => absurd hj (Nat.not_lt_zero _)⟩, i0 h (by decide +kernel), by decide, fun j hj => absurd hj (Nat.not_lt_zero _)⟩
  rcases j4 hj with rfl | rfl | rfl | rfl
  · exact f0 h (by decide +kernel)
  · exact f0 h (by decide +kernel)
  · exact f0 h (by decide +kernel)
  · exact f0 h (by decide +kernel)
theorem li_0 (h : chk0 σ = true) : LI σ := ⟨V0, 0, fun _ _ => 0, 0, fun _ => 0, mi_0 h, md_0 h, cd_0 h, wf_0, fun j hj => absurd hj (Nat.not_lt_zero _), fun j hj => absurd hj (Nat.not_lt_zero _)⟩
theorem start_ex : ∃ σ σ2, ex env0 20000 57 0 [.ref 0] [] (pushC sig0 5 8 (fun _ => 0)) = some (none, σ) ∧ σ.1.length = 179 ∧ ex env0 20000 91 0 [.ref 179] [] (pushC σ 6 15 (fun _ => 0)) = some (none, σ2) ∧ chk0 σ2 = true := by
  have h := run0_ok
  unfold run0 at h
  split at h
  · rename_i σ h1
    rw [Bool.and_eq_true] at h
    obtain ⟨h2, h3⟩ := h
    split at h3
    · rename_i σ2 h4
      exact ⟨σ, σ2, h1, Nat.eq_of_beq_eq_true h2, h4, h3⟩
    · cases h3
  · cases h
theorem law_all (L : Nat) (xs : Nat → Int32) (hL : L ≤ 2048) : wp (lawE L xs) 173 0 [.ref 1003] [] sig0 (fun r s => r = some (.int 1) ∧ s.1 = SHP) := by
  obtain ⟨σ, σ2, e1, e2, e3, e4⟩ := start_ex
  have hE : lawE L xs 0 = env0 0 := rfl
  refine wp_go (o := .new 5) (nx := 3) (ct := 99) rfl rfl ?_
  refine wp_go (o := .dup) (nx := 4) (ct := 99) rfl rfl ?_
  refine wp_cl (o := .invokevirtual 57) (nx := 7) (ct := 99) rfl rfl ?_
  refine ⟨20000, none, σ, (ex_env hE 20000 57 0 _ _ _ (by decide)).trans e1, ?_⟩
  refine wp_go (o := .astore 1) (nx := 8) (ct := 99) rfl rfl ?_
  refine wp_go (o := .new 6) (nx := 11) (ct := 99) rfl rfl ?_
  rw [e2]
  refine wp_go (o := .dup) (nx := 12) (ct := 99) rfl rfl ?_
  have h179 : (pushC σ 6 (nFl 6) (fun _ => 0)).1[179]? = some (mCls 91, nFl (mCls 91)) := by
    show (σ.1 ++ [(6, nFl 6)])[179]? = _
    rw [List.getElem?_append_right (by omega), e2]
    rfl
  refine wp_cl (o := .invokevirtual 91) (nx := 15) (ct := 99) (c := 91) (as := [.ref 179]) (st' := [.ref 179]) rfl ?_ ?_
  · show (if (pushC σ 6 (nFl 6) (fun _ => 0)).1[179]? = some (mCls 91, nFl (mCls 91)) then some _ else none) = _
    rw [if_pos h179]
    rfl
  refine ⟨20000, none, σ2, (ex_env hE 20000 91 0 _ _ _ (by decide)).trans e3, ?_⟩
  refine wp_go (o := .astore 2) (nx := 16) (ct := 99) rfl rfl ?_
  refine wp_go (o := .iconst 0) (nx := 17) (ct := 99) rfl rfl ?_
  refine wp_go (o := .istore 3) (nx := 18) (ct := 99) rfl rfl ?_
  exact law_loop hL 512 0 σ2 (by decide) (by omega) (li_0 e4)
end COM29
