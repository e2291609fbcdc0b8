/-! the component obeys its text -/
section COM24
variable {E : AEnv} {σ τ : ASt} {p q : Nat} {h : Nat → Nat} {U : Nat → Nat → Int32} {V W : Nat → Nat} {m n t t' : Nat} {Hs : Nat → Nat → Nat} {Tx Tx' : Nat → Nat} {A D : Nat → Int32} {Q : Option Value → ASt → Prop} {K : Int32 → ASt → Prop} {KV : ASt → Prop}
theorem isB_6 {B c d : Nat} (hB : isB B) (hc : c < 29) (hd : d = 60 ∨ d = 61 ∨ d = 62) : B + c ≠ d := by unfold isB at hB; omega
theorem CX.tx (hx : CX σ p q h V n Hs t Tx) (hi : ∀ c, c ≠ 60 → c ≠ 61 → c ≠ 62 → τ.2.1 c = σ.2.1 c) (hr : τ.2.2 = σ.2.2) (ht : CT τ t' Tx') : CX τ p q h V n Hs t' Tx' := by
  obtain ⟨hd, hh, ⟨v1, v2, v3, v4⟩, _⟩ := hx
  have eb : ∀ B, isB B → blk τ B = blk σ B := fun B hB => by
    funext c
    unfold blk
    by_cases hc : c < 29
    · rw [if_pos hc, if_pos hc, hi _ (isB_6 hB hc (by omega)) (isB_6 hB hc (by omega)) (isB_6 hB hc (by omega))]
    · rw [if_neg hc, if_neg hc]
  refine ⟨hd, ?_, ⟨?_, v2, ?_, fun j hj => ?_⟩, ht⟩
  · unfold HX rf at hh ⊢
    rw [hr]
    exact hh
  · show τ.2.1 0 3 = _
    rw [hi 0 (by decide) (by decide) (by decide)]
    exact v1
  · rw [eb p hd.1]; exact v3
  · rw [eb _ (hd.2.2.1 j (by omega))]; exact v4 j hj
theorem CX.zs (hx : CX σ p q h V n Hs t Tx) (h1 : A 1 = nI t) : CX (zS σ A D) p q h V n Hs t Tx := hx.tx (fun c h0 _ h2 => by
  show (if c = 60 then A else if c = 62 then D else σ.2.1 c) = _
  rw [if_neg h0, if_neg h2]) rfl ⟨h1, hx.2.2.2.2.1, fun j hj => (z_o (by decide) (by decide)).trans (hx.2.2.2.2.2 j hj)⟩
theorem CX.w0 (hx : CX σ p q h V n Hs t Tx) {k : Nat} {x : Int32} (hk : k ≠ 3) : CX (wrI σ 0 k x) p q h V n Hs t Tx := by
  obtain ⟨hd, hh, ⟨v1, v2, v3, v4⟩, t1, t2, t3⟩ := hx
  refine ⟨hd, hh, ⟨(wr_k (Ne.symm hk)).trans v1, v2, ?_, fun j hj => ?_⟩, (wr_c (by decide)).trans t1, t2, fun j hj => (wr_c (by decide)).trans (t3 j hj)⟩
  · rw [blk_wr hd.1 (isB_0 hd.1)]; exact v3
  · have hb := hd.2.2.1 j (by omega)
    rw [blk_wr hb (isB_0 hb)]; exact v4 j hj
theorem FrC.zs : FrC σ (zS σ A D) := ⟨rfl, fun c hc => by
  show (if c = 60 then A else if c = 62 then D else σ.2.1 c) = _
  rw [if_neg (by omega), if_neg (by omega)], fun _ _ _ _ => rfl⟩
theorem blk_zs {B : Nat} (hB : isB B) : blk (zS σ A D) B = blk σ B := by
  funext c
  unfold blk
  by_cases hc : c < 29
  · rw [if_pos hc, if_pos hc]
    show (if B + c = 60 then A else if B + c = 62 then D else σ.2.1 (B + c)) = _
    rw [if_neg (isB_6 hB hc (by omega)), if_neg (isB_6 hB hc (by omega))]
  · rw [if_neg hc, if_neg hc]
theorem cDays_le : ∀ (n m : Nat) (V : Nat → Nat), WF m V → m + n ≤ 100000 → cDays n V ≤ 8 * n
  | 0, _, _, _, _ => Nat.le_refl _
  | n + 1, m, V, hw, hm => by
    have h1 := cDay_le hw
    have h2 := cDays_le n (m + 1) (dDay V) (hw.day (by omega)) (by omega)
    rw [cDays]
    omega
theorem aOrd_lt (hw : WF 9999 V) {l : Nat} {N : Nat → Nat} (he : nI 0 ≤ eOrd V l N) : aOrd V l N < 2 ^ 31 := by
  have h12 := hw.w12
  have h5 := hw.2.2.2.2
  unfold W5 at h5
  unfold eOrd at he
  unfold aOrd
  by_cases h98 : l = 98
  · rw [if_pos h98]; omega
  rw [if_neg h98] at he ⊢
  by_cases h102 : l = 102
  · rw [if_pos h102]
    have := cutV_lt hw (toN (nI (N 0)))
    omega
  rw [if_neg h102] at he ⊢
  by_cases h105 : l = 105
  · rw [if_pos h105]; omega
  rw [if_neg h105] at he ⊢
  by_cases h112 : l = 112
  · rw [if_pos h112] at he ⊢
    have := (ePay_ok he).2.2.2
    omega
  rw [if_neg h112] at he ⊢
  by_cases h114 : l = 114
  · rw [if_pos h114] at he ⊢
    have := hw.2.2.1 _ (eRec_ok hw he).1
    omega
  rw [if_neg h114] at he ⊢
  by_cases h115 : l = 115
  · rw [if_pos h115]
    have := cutV_lt hw (toN (nI (N 0)))
    omega
  rw [if_neg h115] at he ⊢
  obtain ⟨_, h2, _, h4⟩ := eDys_ok he
  have := cDays_le (toN (nI (N 0))) (V 0) V (hw.to (Nat.le_refl _) (by omega)) (by omega)
  omega
theorem c_obo (H : MI σ) (hq : isB q) (hw : WF m W) (R : Rel (blk σ q) W) {l : Nat} {N : Nat → Nat} (hl : l ≤ 126) (hg : lgl l = true) (h3 : gI σ 60 3 = nI l) (hN : ∀ j, j < cntL l → gI σ 62 j = nI (N j)) (hK : ∀ U', Rel U' (opV (eOrd W l N) W (dOrd W l N)) → K (opA (eOrd W l N) (aOrd W l N)) (bS σ q U')) : cI E 87 [.ref 0, .ref q] σ K := by
  have le : ∀ x, x < 2 ^ 31 → nI l = nI x → l = x := fun x hx => (nI_eq (by omega) hx).mp
  have hN0 : gI σ 62 0 = nI (N 0) := hN 0 (by unfold cntL; split <;> omega)
  refine sg87_0 ⟨sh0 H, _, r04 H, sh60 H, _, r62 H, 3, sh62 H, vi (by decide) (by decide), sh0 H, _, r04 H, sh60 H, ?_⟩
  rw [h3, hN0]
  refine ⟨fun g => ?_, fun g98 => ⟨fun g => ?_, fun g99 => ⟨fun g => ?_, fun g100 => ⟨fun g => ?_, fun g101 => ⟨fun g => ?_, fun g102 => ⟨fun g => ?_, fun g103 => ⟨fun g => ?_, fun g104 => ⟨fun g => ?_, fun g105 => ⟨fun g => ?_, fun g106 => ⟨fun g => ?_, fun g107 => ⟨fun g => ?_, fun g108 => ⟨fun g => ?_, fun g109 => ⟨fun g => ?_, fun g110 => ⟨fun g => ?_, fun g111 => ⟨fun g => ?_, fun g112 => ⟨fun g => ?_, fun g113 => ⟨fun g => ?_, fun g114 => ⟨fun g => ?_, fun g115 => ?_⟩⟩⟩⟩⟩⟩⟩⟩⟩⟩⟩⟩⟩⟩⟩⟩⟩⟩
  · have hk := le 98 (by decide) g
    subst hk
    refine ⟨sh0 H, _, r04 H, sh60 H, _, r62 H, 3, sh62 H, vi (by decide) (by decide), sh0 H, _, r04 H, sh60 H, _, r62 H, 3, sh62 H, vi (by decide) (by decide), shS H hq, ?_⟩
    rw [hN 1 (by decide), hN 2 (by decide)]
    have key : cI E 23 [.ref q, .int (nI (N 0)), .int (nI (N 1)), .int (nI (N 2))] (bS σ q (blk σ q)) K := c_nbr H hq hw R hK
    rw [bS_blk] at key
    exact key
  · have hk := le 99 (by decide) g
    subst hk
    exact absurd hg (by decide)
  · have hk := le 100 (by decide) g
    subst hk
    refine ⟨shS H hq, ?_⟩
    have key : cI E 28 [.ref q, .int (nI (N 0))] (bS σ q (blk σ q)) K := c_dys H hq hw R hK
    rw [bS_blk] at key
    exact key
  · have hk := le 101 (by decide) g
    subst hk
    exact absurd hg (by decide)
  · have hk := le 102 (by decide) g
    subst hk
    refine ⟨shS H hq, ?_⟩
    have key : cI E 24 [.ref q, .int (nI (N 0)), .int (nI 1)] (bS σ q (blk σ q)) K := c_snd H hq hw R hK
    rw [bS_blk] at key
    exact key
  · have hk := le 103 (by decide) g
    subst hk
    exact absurd hg (by decide)
  · have hk := le 104 (by decide) g
    subst hk
    exact absurd hg (by decide)
  · have hk := le 105 (by decide) g
    subst hk
    refine ⟨shS H hq, ?_⟩
    have key : cI E 22 [.ref q, .int (nI (N 0))] (bS σ q (blk σ q)) K := c_isl H hq hw R hK
    rw [bS_blk] at key
    exact key
  · have hk := le 106 (by decide) g
    subst hk
    exact absurd hg (by decide)
  · have hk := le 107 (by decide) g
    subst hk
    exact absurd hg (by decide)
  · have hk := le 108 (by decide) g
    subst hk
    exact absurd hg (by decide)
  · have hk := le 109 (by decide) g
    subst hk
    exact absurd hg (by decide)
  · have hk := le 110 (by decide) g
    subst hk
    exact absurd hg (by decide)
  · have hk := le 111 (by decide) g
    subst hk
    exact absurd hg (by decide)
  · have hk := le 112 (by decide) g
    subst hk
    refine ⟨shS H hq, ?_⟩
    have key : cI E 26 [.ref q, .int (nI (N 0))] (bS σ q (blk σ q)) K := c_pay H hq hw R hK
    rw [bS_blk] at key
    exact key
  · have hk := le 113 (by decide) g
    subst hk
    exact absurd hg (by decide)
  · have hk := le 114 (by decide) g
    subst hk
    refine ⟨shS H hq, ?_⟩
    have key : cI E 25 [.ref q, .int (nI (N 0))] (bS σ q (blk σ q)) K := c_rec H hq hw R hK
    rw [bS_blk] at key
    exact key
  · have hk := le 115 (by decide) g
    subst hk
    refine ⟨shS H hq, ?_⟩
    have key : cI E 24 [.ref q, .int (nI (N 0)), .int (nI 0)] (bS σ q (blk σ q)) K := c_snd H hq hw R hK
    rw [bS_blk] at key
    exact key
  · have ne : ∀ x, ¬ nI l = nI x → Nat.beq l x = false := fun x h => by
      cases hq : Nat.beq l x with
      | false => rfl
      | true => exact absurd (congrArg nI (beq_iff'.mp hq)) h
    have e : lgl l = false := by
      unfold lgl
      rw [ne 105 g105, ne 98 g98, ne 115 g115, ne 102 g102, ne 114 g114, ne 112 g112, ne 100 g100]
      rfl
    rw [e] at hg
    exact absurd hg ff
theorem ordF_l {sp : Nat} (h : ordF t Tx sp = true) : lgl (hre t Tx sp) = true := by
  cases hq : lgl (hre t Tx sp) with
  | true => rfl
  | false =>
    obtain ⟨n1, _⟩ := ord_no (t := t) (Tx := Tx) (sp := sp) (k := 0) (Nat.zero_le _) (Or.inr hq) (by rw [stgs]; unfold stg0; rw [hq])
    rw [n1] at h
    exact absurd h ff
theorem plL_wf : ∀ (d : Nat) (V : Nat → Nat) (n sp : Nat), WF 9999 V → WF 9999 (plL t Tx d V n sp).2.1
  | 0, _, _, _, hw => hw
  | d + 1, V, n, sp, hw => by
    rw [plL]
    split
    · exact hw
    · split
      · split
        · rename_i he
          exact plL_wf d _ _ _ (hw.ord he)
        · exact hw
      · exact hw
theorem plL_n : ∀ (d : Nat) (V : Nat → Nat) (n sp : Nat), (plL t Tx d V n sp).1 ≤ n + d
  | 0, _, _, _ => Nat.le_refl _
  | d + 1, V, n, sp => by
    rw [plL]
    split
    · dsimp only; omega
    · split
      · split
        · have := plL_n d (dOrd V (hre t Tx sp) (ordN t Tx sp)) (n + 1) (ordP t Tx sp)
          omega
        · dsimp only; omega
      · dsimp only; omega
theorem c_nfa {s : ASt} (H : MI s) (hx : CX s p q h V n Hs t Tx) {x y z : Int32} (hK : ∀ τ, FrC s τ → CX τ p q h V n Hs t Tx → gI τ 0 5 = x → gI τ 0 6 = y → gI τ 0 7 = z → KV τ) : cV E 86 [.ref 0, .int x, .int y, .int z] s KV := by
  refine sg86_0 ⟨sh0 H, nw_i ⟨sh0 H, nw_i ⟨sh0 H, nw_i (hK _ (((FrC.wr (by decide)).tr (FrC.wr (by decide))).tr (FrC.wr (by decide))) (((hx.w0 (by decide)).w0 (by decide)).w0 (by decide)) ?_ ?_ wr_s)⟩⟩⟩
  · rw [wr_k (by decide), wr_k (by decide), wr_s]
  · rw [wr_k (by decide), wr_s]
theorem c_obL (hTx : ∀ j, j < t → Tx j ≤ 126) {R : Nat × (Nat → Nat) × Nat × Nat × Int32}
    (hK1 : R.2.2.1 = 0 → ∀ τ, FrC σ τ → CX τ p q h V n Hs t Tx → Rel (blk τ q) R.2.1 → Q (some (.int (nI R.1))) τ)
    (hK0 : R.2.2.1 ≠ 0 → ∀ τ, FrC σ τ → CX τ p q h V n Hs t Tx → gI τ 0 5 = nI R.2.2.2.1 → gI τ 0 6 = nI R.2.2.1 → gI τ 0 7 = R.2.2.2.2 → Q (some (.int (-1000002 : Int32))) τ) :
    ∀ (d k sp : Nat) (W : Nat → Nat) (s : ASt), k + d = 60 → sp ≤ 14 * k → MI s → FrC σ s → CX s p q h V n Hs t Tx → Rel (blk s q) W → WF 9999 W → plL t Tx d W k sp = R → wp E 85 4 [.ref 0, .ref q, .int (nI sp), .int (nI k)] [] s Q := by
  intro d
  induction d with
  | zero =>
    intro k sp W s hk hsp H hf hx Rw hw hR
    obtain rfl : k = 60 := by omega
    rw [plL] at hR
    subst hR
    exact sg85_4 ⟨fun _ => hK1 rfl s hf hx Rw, fun z => absurd (nI_le (by decide) (by decide)) z⟩
  | succ d ih =>
    intro k sp W s hk hsp H hf hx Rw hw hR
    have hq : isB q := hx.1.2.1
    obtain ⟨t1, t2, t3⟩ := hx.2.2.2
    have et := nI_leI (a := t) (b := sp) (by omega) (by omega)
    rw [plL] at hR
    refine sg85_4 ⟨fun z => absurd z (nI_ge (by omega) (by omega)), fun _ => ⟨sh0 H, _, r04 H, sh60 H, ?_, ?_⟩⟩
    · rw [t1]
      intro g
      rw [if_pos (et.mp g)] at hR
      subst hR
      exact hK1 rfl s hf hx Rw
    rw [t1]
    intro g
    have hlt : ¬ t ≤ sp := fun z => g (et.mpr z)
    rw [if_neg hlt] at hR
    refine ⟨sh0 H, _, r04 H, sh60 H, ?_⟩
    rw [← zS_self (σ := s)]
    refine c_ord H t2 hTx t3 (by omega) t1 fun A' D' ho => ?_
    obtain ⟨o1, o3, o4, oN⟩ := ho
    have H3 : MI (zS s A' D') := H
    have hx3 : CX (zS s A' D') p q h V n Hs t Tx := hx.zs o1
    have hf3 : FrC σ (zS s A' D') := hf.tr FrC.zs
    have hb3 : blk (zS s A' D') q = blk s q := blk_zs hq
    have h43 : gI (zS s A' D') 60 4 = nI (ordP t Tx sp) := o4
    have R3 : Rel (blk (zS s A' D') q) W := by rw [hb3]; exact Rw
    have hl := hre_lt hTx sp
    have hN3 : ordF t Tx sp = true → ∀ j, j < cntL (hre t Tx sp) → gI (zS s A' D') 62 j = nI (ordN t Tx sp j) := oN
    have h33 : gI (zS s A' D') 60 3 = nI (hre t Tx sp) := o3
    have hPl := ordP_le (t := t) (Tx := Tx) (sp := sp)
    have hPg := ordP_ge (t := t) (Tx := Tx) (sp := sp)
    generalize zS s A' D' = s3 at H3 hx3 hf3 h43 R3 hb3 hN3 h33 ⊢
    refine ⟨fun g2 => ?_, fun g2 => ?_⟩
    · have hF := bI_1 g2
      have hlg := ordF_l hF
      rw [if_pos hF] at hR
      have ha := aOrd_lt (l := hre t Tx sp) (N := ordN t Tx sp) hw
      have hwo := WF.ord (l := hre t Tx sp) (N := ordN t Tx sp) hw
      refine ⟨sh0 H3, c_obo H3 hq hw R3 (by omega) hlg h33 (hN3 hF) fun U' r => ?_⟩
      generalize eOrd W (hre t Tx sp) (ordN t Tx sp) = e at r hR ha hwo ⊢
      have H4 : MI (bS s3 q U') := H3
      have hx4 : CX (bS s3 q U') p q h V n Hs t Tx := hx3.bs
      have hf4 : FrC σ (bS s3 q U') := hf3.tr (FrC.bs hq)
      have nz : ∀ c k, (c = 0 ∨ 59 ≤ c ∧ c < 63) → gI (bS s3 q U') c k = gI s3 c k := fun c k hc => bS_ne (by unfold isB at hq; omega)
      have h44 : gI (bS s3 q U') 60 4 = nI (ordP t Tx sp) := (nz _ _ (by omega)).trans h43
      unfold opV opA at *
      by_cases he : nI 0 ≤ e
      · rw [if_pos he] at r hR
        rw [if_pos he]
        refine ⟨fun _ => ⟨sh0 H4, _, r04 H4, sh60 H4, ?_⟩, fun z => absurd (nI_le (Nat.zero_le _) (ha he)) z⟩
        rw [h44, nI_add]
        exact ih (k + 1) (ordP t Tx sp) _ _ (by omega) (by omega) H4 hf4 hx4 (r.in (hwo he).w12) (hwo he) hR
      · rw [if_neg he] at r hR
        rw [if_neg he]
        subst hR
        refine ⟨fun z => absurd z he, fun _ => ⟨sh0 H4, c_nfa H4 hx4 fun τ hf5 hx5 h6 h7 h8 => hK0 (Nat.succ_ne_zero 1) τ (hf4.tr hf5) hx5 h6 h7 h8⟩⟩
    · have hF := bI_2 g2
      rw [if_neg (by rw [hF]; exact ff)] at hR
      subst hR
      refine ⟨sh0 H3, _, r04 H3, sh60 H3, sh0 H3, ?_⟩
      rw [h43, show nI (ordP t Tx sp) - nI sp = nI (ordP t Tx sp - sp) from pk_sub hPg]
      exact c_nfa H3 hx3 fun τ hf5 hx5 h6 h7 h8 => hK0 (Nat.succ_ne_zero 0) τ (hf3.tr hf5) hx5 h6 h7 h8
theorem c_obt (H : MI σ) (hTx : ∀ j, j < t → Tx j ≤ 126) (hx : CX σ p q h V n Hs t Tx) (Rw : Rel (blk σ q) V) (hw : WF 9999 V)
    (hK1 : (plL t Tx 60 V 0 0).2.2.1 = 0 → ∀ τ, FrC σ τ → CX τ p q h V n Hs t Tx → Rel (blk τ q) (plL t Tx 60 V 0 0).2.1 → K (nI (plL t Tx 60 V 0 0).1) τ)
    (hK0 : (plL t Tx 60 V 0 0).2.2.1 ≠ 0 → ∀ τ, FrC σ τ → CX τ p q h V n Hs t Tx → gI τ 0 5 = nI (plL t Tx 60 V 0 0).2.2.2.1 → gI τ 0 6 = nI (plL t Tx 60 V 0 0).2.2.1 → gI τ 0 7 = (plL t Tx 60 V 0 0).2.2.2.2 → K (-1000002 : Int32) τ) : cI E 85 [.ref 0, .ref q] σ K := by
  have hq : isB q := hx.1.2.1
  exact sg85_0 (c_obL (σ := σ) hTx hK1 hK0 60 0 0 V _ rfl (Nat.le_refl _) H (FrC.id σ) hx Rw hw rfl)
theorem u_flt (H : MI σ) (hc : CD σ V n Hs t Tx) (hTx : ∀ j, j < t → Tx j ≤ 126) (hw : WF 9999 V) {x : Int32} (hK : ∀ τ, FrC σ τ → CD τ V n Hs t Tx → K (qFlt V t Tx x) τ) : cI E 80 [.ref 0, .int x] σ K := by
  have hK0 := hK σ (FrC.id σ) hc
  obtain ⟨p, q, h, hx⟩ := hc
  have hq : isB q := hx.1.2.1
  unfold qFlt at hK hK0
  have no : ¬ inRg x (nI 0) (nI 2) = true → K (-1000001 : Int32) σ := fun z => by
    rw [if_neg z] at hK0
    exact hK0
  refine sg80_0 ⟨fun g => no (inRg_lt (by decide) (by decide) g), fun g => ⟨fun g2 => ⟨sh0 H, c_trl H hx hw fun U1 r1 => ?_⟩, fun g2 => no (inRg_gt (by decide) (by decide) g2)⟩⟩
  have hr := inRg_mk (by decide) (by decide) g g2
  rw [if_pos hr] at hK
  have H1 : MI (bS σ q U1) := H
  have hf1 : FrC σ (bS σ q U1) := FrC.bs hq
  have hn := plL_n (t := t) (Tx := Tx) 60 V 0 0
  refine ⟨sh0 H1, c_obt H1 hTx hx.bs (r1.in hw.w12) hw (fun hz τ hf hx2 _ => ?_) fun hz τ hf hx2 h6 h7 h8 => ?_⟩
  · have := hK τ (hf1.tr hf) hx2.d
    rw [if_pos hz] at this
    exact ⟨fun z => absurd ((nI_ltI (by omega) (by decide)).mp z) (Nat.not_lt_zero _), fun _ => this⟩
  · have hk := hK τ (hf1.tr hf) hx2.d
    have Hr : MI τ := hf.mi H1
    rw [if_neg hz] at hk
    refine ⟨fun _ => ⟨fun g3 => ⟨sh0 Hr, ?_⟩, fun g3 => ⟨fun g4 => ⟨sh0 Hr, ?_⟩, fun g4 => ⟨sh0 Hr, ?_⟩⟩⟩, fun z => absurd (by decide) z⟩
    · rw [if_pos g3] at hk
      rw [h6]; exact hk
    · rw [if_neg g3, if_pos g4] at hk
      rw [h7]; exact hk
    · rw [if_neg g3, if_neg g4] at hk
      rw [h8]; exact hk
theorem u_ply (H : MI σ) (hc : CD σ V n Hs t Tx) (hTx : ∀ j, j < t → Tx j ≤ 126) (hw : WF 9999 V)
    (hK1 : (plL t Tx 60 V 0 0).2.2.1 = 0 → ∀ τ, FrC σ τ → CD τ (plL t Tx 60 V 0 0).2.1 (pushN n) (pushH n Hs V) t Tx → K (nI (plL t Tx 60 V 0 0).1) τ)
    (hK2 : (plL t Tx 60 V 0 0).2.2.1 ≠ 0 → ∀ τ, FrC σ τ → CD τ V n Hs t Tx → K (-1000002 : Int32) τ) : cI E 81 [.ref 0] σ K := by
  obtain ⟨p, q, h, hx⟩ := hc
  have hq : isB q := hx.1.2.1
  refine sg81_0 ⟨sh0 H, c_trl H hx hw fun U1 r1 => ?_⟩
  have H1 : MI (bS σ q U1) := H
  have hf1 : FrC σ (bS σ q U1) := FrC.bs hq
  have hn := plL_n (t := t) (Tx := Tx) 60 V 0 0
  refine ⟨sh0 H1, c_obt H1 hTx hx.bs (r1.in hw.w12) hw (fun hz τ hf hx2 R2 => ?_) fun hz τ hf hx2 h6 h7 h8 => ?_⟩
  · have Hr : MI τ := hf.mi H1
    exact ⟨sh0 Hr, c_sty Hr hx2 R2 (nI_le (Nat.zero_le _) (by omega)) fun ρ hf2 hc2 => hK1 hz ρ ((hf1.tr hf).tr hf2) hc2⟩
  · have Hr : MI τ := hf.mi H1
    exact ⟨sh0 Hr, c_stn lt02 (hK2 hz τ (hf1.tr hf) hx2.d)⟩
theorem vch {j : Nat} (h : j ≤ 126) : ((nI j).toUInt32 % 65536).toInt32 = nI j ∧ vp_nar .char (nI j) = nI j := by
  have h1 : ∀ j, j < 127 → ((nI j).toUInt32 % 65536).toInt32 = nI j ∧ vp_nar .char (nI j) = nI j := by decide
  exact h1 j (by omega)
theorem u_typ (H : MI σ) (hc : CD σ V n Hs t Tx) {x : Int32} (hK : ∀ τ, FrC σ τ → CD τ V n Hs (nTyp t x) (fTyp t Tx x) → K (qTyp t x) τ) : cI E 78 [.ref 0, .int x] σ K := by
  obtain ⟨p, q, h, hx⟩ := hc
  unfold nTyp fTyp qTyp at hK
  have no : ¬ inRg x (nI 32) (nI 126) = true → K (-1000001 : Int32) σ := fun z => by
    rw [if_neg z, if_neg z, if_neg z] at hK
    exact hK σ (FrC.id σ) hx.d
  refine sg78_0 ⟨fun g => no (inRg_lt (by decide) (by decide) g), fun g => ⟨fun g2 => ⟨sh0 H, _, r04 H, sh60 H, ?_⟩, fun g2 => no (inRg_gt (by decide) (by decide) g2)⟩⟩
  have hr := inRg_mk (by decide) (by decide) g g2
  rw [if_pos hr, if_pos hr, if_pos hr] at hK
  obtain ⟨c1, c2, c3⟩ := inRg_n (by decide) (by decide) hr
  generalize toN x = j at hK c1 c2 c3
  subst c3
  obtain ⟨t1, t2, t3⟩ := hx.2.2.2
  have et := nI_ltI (a := t) (b := 60) (by omega) (by decide)
  rw [(vch c2).1]
  refine sg51_0 ⟨sh60 H, ?_, ?_⟩
  · rw [t1]
    intro g3
    have h60 := et.mp g3
    rw [if_neg (by omega), if_neg (by omega), if_neg (by omega)] at hK
    refine ⟨sh60 H, _, r60 H, sh60 H, 60, sh61 H, vi h60 (by decide), ?_⟩
    rw [cl _ (by omega), (vch c2).2]
    have H1 : MI (wrI σ 61 t (nI j)) := H
    refine nw_i ⟨sh60 H1, sh60 H1, ?_⟩
    rw [show gI (wrI σ 61 t (nI j)) 60 1 = nI t from (wr_c (by decide)).trans t1, nI_add]
    have H2 : MI (wrI (wrI σ 61 t (nI j)) 60 1 (nI (t + 1))) := H
    refine nw_i ⟨fb1, fun z => absurd z (by decide), fun _ => ⟨sh0 H2, _, r04 H2, sh60 H2, ?_⟩⟩
    rw [show gI (wrI (wrI σ 61 t (nI j)) 60 1 (nI (t + 1))) 60 1 = nI (t + 1) from wr_s]
    refine hK _ ((FrC.wr (by decide)).tr (FrC.wr (by decide))) (CX.d (hx.tx (fun c h0 h1 h2 => ?_) rfl ⟨wr_s, by omega, fun i hi => ?_⟩))
    · show (if c = 60 then _ else if c = 61 then _ else σ.2.1 c) = _
      rw [if_neg h0, if_neg h1]
    · rw [wr_c (by decide)]
      by_cases hit : i = t
      · subst hit
        rw [wr_s, upN_s]
      · rw [wr_k hit, upN_n hit]
        exact t3 i (by omega)
  · rw [t1]
    intro g3
    have h60 : t = 60 := by
      have : ¬ t < 60 := fun z => g3 (et.mpr z)
      omega
    rw [if_pos h60, if_pos h60, if_pos h60] at hK
    exact ⟨fb0, fun _ => hK σ (FrC.id σ) hx.d, fun z => absurd rfl z⟩
theorem u_clr (H : MI σ) (hc : CD σ V n Hs t Tx) (hK : ∀ τ, FrC σ τ → CD τ V n Hs 0 Tx → K (nI t) τ) : cI E 79 [.ref 0] σ K := by
  obtain ⟨p, q, h, hx⟩ := hc
  obtain ⟨t1, t2, t3⟩ := hx.2.2.2
  refine sg79_0 ⟨sh0 H, _, r04 H, sh60 H, sh0 H, _, r04 H, sh60 H, ?_⟩
  rw [t1]
  refine nw_i (hK _ (FrC.wr (by decide)) (CX.d (hx.tx (fun c h0 h1 h2 => ?_) rfl ⟨wr_s, by omega, fun i hi => absurd hi (Nat.not_lt_zero _)⟩)))
  show (if c = 60 then _ else σ.2.1 c) = _
  rw [if_neg h0]
end COM24
