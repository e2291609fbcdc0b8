/-! the component: what would be; undo -/
section COM22
variable {E : AEnv} {σ τ : ASt} {A B p q : Nat} {h g : Nat → Nat} {U U' : Nat → Nat → Int32} {V W : Nat → Nat} {m n t : Nat} {Hs : Nat → Nat → Nat} {Tx : Nat → Nat} {Q : Option Value → ASt → Prop} {K : Int32 → ASt → Prop} {KV : ASt → Prop}
def Pb (V : Nat → Nat) (b : Nat) : Prop := V (72 + 8 * b + 4) = 1 ∨ V (72 + 8 * b + 4) = 0 ∧ 0 < V (72 + 8 * b + 3)
theorem pb_pa {b : Nat} (hP : V (72 + 8 * b + 4) = 1) : ∀ n, Pb (dPA V n) b
  | 0 => Or.inl hP
  | n + 1 => by
    have ih := pb_pa hP n
    rw [dPA]
    generalize dPA V n = N at ih ⊢
    split
    · rename_i g
      have g4 := beq_iff'.mp g
      by_cases hn : n = b
      · subst hn
        unfold dPnt Pb
        dsimp only
        split
        · split
          · left; simp (disch := omega) only [upN_n, upN_s]; exact g4
          · right; simp (disch := omega) only [upN_n, upN_s]; first | exact ⟨trivial, by decide⟩ | exact ⟨rfl, by decide⟩ | decide
        · exact ih
      · unfold Pb at ih ⊢
        rw [dPnt_o (by omega) (by omega) (by omega), dPnt_o (by omega) (by omega) (by omega)]
        exact ih
    · exact ih
theorem wa_np {o : Nat → Bool} {b : Nat} (ho : o b = false) {k : Nat} (hk : k = 72 + 8 * b + 3 ∨ k = 72 + 8 * b + 4) : ∀ n, dWA o V n k = V k
  | 0 => rfl
  | n + 1 => by
    have ih := wa_np ho hk n
    rw [dWA, upN_n (by omega)]
    unfold dWA1
    split
    · rename_i g
      have hn : n ≠ b := fun z => by rw [z, ho] at g; exact ff g
      rw [dWea_o (by omega)]
      exact ih
    · exact ih
theorem pb_aut {b : Nat} : ∀ (n : Nat) (W : Nat → Nat), Pb W b → Pb (aut n W) b
  | 0, _, hP => hP
  | n + 1, W, hP => by
    rw [aut]
    split
    · exact hP
    · refine pb_aut n _ ?_
      generalize bsV W = c
      by_cases hc : c = b
      · left; subst hc; unfold dSnd; simp (disch := omega) only [upN_n, upN_s]
      · unfold Pb at hP ⊢
        rw [dSnd_o (by omega), dSnd_o (by omega)]
        exact hP
theorem pb_day (hw : WF m V) {b : Nat} (hP : pntd V b = true) : Pb (dDay V) b := by
  have h1 := hw.1
  unfold W1 at h1
  have g4 := beq_iff'.mp hP
  have ho : opn V b = false := by
    unfold opn
    rw [g4]; rfl
  have a1 : Pb (dW3 V) b := by
    have := pb_pa g4 (V 2)
    unfold Pb dW3 at *
    rw [wa_np ho (Or.inl rfl), wa_np ho (Or.inr rfl)]
    exact this
  have a2 : ∀ S c, Pb (dBok (dIA (dW3 V) S (V 1)) c) b := fun S c => by
    have e : ∀ j, 72 ≤ j → dBok (dIA (dW3 V) S (V 1)) c j = dW3 V j := fun j hj => by
      unfold dBok
      split
      · exact dIA_o _ (by omega) (by omega) (by omega)
      · rw [dNot_o (by omega)]
        exact dIA_o _ (by omega) (by omega) (by omega)
    unfold Pb at a1 ⊢
    rw [e _ (by omega), e _ (by omega)]
    exact a1
  have a4 := a2 (reachV (dW3 V) 0 99) (cIA (dW3 V) (reachV (dW3 V) 0 99) (V 1))
  unfold dDay dFin
  generalize dBok (dIA (dW3 V) (reachV (dW3 V) 0 99) (V 1)) (cIA (dW3 V) (reachV (dW3 V) 0 99) (V 1)) = N at a4 ⊢
  have a3 : Pb (dEnd N) b := by
    unfold Pb dEnd at *
    simp (disch := omega) only [upN_n, upN_s]
    exact a4
  split
  · exact pb_aut 4 _ a3
  · exact a3
theorem pb_st {b : Nat} (hP : Pb V b) : stOf V b = 0 ↔ ¬ pntd V b = true := by
  unfold Pb at hP
  unfold stOf
  split
  · rename_i g
    exact ⟨fun z => absurd z (by decide), fun z => absurd g z⟩
  · rename_i g
    have : V (72 + 8 * b + 4) ≠ 1 := fun z => g (beq_iff'.mpr z)
    rw [if_pos (by omega)]
    exact ⟨fun _ => g, fun _ => rfl⟩
theorem c_pinL (H : MI σ) (hq : isB q) {b : Nat} : ∀ (d k : Nat) (W : Nat → Nat) (U : Nat → Nat → Int32), k + d = 200 → b < W 2 → pntd W b = true → WF (9999 + k) W → Rel U W → (∀ U', Q (some (.int (pinL b (d + 1) W k))) (bS σ q U')) → wp E 72 40 [.ref 0, .int (nI b), .ref q, .int (nI (k + 1))] [] (bS σ q U) Q := by
  intro d
  induction d with
  | zero =>
    intro k W U hk hb hp hw R hK
    obtain rfl : k = 200 := by omega
    rw [pinL, if_pos hp] at hK
    exact sg72_40 ⟨fun _ => hK U, fun z => absurd (by decide) z⟩
  | succ d ih =>
    intro k W U hk hb hp hw R hK
    have h1 := hw.1
    unfold W1 at h1
    rw [pinL, if_pos hp] at hK
    refine sg72_40 ⟨fun z => absurd z (by rw [nI_ltI (by decide) (by omega)]; omega), fun _ => ⟨shS H hq, c_day H hq hw (by omega) R fun U' r => ?_⟩⟩
    have hd2 : dDay W 2 = W 2 := dDay_2
    have h3 := stOf_lt (dDay W) b
    have ec := nI_eq (a := stOf (dDay W) b) (b := 0) (by omega) (by decide)
    have es := pb_st (pb_day hw hp)
    have rb := r.2.2.2.2 b (by omega)
    refine ⟨shS H hq, _, rS1 H hq, 14, _, shBA H hq, vi (by omega) (by omega), rBAc H hq (by omega), shB H hq (by omega), ?_, ?_⟩
    · rw [gB (by omega), rb.2.2.2.2.2.1]
      intro g
      have hp2 : pntd (dDay W) b = true := Classical.not_not.mp fun z => g (ec.mpr (es.mpr z))
      rw [nI_add]
      exact ih (k + 1) (dDay W) U' (by omega) (by omega) hp2 (hw.day (by omega)) r hK
    · rw [gB (by omega), rb.2.2.2.2.2.1]
      intro g
      have hp2 := es.mp (ec.mp (Classical.not_not.mp g))
      have := hK U'
      rw [pinL, if_neg hp2] at this
      exact this
theorem wf9 (hw : WF 9999 V) {k : Nat} (hk : 9999 ≤ k) (h2 : k ≤ 100000) : WF k V := hw.to (by have := hw.2.2.2.2; unfold W5 at this; omega) h2
theorem u_pin (H : MI σ) (hc : CD σ V n Hs t Tx) (hw : WF 9999 V) {x : Int32} (hK : ∀ τ, FrC σ τ → CD τ V n Hs t Tx → K (qPin V x) τ) : cI E 72 [.ref 0, .int x] σ K := by
  have h1 := hw.1
  unfold W1 at h1
  have hK0 := hK σ (FrC.id σ) hc
  obtain ⟨p, q, h, hx⟩ := hc
  have hx' := hx
  obtain ⟨hd, hh, hv, ht⟩ := hx'
  have hp : isB p := hd.1
  have R := hv.2.2.1
  have e : bS σ p (blk σ p) = σ := bS_blk
  refine sg72_0 ⟨sh0 H, p, hh.1, shS H hp, ?_⟩
  have key := c_isB (E := E) (σ := σ) (x := x) (K := fun x3 s2 => (x3 ≠ (nI 0) →
    sh s2 0 5 8 ∧ ∃ r4, rf s2 0 0 r4 ∧ sh s2 r4 3 11 ∧ ∃ r5, rf s2 r4 1 r5 ∧ ∃ n6 r7, sh s2 r5 14 n6 ∧ vp_in x n6 ∧ rf s2 r5 (x).toNatClampNeg r7 ∧ sh s2 r7 1 9 ∧ ((gI s2 r7 5) = (nI 1) →
      sh s2 0 5 8 ∧ cR E 82 [.ref 0] s2 (fun r9 s8 =>
      wp E 72 40 [.ref 0, .int x, .ref r9, .int (nI 1)] [] s8 (QI K))) ∧
    (¬ (gI s2 r7 5) = (nI 1) →
      QI K (some (.int (-1000002 : Int32))) s2)) ∧
  (¬ x3 ≠ (nI 0) →
    QI K (some (.int (-1000001 : Int32))) s2)) H hp hw R ?_
  · rw [e] at key
    exact key
  rw [e]
  unfold qPin at hK hK0
  refine ⟨fun g => ?_, fun g => ?_⟩
  · rw [if_pos (show inBr V x = true from bI_1 g)] at hK hK0
    obtain ⟨hxb, ex⟩ := inBr_n hw (bI_1 g)
    generalize toN x = b at hK hK0 hxb ex
    subst ex
    have rb := R.2.2.2.2 b hxb
    have h3 := stOf_lt V b
    have ec := nI_eq (a := stOf V b) (b := 1) (by omega) (by decide)
    have s1 : stOf V b = 1 ↔ pntd V b = true := st1
    have eg : gI σ (p + 15 + b) 5 = nI (stOf V b) := by
      have := blk_g (σ := σ) (B := p) (c := 15 + b) (k := 5) (by omega)
      rw [Nat.add_assoc, ← this]
      exact rb.2.2.2.2.2.1
    refine ⟨sh0 H, p, hh.1, shS H hp, _, rS1 H hp, 14, _, shBA H hp, vi (by omega) (by omega), rBAc H hp (by omega), shB H hp (by omega), ?_, ?_⟩
    · rw [eg]
      intro g2
      have hpn := s1.mp (ec.mp g2)
      rw [if_pos hpn] at hK
      refine ⟨sh0 H, c_trl H hx hw fun U1 r1 => ?_⟩
      exact c_pinL H hd.2.1 200 0 V U1 rfl hxb hpn (wf9 hw (by decide) (by decide)) r1 fun U' => hK _ (FrC.bs hd.2.1) hx.bs.d
    · rw [eg]
      intro g2
      rw [if_neg (fun z => g2 (ec.mpr (s1.mpr z)))] at hK0
      exact hK0
  · rw [if_neg (show ¬ inBr V x = true from fun z => ff (by rw [← bI_2 g]; exact z))] at hK0
    exact hK0
theorem c_alnL (H : MI σ) (hq : isB q) {R0 : Nat} (hR : R0 < 2 ^ 8) : ∀ (d k : Nat) (W : Nat → Nat) (U : Nat → Nat → Int32), k + d = 200 → R0 ^^^ (R0 &&& reachV W 0 99) = 0 → WF (9999 + k) W → Rel U W → (∀ U', Q (some (.int (alnL R0 (d + 1) W k))) (bS σ q U')) → wp E 73 17 [.ref 0, .int (nI R0), .ref q, .int (nI (k + 1))] [] (bS σ q U) Q := by
  intro d
  induction d with
  | zero =>
    intro k W U hk hp hw R hK
    obtain rfl : k = 200 := by omega
    rw [alnL, if_pos hp] at hK
    exact sg73_17 ⟨fun _ => hK U, fun z => absurd (by decide) z⟩
  | succ d ih =>
    intro k W U hk hp hw R hK
    rw [alnL, if_pos hp] at hK
    refine sg73_17 ⟨fun z => absurd z (by rw [nI_ltI (by decide) (by omega)]; omega), fun _ => ⟨shS H hq, c_day H hq hw (by omega) R fun U' r => ?_⟩⟩
    have hw2 := hw.day (by omega)
    have hl := reach_lt hw2.ends (i := 0) (wo := 99) (by decide)
    refine ⟨shS H hq, c_rea H hq hw2 r (by decide) woI_m ?_⟩
    rw [nI_andn (by omega) (by omega)]
    have hx : R0 ^^^ (R0 &&& reachV (dDay W) 0 99) < 2 ^ 8 := Nat.xor_lt_two_pow hR (Nat.lt_of_le_of_lt Nat.and_le_left hR)
    have e := nI_eq (a := R0 ^^^ (R0 &&& reachV (dDay W) 0 99)) (b := 0) (by omega) (by decide)
    refine ⟨fun g => ?_, fun g => ?_⟩
    · rw [nI_add]
      exact ih (k + 1) (dDay W) U' (by omega) (e.mp g) hw2 r hK
    · have := hK U'
      rw [alnL, if_neg (fun z => g (e.mpr z))] at this
      exact this
theorem u_aln (H : MI σ) (hc : CD σ V n Hs t Tx) (hw : WF 9999 V) (hK : ∀ τ, FrC σ τ → CD τ V n Hs t Tx → K (qAln V) τ) : cI E 73 [.ref 0] σ K := by
  obtain ⟨p, q, h, hx⟩ := hc
  have hx' := hx
  obtain ⟨hd, hh, hv, ht⟩ := hx'
  have hp : isB p := hd.1
  have R := hv.2.2.1
  have e : bS σ p (blk σ p) = σ := bS_blk
  have hl := reach_lt hw.ends (i := 0) (wo := 99) (by decide)
  refine sg73_0 ⟨sh0 H, p, hh.1, shS H hp, ?_⟩
  have key := c_rea (E := E) (σ := σ) (i := 0) (wo := 99) (K := fun x3 s2 => sh s2 0 5 8 ∧ cR E 82 [.ref 0] s2 (fun r5 s4 => wp E 73 17 [.ref 0, .int x3, .ref r5, .int (nI 1)] [] s4 (QI K))) H hp hw R (by decide) woI_m ?_
  · rw [e] at key
    exact key
  rw [e]
  refine ⟨sh0 H, c_trl H hx hw fun U1 r1 => ?_⟩
  refine c_alnL H hd.2.1 (by omega) 200 0 V U1 rfl ?_ (wf9 hw (by decide) (by decide)) r1 fun U' => hK _ (FrC.bs hd.2.1) hx.bs.d
  rw [Nat.and_self, Nat.xor_self]
theorem c_ifdL (H : MI σ) (hq : isB q) {N : Nat} (hN : N < 2 ^ 31) : ∀ (d k c m : Nat) (W : Nat → Nat) (U : Nat → Nat → Int32), k + d = N → WF m W → m + d ≤ 100000 → Rel U W → (∀ U', Q (some (.int (nI (c + cDays d W)))) (bS σ q U')) → wp E 74 24 [.ref 0, .int (nI N), .ref q, .int (nI c), .int (nI k)] [] (bS σ q U) Q := by
  intro d
  induction d with
  | zero =>
    intro k c m W U hk hw hm R hK
    exact sg74_24 ⟨fun _ => hK U, fun z => absurd (nI_le (by omega) (by omega)) z⟩
  | succ d ih =>
    intro k c m W U hk hw hm R hK
    refine sg74_24 ⟨fun z => absurd z (nI_ge (by omega) (by omega)), fun _ => ⟨shS H hq, c_day H hq hw (by omega) R fun U' r => ?_⟩⟩
    rw [nI_add, nI_add]
    refine ih (k + 1) (c + cDay W) (m + 1) (dDay W) U' (by omega) (hw.day (by omega)) (by omega) r fun U2 => ?_
    have := hK U2
    rw [cDays, ← Nat.add_assoc] at this
    exact this
theorem u_ifd (H : MI σ) (hc : CD σ V n Hs t Tx) (hw : WF 9999 V) {x : Int32} (hK : ∀ τ, FrC σ τ → CD τ V n Hs t Tx → K (qIfd V x) τ) : cI E 74 [.ref 0, .int x] σ K := by
  have hK0 := hK σ (FrC.id σ) hc
  obtain ⟨p, q, h, hx⟩ := hc
  have hd := hx.1
  unfold qIfd at hK hK0
  have no : ¬ inRg x (nI 1) (nI 99) = true → K (-1000001 : Int32) σ := fun z => by
    rw [if_neg z] at hK0
    exact hK0
  refine sg74_0 ⟨fun g => no (inRg_lt (by decide) (by decide) g), fun g => ⟨fun g2 => ⟨sh0 H, ?_⟩, fun g2 => no (inRg_gt (by decide) (by decide) g2)⟩⟩
  have hr := inRg_mk (by decide) (by decide) g g2
  rw [if_pos hr] at hK
  obtain ⟨c1, c2, c3⟩ := inRg_n (by decide) (by decide) hr
  generalize toN x = a at hK c1 c2 c3
  subst c3
  refine c_trl H hx hw fun U1 r1 => ?_
  refine c_ifdL H hd.2.1 (by omega) a 0 0 9999 V U1 (by omega) hw (by omega) r1 fun U' => ?_
  rw [Nat.zero_add]
  exact hK _ (FrC.bs hd.2.1) hx.bs.d
theorem u_und (H : MI σ) (hc : CD σ V n Hs t Tx) (hK0 : n = 0 → K (-1000002 : Int32) σ) (hK : ∀ τ, 0 < n → FrC σ τ → CD τ (Hs (n - 1)) (n - 1) Hs t Tx → K (nI (n - 1)) τ) : cI E 77 [.ref 0] σ K := by
  obtain ⟨p, q, h, hd, hh, ⟨v1, v2, v3, v4⟩, ht⟩ := hc
  have e0 := nI_eq (a := n) (b := 0) (by omega) (by decide)
  refine sg77_0 ⟨sh0 H, ?_, ?_⟩
  · rw [v1]
    intro g
    have hn : 0 < n := by
      have : n ≠ 0 := fun z => g (e0.mpr z)
      omega
    rw [pk_sub (by omega)]
    have H1 : MI (wrI σ 0 3 (nI (n - 1))) := H
    have H2 : MI (wrR (wrI σ 0 3 (nI (n - 1))) 0 0 (h (n - 1))) := FrC.mi (FrC.r0 (by decide)) H1
    have H3 : MI (wrR (wrR (wrI σ 0 3 (nI (n - 1))) 0 0 (h (n - 1))) 59 (n - 1) p) := FrC.mi FrC.r59 H2
    have h1 : HX (wrI σ 0 3 (nI (n - 1))) p q h := hh
    have h2 : HX (wrR (wrI σ 0 3 (nI (n - 1))) 0 0 (h (n - 1))) (h (n - 1)) q h := h1.wo
    have h3 : HX (wrR (wrR (wrI σ 0 3 (nI (n - 1))) 0 0 (h (n - 1))) 59 (n - 1) p) (h (n - 1)) q (upN h (n - 1) p) := h2.wh
    have g3 : gI (wrI σ 0 3 (nI (n - 1))) 0 3 = nI (n - 1) := wr_s
    have g4 : gI (wrR (wrI σ 0 3 (nI (n - 1))) 0 0 (h (n - 1))) 0 3 = nI (n - 1) := g3
    have g5 : gI (wrR (wrR (wrI σ 0 3 (nI (n - 1))) 0 0 (h (n - 1))) 59 (n - 1) p) 0 3 = nI (n - 1) := g3
    refine ⟨sh0 H, sh0 H, nw_i ⟨sh0 H1, p, h1.1, sh0 H1, _, r02 H1, sh0 H1, 4, h (n - 1), sh59 H1, ?_, ?_, sh0 H1, nw_i ⟨sh0 H2, _, r02 H2, sh0 H2, 4, sh59 H2, ?_, shS H2 hd.1, ?_⟩⟩⟩
    · rw [g3]; exact vi (by omega) (by decide)
    · rw [g3, cl _ (by omega)]; exact h1.2.2 _ (by omega)
    · rw [g4]; exact vi (by omega) (by decide)
    · rw [g4, cl _ (by omega)]
      refine nw_i ⟨sh0 H3, ?_⟩
      rw [g5]
      refine hK _ hn (((FrC.wr (by decide)).tr (FrC.r0 (by decide))).tr FrC.r59) ⟨h (n - 1), q, upN h (n - 1) p, ?_, h3, ⟨g5, by omega, ?_, fun j hj => ?_⟩, (wr_c (σ := σ) (c := 0) (k := 3) (x := nI (n - 1)) (d := 60) (j := 1) (by decide)).trans ht.1, ht.2.1, fun j hj => (wr_c (σ := σ) (c := 0) (k := 3) (x := nI (n - 1)) (d := 61) (j := j) (by decide)).trans (ht.2.2 j hj)⟩
      · obtain ⟨d1, d2, d3, d4, d5, d6⟩ := hd
        refine ⟨d3 _ (by omega), d2, fun j hj => ?_, (d5 _ (by omega)).2, fun j hj => ?_, fun i j hi hj hij => ?_⟩
        · by_cases hjn : j = n - 1
          · rw [hjn, upN_s]; exact d1
          · rw [upN_n hjn]; exact d3 j hj
        · by_cases hjn : j = n - 1
          · rw [hjn, upN_s]; exact ⟨Ne.symm (d5 _ (by omega)).1, d4⟩
          · rw [upN_n hjn]; exact ⟨d6 j _ hj (by omega) hjn, (d5 j hj).2⟩
        · by_cases hin : i = n - 1
          · rw [hin, upN_s, upN_n (by omega)]; exact Ne.symm (d5 j hj).1
          · by_cases hjn : j = n - 1
            · rw [hjn, upN_s, upN_n hin]; exact (d5 i hi).1
            · rw [upN_n hin, upN_n hjn]; exact d6 i j hi hj hij
      · rw [blk_eq (s := wrR (wrR (wrI σ 0 3 (nI (n - 1))) 0 0 (h (n - 1))) 59 (n - 1) p) (σ := wrI σ 0 3 (nI (n - 1))) rfl, blk_wr (hd.2.2.1 _ (by omega)) (isB_0 (hd.2.2.1 _ (by omega)))]
        exact v4 _ (by omega)
      · have hb := hd.2.2.1 j (by omega)
        rw [blk_eq (s := wrR (wrR (wrI σ 0 3 (nI (n - 1))) 0 0 (h (n - 1))) 59 (n - 1) p) (σ := wrI σ 0 3 (nI (n - 1))) rfl, upN_n (by omega), blk_wr hb (isB_0 hb)]
        exact v4 j (by omega)
  · rw [v1]
    exact fun g => hK0 (e0.mp (Classical.not_not.mp g))
end COM22
