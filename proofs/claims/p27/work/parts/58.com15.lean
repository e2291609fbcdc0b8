/-! the component's bridges wear -/
section COM15
variable {E : AEnv} {σ τ : ASt} {B : Nat} {U U' : Nat → Nat → Int32} {V W : Nat → Nat} {m n t : Nat} {Q : Option Value → ASt → Prop} {K : Int32 → ASt → Prop} {KV : ASt → Prop}
theorem upN_id {k : Nat} : upN V k (V k) = V := by
  funext j
  unfold upN
  by_cases h : j = k
  · rw [if_pos h, h]
  · rw [if_neg h]
theorem Rel.clo (hw : WF m V) (R : Rel U V) {b x : Nat} (hb : b < V 2) : Rel (upU U (15 + b) 7 (nI x)) (upN V (72 + 8 * b + 6) x) := by
  have rb := R.2.2.2.2 b hb
  have o : ∀ j, j ≠ 72 + 8 * b + 6 → upN V (72 + 8 * b + 6) x j = V j := fun j h => upN_n h
  refine R.brg (b := b) (R.1.keep (fun k => ?_) (o 0 (by omega)) (o 1 (by omega)) (o 2 (by omega)) (o 11 (by omega)) (o 12 (by omega)) (o 13 (by omega)) (o 14 (by omega))) (fun c k h1 h2 => ?_) (fun j _ _ _ _ _ h => o j (by omega)) ?_ hw.w1
  · simp (disch := omega) only [upU_s, upU_k, upU_c]
  · simp (disch := omega) only [upU_s, upU_k, upU_c]
  · have ee : endsM (upN V (72 + 8 * b + 6) x) b = endsM V b := by unfold endsM; rw [o _ (by omega), o _ (by omega)]
    have es : stOf (upN V (72 + 8 * b + 6) x) b = stOf V b := by unfold stOf pntd; rw [o _ (by omega), o _ (by omega)]
    unfold RB at rb ⊢
    rw [ee, es, upN_s, o (72 + 8 * b + 0) (by omega), o (72 + 8 * b + 1) (by omega), o (72 + 8 * b + 2) (by omega), o (72 + 8 * b + 3) (by omega), o (72 + 8 * b + 5) (by omega), o (72 + 8 * b + 7) (by omega)]
    simp (disch := omega) only [upU_s, upU_k, upU_c]
    exact ⟨rb.1, rb.2.1, rb.2.2.1, rb.2.2.2.1, rb.2.2.2.2.1, rb.2.2.2.2.2.1, rb.2.2.2.2.2.2.1, trivial, rb.2.2.2.2.2.2.2.2⟩
theorem c_weL (H : MI σ) (hB : isB B) (hw : WF m V) {S : Nat} {o : Nat → Bool} (hS : S < 2 ^ 31) (hSo : ∀ k, k < V 2 → bt S k = o k) (ho : ∀ k, k < V 2 → o k = true → V (72 + 8 * k + 4) = 0 ∧ 0 < V (72 + 8 * k + 3)) (hK : ∀ U', Rel U' (dWA o V (V 2)) → Q none (bS σ B U')) :
    ∀ (d k : Nat) (U : Nat → Nat → Int32), k + d = V 2 → Rel U (dWA o V k) → wp E 31 2 [.ref B, .int (nI S), .int (nI k)] [] (bS σ B U) Q := by
  have h1 := hw.1
  unfold W1 at h1
  intro d
  induction d with
  | zero =>
    intro k U hk R
    obtain rfl : k = V 2 := by omega
    refine sg31_2 ⟨shS H hB, fun _ => hK U R, fun h => absurd ?_ h⟩
    rw [bS_get0, R.1.2.1, dWA_o _ (by omega)]
    exact nI_le (Nat.le_refl _) (by omega)
  | succ d ih =>
    intro k U hk R
    have nx := fun U' => ih (k + 1) U' (by omega)
    have hw2 := hw.wa o k (by omega)
    have e2 : dWA o V k 2 = V 2 := dWA_o _ (by omega)
    have x4 : dWA o V k (72 + 8 * k + 4) = V (72 + 8 * k + 4) := dWA_o _ (by omega)
    have x3 : dWA o V k (72 + 8 * k + 3) = V (72 + 8 * k + 3) := dWA_o _ (by omega)
    have hbt := hSo k (by omega)
    have hok := ho k (by omega)
    rw [dWA] at nx
    generalize dWA o V k = W at R nx hw2 e2 x4 x3
    have shut : ∀ (U' : Nat → Nat → Int32) (X : Nat → Nat), WF m X → k < X 2 → Rel U' X → (∀ U', Rel U' (upN X (72 + 8 * k + 6) (X (72 + 8 * k + 6) + (if opn X k = true then 0 else 1))) → wp E 31 2 [.ref B, .int (nI S), .int (nI k + nI 1)] [] (bS σ B U') Q) →
        ((gI (bS σ B U') (B + 15 + k) 5) = (nI 0) → wp E 31 2 [.ref B, .int (nI S), .int (nI k + (nI 1))] [] (bS σ B U') Q) ∧
        (¬ (gI (bS σ B U') (B + 15 + k) 5) = (nI 0) → sh (bS σ B U') B 3 11 ∧ ∃ r6, rf (bS σ B U') B 1 r6 ∧ ∃ n7 r8, sh (bS σ B U') r6 14 n7 ∧ vp_in (nI k) n7 ∧ rf (bS σ B U') r6 (nI k).toNatClampNeg r8 ∧ sh (bS σ B U') r8 1 9 ∧ sh (bS σ B U') r8 1 9 ∧ nw (wrI (bS σ B U') r8 7 ((gI (bS σ B U') r8 7) + (nI 1))) (fun s9 => wp E 31 2 [.ref B, .int (nI S), .int (nI k + (nI 1))] [] s9 Q)) := by
      intro U' X hX hkX RX hN
      have rb := RX.2.2.2.2 k hkX
      have hs := stOf_lt X k
      have e0 := nI_eq (a := stOf X k) (b := 0) (by omega) (by decide)
      have s0 := st0 hX hkX
      have hX1 := hX.1
      unfold W1 at hX1
      rw [gB (by omega), rb.2.2.2.2.2.1]
      refine ⟨fun g => ?_, fun g => ⟨shS H hB, _, rS1 H hB, 14, _, shBA H hB, vi (by omega) (by omega), rBAc H hB (by omega), shB H hB (by omega), shB H hB (by omega), ?_⟩⟩
      · rw [if_pos (s0.mp (e0.mp g))] at hN
        have e : upN X (72 + 8 * k + 6) (X (72 + 8 * k + 6) + 0) = X := upN_id
        rw [e] at hN
        exact hN U' RX
      · rw [if_neg (fun z => g (e0.mpr (s0.mpr z)))] at hN
        rw [gB (by omega), rb.2.2.2.2.2.2.2.1, nI_add]
        exact nw_e (wB (by omega)) (hN _ (RX.clo hX hkX))
    refine sg31_2 ⟨shS H hB, fun h => absurd h ?_, fun _ => c_hol hS (by omega) ?_⟩
    · rw [bS_get0, R.1.2.1, e2]
      exact nI_ge (by omega) (by omega)
    · rw [hbt]
      refine ⟨fun g => ⟨shS H hB, _, rS1 H hB, 14, _, shBA H hB, vi (by omega) (by omega), rBAc H hB (by omega), shB H hB (by omega), shut U W hw2 (by omega) R fun U' r => ?_⟩, fun g => ⟨shS H hB, _, rS1 H hB, 14, _, shBA H hB, vi (by omega) (by omega), rBAc H hB (by omega), shB H hB (by omega), c_wea H hB hw2 R (by omega) ?_ ?_ fun U' r => ⟨shS H hB, _, rS1 H hB, 14, _, shBA H hB, vi (by omega) (by omega), rBAc H hB (by omega), shB H hB (by omega), shut U' (dWea W k) (hw2.wea (by omega)) ?_ r fun U'' r2 => ?_⟩⟩⟩
      · have e : dWA1 o W k = W := by unfold dWA1; rw [if_neg (bI_3 g)]
        rw [e] at nx
        rw [nI_add]; exact nx U' r
      · rw [x4]; exact (hok (bI_1 g)).1
      · rw [x3]; exact (hok (bI_1 g)).2
      · rw [dWea_o (by omega)]; omega
      · have e : dWA1 o W k = dWea W k := by unfold dWA1; rw [if_pos (bI_1 g)]
        rw [e] at nx
        rw [nI_add]; exact nx U'' r2
theorem dPA_op {k : Nat} (h : opn V k = true) : ∀ n j, 72 + 8 * k ≤ j → j < 72 + 8 * k + 8 → dPA V n j = V j
  | 0, _, _, _ => rfl
  | n + 1, j, h1, h2 => by
    have ih := dPA_op h n
    rw [dPA]
    by_cases hn : n = k
    · subst hn
      have h4 : V (72 + 8 * n + 4) = 0 := by
        unfold opn at h
        rw [Bool.and_eq_true] at h
        exact beq_iff'.mp h.1
      have : ¬ pntd (dPA V n) n = true := fun z => by
        have h5 := beq_iff'.mp z
        rw [ih _ (by omega) (by omega)] at h5
        omega
      rw [if_neg this]
      exact ih j h1 h2
    · split
      · rw [dPnt_o (by omega) (by omega) (by omega)]
        exact ih j h1 h2
      · exact ih j h1 h2
theorem c_weA (H : MI σ) (hB : isB B) (hw : WF m V) (R : Rel U (dPA V (V 2))) (hK : ∀ U', Rel U' (dW3 V) → KV (bS σ B U')) : cV E 31 [.ref B, .int (nI (setN (isSt V 0) (V 2)))] (bS σ B U) KV := by
  have h1 := hw.1
  unfold W1 at h1
  have hs := setN_lt' (isSt V 0) (n := V 2) (by omega)
  have e2 : dPA V (V 2) 2 = V 2 := dPA_o _ (by decide) (by decide) (by omega)
  have h := c_weL (E := E) (Q := QV KV) (o := opn V) H hB (hw.pa _ (Nat.le_refl _)) (S := setN (isSt V 0) (V 2)) (by omega) (fun k hk => ?_) (fun k hk ho => ?_) (fun U' r => ?_) (V 2) 0 U (by omega) R
  · exact sg31_0 h
  · rw [e2] at hk
    rw [bt_tb, setN_b, decide_eq_true hk, Bool.true_and]
    have s0 := st0 hw hk
    unfold isSt
    cases hq : opn V k with
    | true => exact beq_iff'.mpr (s0.mpr hq)
    | false =>
      cases hz : Nat.beq (stOf V k) 0 with
      | false => rfl
      | true => rw [s0.mp (beq_iff'.mp hz)] at hq; exact absurd hq (by decide)
  · rw [dPA_op ho _ _ (by omega) (by omega), dPA_op ho _ _ (by omega) (by omega)]
    unfold opn at ho
    rw [Bool.and_eq_true, beq_iff', Nat.blt_eq] at ho
    exact ho
  · rw [e2] at r
    exact hK U' r
end COM15
