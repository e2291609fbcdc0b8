/-! the component's island waits alone -/
section COM13
variable {E : AEnv} {σ τ : ASt} {B : Nat} {U U' : Nat → Nat → Int32} {V W : Nat → Nat} {m n t : Nat} {Q : Option Value → ASt → Prop} {K : Int32 → ASt → Prop} {KV : ASt → Prop}
theorem c_wta (H : MI σ) (hB : isB B) {i : Nat} (hw : WL m i V) (R : Rel U V) (hi : i < V 1) (hno : ¬ (V 6 = 1 ∧ V (32 + 5 * i + 0) ≤ V 11)) (hK : ∀ U', Rel U' (dWai V i false) → K (nI (cWai V i false)) (bS σ B U')) : cI E 17 [.ref (B + 7 + i), .int (nI (V 7))] (bS σ B U) K := by
  have h1 := hw.1
  unfold W1 at h1
  have h2 := hw.2.1
  unfold W2 at h2
  have h5 := hw.2.2.2.2
  unfold W5 at h5
  have h4 := hw.2.2.2.1 i hi
  have ri := R.2.2.2.1 i hi
  have o : ∀ j, (j < 32 + 5 * i + 1 ∨ 32 + 5 * i + 4 ≤ j) → dWai V i false j = V j := fun j h => by
    unfold dWai
    dsimp only
    rw [if_neg ff, if_neg hno]
    split
    · simp (disch := omega) only [upN_n, upN_s]
    · simp (disch := omega) only [upN_n, upN_s]
  have e1 : dWai V i false (32 + 5 * i + 1) = V (32 + 5 * i + 1) + 1 := by
    unfold dWai
    dsimp only
    rw [if_neg ff, if_neg hno]
    split
    · simp (disch := omega) only [upN_n, upN_s]
    · simp (disch := omega) only [upN_n, upN_s]
  have e3 : dWai V i false (32 + 5 * i + 3) = (if V (32 + 5 * i + 1) + 1 ≤ V (32 + 5 * i + 3) then V (32 + 5 * i + 3) else V (32 + 5 * i + 1) + 1) := by
    unfold dWai
    dsimp only
    rw [if_neg ff, if_neg hno]
    split
    · simp (disch := omega) only [upN_n, upN_s]
    · simp (disch := omega) only [upN_n, upN_s]
  have e2 : dWai V i false (32 + 5 * i + 2) = V (32 + 5 * i + 2) + (if V 7 < V (32 + 5 * i + 1) + 1 then 1 else 0) := by
    unfold dWai
    dsimp only
    rw [if_neg ff, if_neg hno]
    split
    · simp (disch := omega) only [upN_n, upN_s]
    · simp (disch := omega) only [upN_n, upN_s]
      omega
  have ec : cWai V i false = if V 7 < V (32 + 5 * i + 1) + 1 then 1 else 0 := by
    unfold cWai
    rw [if_neg ff, if_neg hno]
  have fin : ∀ U', (∀ c k, c ≠ 7 + i → U' c k = U c k) → U' (7 + i) 0 = U (7 + i) 0 → U' (7 + i) 4 = U (7 + i) 4 → U' (7 + i) 1 = nI (dWai V i false (32 + 5 * i + 1)) → U' (7 + i) 2 = nI (dWai V i false (32 + 5 * i + 3)) → U' (7 + i) 3 = nI (dWai V i false (32 + 5 * i + 2)) → Rel U' (dWai V i false) := fun U' u u0 u4 u1 u2 u3 => by
    refine R.isl (i := i) (R.1.keep (fun k => u 0 k (by omega)) (o 0 (by omega)) (o 1 (by omega)) (o 2 (by omega)) (o 11 (by omega)) (o 12 (by omega)) (o 13 (by omega)) (o 14 (by omega))) (fun c k h1 h2 => u c k h2) (fun j _ _ _ _ _ h => o j (by omega)) ?_ (by omega) ⟨h1.2.1, h1.2.2.2⟩
    unfold RI at ri ⊢
    rw [u0, u1, u2, u3, u4, o (32 + 5 * i + 0) (by omega), o (32 + 5 * i + 4) (by omega)]
    exact ⟨ri.1, rfl, rfl, rfl, ri.2.2.2.2⟩
  have em := nI_ltI (a := V (32 + 5 * i + 3)) (b := V (32 + 5 * i + 1) + 1) (by omega) (by omega)
  have eb := nI_ltI (a := V 7) (b := V (32 + 5 * i + 1) + 1) (by omega) (by omega)
  refine sg17_0 ⟨shI H hB (by omega), shI H hB (by omega), ?_⟩
  rw [gIl (by omega), ri.2.1, nI_add]
  refine nw_e (wIl (by omega)) ⟨shI H hB (by omega), shI H hB (by omega), ?_⟩
  rw [gIl (by omega), gIl (by omega), upU_k (by decide), upU_s, ri.2.2.1]
  have tail : ∀ x, x = dWai V i false (32 + 5 * i + 3) → (sh (bS σ B (upU U (7 + i) 1 (nI (V (32 + 5 * i + 1) + 1)))) (B + 7 + i) 2 5 ∧ nw (wrI (bS σ B (upU U (7 + i) 1 (nI (V (32 + 5 * i + 1) + 1)))) (B + 7 + i) 2 (nI x)) (fun s4 => sh s4 (B + 7 + i) 2 5 ∧ (nI (V 7) < (gI s4 (B + 7 + i) 1) → sh s4 (B + 7 + i) 2 5 ∧ sh s4 (B + 7 + i) 2 5 ∧ nw (wrI s4 (B + 7 + i) 3 ((gI s4 (B + 7 + i) 3) + (nI 1))) (fun s5 => fN .boolean (nI 1) = true ∧ QI K (some (.int (nI 1))) s5)) ∧ (¬ nI (V 7) < (gI s4 (B + 7 + i) 1) → fN .boolean (nI 0) = true ∧ QI K (some (.int (nI 0))) s4))) := by
    intro x hx
    refine ⟨shI H hB (by omega), nw_e (wIl (by omega)) ⟨shI H hB (by omega), ?_⟩⟩
    rw [gIl (by omega), upU_k (by decide), upU_s]
    refine ⟨fun g => ⟨shI H hB (by omega), shI H hB (by omega), ?_⟩, fun g => ⟨fb0, ?_⟩⟩
    · rw [gIl (by omega), upU_k (by decide), upU_k (by decide), ri.2.2.2.1, nI_add]
      have g2 := eb.mp g
      rw [if_pos g2] at ec e2
      rw [ec] at hK
      refine nw_e (wIl (by omega)) ⟨fb1, hK _ (fin _ (fun c k h => ?_) ?_ ?_ ?_ ?_ ?_)⟩
      · simp (disch := omega) only [upU_s, upU_k, upU_c]
      · simp (disch := omega) only [upU_s, upU_k, upU_c]
      · simp (disch := omega) only [upU_s, upU_k, upU_c]
      · rw [e1]; simp (disch := omega) only [upU_s, upU_k, upU_c]
      · rw [← hx]; simp (disch := omega) only [upU_s, upU_k, upU_c]
      · rw [e2]; simp (disch := omega) only [upU_s, upU_k, upU_c]
    · have g2 : ¬ V 7 < V (32 + 5 * i + 1) + 1 := fun z => g (eb.mpr z)
      rw [if_neg g2] at ec e2
      rw [ec] at hK
      refine hK _ (fin _ (fun c k h => ?_) ?_ ?_ ?_ ?_ ?_)
      · simp (disch := omega) only [upU_s, upU_k, upU_c]
      · simp (disch := omega) only [upU_s, upU_k, upU_c]
      · simp (disch := omega) only [upU_s, upU_k, upU_c]
      · rw [e1]; simp (disch := omega) only [upU_s, upU_k, upU_c]
      · rw [← hx]; simp (disch := omega) only [upU_s, upU_k, upU_c]
      · rw [e2]; simp (disch := omega) only [upU_s, upU_k, upU_c]
        exact ri.2.2.2.1
  refine c_max (fun g => tail _ ?_) fun g => tail _ ?_
  · have := em.mp g
    rw [e3, if_neg (by omega)]
  · have : ¬ V (32 + 5 * i + 3) < V (32 + 5 * i + 1) + 1 := fun z => g (em.mpr z)
    rw [e3, if_pos (by omega)]
end COM13
