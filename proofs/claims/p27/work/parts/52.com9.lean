/-! the component's crews: takeCrew, loseCrew; days until rusted -/
section COM9
variable {E : AEnv} {σ τ : ASt} {B : Nat} {U U' : Nat → Nat → Int32} {V W : Nat → Nat} {m n t : Nat} {Q : Option Value → ASt → Prop} {K : Int32 → ASt → Prop} {KV : ASt → Prop}
theorem WF.w1 (hw : WF m V) : V 1 ≤ 8 ∧ V 15 ≤ 8 := by
  have h1 := hw.1
  unfold W1 at h1
  omega
theorem stOf_cr {b : Nat} (h : V (72 + 8 * b + 4) = 1) : stOf V b = 1 := st1.mpr (beq_iff'.mpr h)
theorem stOf_no {b : Nat} (h : V (72 + 8 * b + 4) = 0) : stOf V b = if 0 < V (72 + 8 * b + 3) then 0 else 2 := by
  unfold stOf
  rw [if_neg (fun z => by have := beq_iff'.mp z; omega)]
theorem c_tak (H : MI σ) (hB : isB B) (hw : WF m V) (R : Rel U V) {b : Nat} (hb : b < V 2) (hK : ∀ U', Rel U' (dSnd V b) → KV (bS σ B U')) : cV E 9 [.ref (B + 15 + b)] (bS σ B U) KV := by
  have h1 := hw.1
  unfold W1 at h1
  have rb := R.2.2.2.2 b hb
  refine sg9_0 ⟨shB H hB (by omega), nw_e (wB (by omega)) ⟨shB H hB (by omega), shB H hB (by omega), ?_⟩⟩
  rw [gB (by omega), upU_k (by decide), rb.2.2.2.2.2.2.1, nI_add]
  refine nw_e (wB (by omega)) (hK _ ?_)
  have o : ∀ j, (j < 72 + 8 * b + 4 ∨ 72 + 8 * b + 6 ≤ j) → dSnd V b j = V j := fun j h => dSnd_o h
  have e4 : dSnd V b (72 + 8 * b + 4) = 1 := by unfold dSnd; simp (disch := omega) only [upN_n, upN_s]
  have e5 : dSnd V b (72 + 8 * b + 5) = V (72 + 8 * b + 5) + 1 := by unfold dSnd; simp (disch := omega) only [upN_n, upN_s]
  refine R.brg (b := b) (R.1.keep (fun k => ?_) (o 0 (by omega)) (o 1 (by omega)) (o 2 (by omega)) (o 11 (by omega)) (o 12 (by omega)) (o 13 (by omega)) (o 14 (by omega))) (fun c k h1 h2 => ?_) (fun j _ _ _ _ _ h => o j (by omega)) ?_ hw.w1
  · simp (disch := omega) only [upU_s, upU_k, upU_c]
  · simp (disch := omega) only [upU_s, upU_k, upU_c]
  · have ee : endsM (dSnd V b) b = endsM V b := by unfold endsM; rw [o _ (by omega), o _ (by omega)]
    unfold RB at rb ⊢
    rw [ee, stOf_cr e4, e5, o (72 + 8 * b + 0) (by omega), o (72 + 8 * b + 1) (by omega), o (72 + 8 * b + 2) (by omega), o (72 + 8 * b + 3) (by omega), o (72 + 8 * b + 6) (by omega), o (72 + 8 * b + 7) (by omega)]
    simp (disch := omega) only [upU_s, upU_k, upU_c]
    exact ⟨rb.1, rb.2.1, rb.2.2.1, rb.2.2.2.1, rb.2.2.2.2.1, trivial, trivial, rb.2.2.2.2.2.2.2.1, rb.2.2.2.2.2.2.2.2⟩
theorem c_los2 (H : MI σ) (hB : isB B) (hw : WF m V) (R : Rel U V) {b : Nat} (hb : b < V 2) (hK : ∀ U', Rel U' (dRec V b) → KV (bS σ B U')) : cV E 10 [.ref (B + 15 + b)] (bS σ B U) KV := by
  have h1 := hw.1
  unfold W1 at h1
  have h3 := hw.2.2.1 b hb
  have rb := R.2.2.2.2 b hb
  have o : ∀ j, j ≠ 72 + 8 * b + 4 → dRec V b j = V j := fun j h => upN_n h
  have e4 : dRec V b (72 + 8 * b + 4) = 0 := upN_s _ _ _
  have e0 := nI_eq (a := V (72 + 8 * b + 3)) (b := 0) (by omega) (by decide)
  have fin : ∀ x : Int32, x = nI (stOf (dRec V b) b) → Rel (upU U (15 + b) 5 x) (dRec V b) := fun x hx => by
    refine R.brg (b := b) (R.1.keep (fun k => ?_) (o 0 (by omega)) (o 1 (by omega)) (o 2 (by omega)) (o 11 (by omega)) (o 12 (by omega)) (o 13 (by omega)) (o 14 (by omega))) (fun c k h1 h2 => ?_) (fun j _ _ _ _ _ h => o j (by omega)) ?_ hw.w1
    · simp (disch := omega) only [upU_s, upU_k, upU_c]
    · simp (disch := omega) only [upU_s, upU_k, upU_c]
    · have ee : endsM (dRec V b) b = endsM V b := by unfold endsM; rw [o _ (by omega), o _ (by omega)]
      unfold RB at rb ⊢
      rw [ee, ← hx, o (72 + 8 * b + 0) (by omega), o (72 + 8 * b + 1) (by omega), o (72 + 8 * b + 2) (by omega), o (72 + 8 * b + 3) (by omega), o (72 + 8 * b + 5) (by omega), o (72 + 8 * b + 6) (by omega), o (72 + 8 * b + 7) (by omega)]
      simp (disch := omega) only [upU_s, upU_k, upU_c]
      exact ⟨rb.1, rb.2.1, rb.2.2.1, rb.2.2.2.1, rb.2.2.2.2.1, trivial, rb.2.2.2.2.2.2.1, rb.2.2.2.2.2.2.2.1, rb.2.2.2.2.2.2.2.2⟩
  refine sg10_0 ⟨shB H hB (by omega), ?_⟩
  rw [gB (by omega), rb.2.2.2.2.1]
  refine ⟨fun g => ⟨shB H hB (by omega), nw_e (wB (by omega)) (hK _ (fin _ ?_))⟩, fun g => ⟨shB H hB (by omega), nw_e (wB (by omega)) (hK _ (fin _ ?_))⟩⟩
  · have : V (72 + 8 * b + 3) ≠ 0 := fun z => g (e0.mpr z)
    rw [stOf_no e4, o _ (by omega), if_pos (by omega)]
  · have := e0.mp (Classical.not_not.mp g)
    rw [stOf_no e4, o _ (by omega), if_neg (by omega)]
theorem c_runL (H : MI σ) (hB : isB B) (hw : WF m V) (R : Rel U V) {b : Nat} (hb : b < V 2) (hK : Q (some (.int (nI ((V (72 + 8 * b + 3) + V (72 + 8 * b + 2) - 1) / V (72 + 8 * b + 2))))) (bS σ B U)) : ∀ d k : Nat, k + d = 100 → (k = 0 ∨ (k - 1) * V (72 + 8 * b + 2) < V (72 + 8 * b + 3)) → wp E 13 2 [.ref (B + 15 + b), .int (nI k)] [] (bS σ B U) Q := by
  have h1 := hw.1
  unfold W1 at h1
  have h3 := hw.2.2.1 b hb
  have rb := R.2.2.2.2 b hb
  generalize hw2 : V (72 + 8 * b + 2) = w at hK h3 rb ⊢
  generalize hw3 : V (72 + 8 * b + 3) = c at hK h3 rb ⊢
  have is : ∀ k, c ≤ k * w → (k = 0 ∨ (k - 1) * w < c) → (c + w - 1) / w = k := by
    intro k h1 h2
    rcases h2 with h2 | h2
    · subst h2
      have hc : c = 0 := by omega
      rw [hc]
      exact Nat.div_eq_of_lt (by omega)
    · have hk : k = (k - 1) + 1 := by
        rcases Nat.eq_zero_or_pos k with hz | hz
        · subst hz; omega
        · omega
      have e : k * w = (k - 1) * w + w := by
        rw [hk, Nat.add_sub_cancel, Nat.succ_mul]
      apply Nat.div_eq_of_lt_le
      · omega
      · rw [Nat.succ_mul]; omega
  intro d
  induction d with
  | zero =>
    intro k hk hi
    obtain rfl : k = 100 := by omega
    rw [is 100 (by omega) hi] at hK
    exact sg13_2 ⟨fun _ => hK, fun h => absurd (nI_le (Nat.le_refl _) (by decide)) h⟩
  | succ d ih =>
    intro k hk hi
    have hkw : k * w ≤ 100 * 9 := Nat.mul_le_mul (by omega) (by omega)
    refine sg13_2 ⟨fun h => absurd h (nI_ge (by omega) (by omega)), fun _ => ⟨shB H hB (by omega), shB H hB (by omega), ?_⟩⟩
    rw [gB (by omega), gB (by omega), rb.2.2.2.2.1, rb.2.2.2.1, hw2, hw3, pk_mul]
    have e := nI_leI (a := c) (b := k * w) (by omega) (by omega)
    refine ⟨fun g => ?_, fun g => ?_⟩
    · rw [is k (e.mp g) hi] at hK
      exact hK
    · rw [nI_add]
      refine ih (k + 1) (by omega) (Or.inr ?_)
      rw [Nat.add_sub_cancel]
      have : ¬ c ≤ k * w := fun z => g (e.mpr z)
      omega
theorem c_run (H : MI σ) (hB : isB B) (hw : WF m V) (R : Rel U V) {b : Nat} (hb : b < V 2) (hK : K (nI ((V (72 + 8 * b + 3) + V (72 + 8 * b + 2) - 1) / V (72 + 8 * b + 2))) (bS σ B U)) : cI E 13 [.ref (B + 15 + b)] (bS σ B U) K := sg13_0 (c_runL H hB hw R hb hK 100 0 (by omega) (Or.inl rfl))
end COM9
