/-! the component's wear -/
section COM10
variable {E : AEnv} {σ τ : ASt} {B : Nat} {U U' : Nat → Nat → Int32} {V W : Nat → Nat} {m n t : Nat} {Q : Option Value → ASt → Prop} {K : Int32 → ASt → Prop} {KV : ASt → Prop}
theorem c_wea (H : MI σ) (hB : isB B) (hw : WF m V) (R : Rel U V) {b : Nat} (hb : b < V 2) (ho : V (72 + 8 * b + 4) = 0) (hp : 0 < V (72 + 8 * b + 3)) (hK : ∀ U', Rel U' (dWea V b) → KV (bS σ B U')) : cV E 12 [.ref (B + 15 + b)] (bS σ B U) KV := by
  have h1 := hw.1
  unfold W1 at h1
  have h3 := hw.2.2.1 b hb
  have rb := R.2.2.2.2 b hb
  have o : ∀ j, j ≠ 72 + 8 * b + 3 → dWea V b j = V j := fun j h => dWea_o h
  have e3 : dWea V b (72 + 8 * b + 3) = V (72 + 8 * b + 3) - V (72 + 8 * b + 2) := upN_s _ _ _
  have e4 : dWea V b (72 + 8 * b + 4) = 0 := (o _ (by omega)).trans ho
  have es : stOf V b = 0 := by rw [stOf_no ho, if_pos hp]
  have ee : endsM (dWea V b) b = endsM V b := by unfold endsM; rw [o _ (by omega), o _ (by omega)]
  have ez := nI_eq (a := V (72 + 8 * b + 3) - V (72 + 8 * b + 2)) (b := 0) (by omega) (by decide)
  have fin : ∀ U', (∀ c k, c ≠ 15 + b → U' c k = U c k) → (∀ k, k ≠ 4 → k ≠ 5 → U' (15 + b) k = U (15 + b) k) → U' (15 + b) 4 = nI (V (72 + 8 * b + 3) - V (72 + 8 * b + 2)) → U' (15 + b) 5 = nI (stOf (dWea V b) b) → Rel U' (dWea V b) := fun U' u1 u2 u4 u5 => by
    refine R.brg (b := b) (R.1.keep (fun k => u1 0 k (by omega)) (o 0 (by omega)) (o 1 (by omega)) (o 2 (by omega)) (o 11 (by omega)) (o 12 (by omega)) (o 13 (by omega)) (o 14 (by omega))) (fun c k h1 h2 => u1 c k h2) (fun j _ _ _ _ _ h => o j (by omega)) ?_ hw.w1
    unfold RB at rb ⊢
    rw [ee, u4, u5, e3, o (72 + 8 * b + 0) (by omega), o (72 + 8 * b + 1) (by omega), o (72 + 8 * b + 2) (by omega), o (72 + 8 * b + 5) (by omega), o (72 + 8 * b + 6) (by omega), o (72 + 8 * b + 7) (by omega), u2 0 (by decide) (by decide), u2 1 (by decide) (by decide), u2 2 (by decide) (by decide), u2 3 (by decide) (by decide), u2 6 (by decide) (by decide), u2 7 (by decide) (by decide), u2 8 (by decide) (by decide)]
    exact ⟨rb.1, rb.2.1, rb.2.2.1, rb.2.2.2.1, rfl, rfl, rb.2.2.2.2.2.2.1, rb.2.2.2.2.2.2.2.1, rb.2.2.2.2.2.2.2.2⟩
  have tail : sh (bS σ B U) (B + 15 + b) 1 9 ∧ nw (wrI (bS σ B U) (B + 15 + b) 4 (nI (V (72 + 8 * b + 3) - V (72 + 8 * b + 2)))) (fun s3 => sh s3 (B + 15 + b) 1 9 ∧ ((gI s3 (B + 15 + b) 4) ≠ (nI 0) → QV KV none s3) ∧ (¬ (gI s3 (B + 15 + b) 4) ≠ (nI 0) → sh s3 (B + 15 + b) 1 9 ∧ nw (wrI s3 (B + 15 + b) 5 (nI 2)) (fun s4 => QV KV none s4))) := by
    refine ⟨shB H hB (by omega), nw_e (wB (by omega)) ⟨shB H hB (by omega), ?_⟩⟩
    rw [gB (by omega), upU_s]
    refine ⟨fun g => hK _ (fin _ (fun c k h => ?_) (fun k h4 h5 => ?_) ?_ ?_), fun g => ⟨shB H hB (by omega), nw_e (wB (by omega)) (hK _ (fin _ (fun c k h => ?_) (fun k h4 h5 => ?_) ?_ ?_))⟩⟩
    · simp (disch := omega) only [upU_s, upU_k, upU_c]
    · simp (disch := omega) only [upU_s, upU_k, upU_c]
    · simp (disch := omega) only [upU_s, upU_k, upU_c]
    · have : V (72 + 8 * b + 3) - V (72 + 8 * b + 2) ≠ 0 := fun z => g (ez.mpr z)
      rw [upU_k (by decide), rb.2.2.2.2.2.1, es, stOf_no e4, e3, if_pos (by omega)]
    · simp (disch := omega) only [upU_s, upU_k, upU_c]
    · simp (disch := omega) only [upU_s, upU_k, upU_c]
    · simp (disch := omega) only [upU_s, upU_k, upU_c]
    · have := ez.mp (Classical.not_not.mp g)
      rw [upU_s, stOf_no e4, e3, if_neg (by omega)]
  refine sg12_0 ⟨shB H hB (by omega), shB H hB (by omega), ?_⟩
  rw [gB (by omega), gB (by omega), rb.2.2.2.2.1, rb.2.2.2.1]
  by_cases h : V (72 + 8 * b + 2) ≤ V (72 + 8 * b + 3)
  · rw [pk_sub h]
    refine c_max (fun g => ?_) fun g => tail
    have := (nI_ltI (by omega) (by decide)).mp g
    omega
  · rw [show V (72 + 8 * b + 3) - V (72 + 8 * b + 2) = 0 by omega] at tail
    refine c_max (fun g => tail) fun g => ?_
    exfalso
    refine h (nI_subT (by omega) (by omega) ?_)
    rw [Int32.lt_iff_toInt_lt] at g
    rw [Int32.le_iff_toInt_le]
    omega
end COM10
