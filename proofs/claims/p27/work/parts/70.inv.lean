/-! p27: what holds of every state beside WF: coins add up, bridges that are painted, waits, the book -/
section INV
variable {V W : Nat → Nat} {m n t N : Nat}
def IC (V : Nat → Nat) : Prop := 200 + V 14 = V 11 + V 12 + V 13
/-- bridge b; t: the day that closed days stay within -/
def IBb (N t : Nat) (V : Nat → Nat) (b : Nat) : Prop := V (72 + 8 * b + 0) ≠ V (72 + 8 * b + 1) ∧ V (72 + 8 * b + 5) ≤ N ∧ V (72 + 8 * b + 6) ≤ t ∧ (V (72 + 8 * b + 4) = 1 → 1 ≤ V (72 + 8 * b + 5) ∧ V (72 + 8 * b + 3) < 100)
def IB (N t : Nat) (V : Nat → Nat) : Prop := ∀ b, b < V 2 → IBb N t V b
def IWi (t : Nat) (V : Nat → Nat) (i : Nat) : Prop := V (32 + 5 * i + 1) ≤ V (32 + 5 * i + 3) ∧ V (32 + 5 * i + 2) ≤ t ∧ V (32 + 5 * i + 4) ≤ t
def IW (t : Nat) (V : Nat → Nat) : Prop := ∀ i, i < V 1 → IWi t V i
def IKa (t : Nat) (V : Nat → Nat) : Prop := ∀ a, a < V 15 → 1 ≤ V (17 + 2 * a) ∧ V (17 + 2 * a) ≤ 8 ∧ V (16 + 2 * a) < t ∧ (0 < a → V (16 + 2 * a) < V (16 + 2 * (a - 1)))
def IKs (V : Nat → Nat) : Prop := V 15 = 0 ↔ smN V 2 (V 1) = 0
def PI (N : Nat) (V : Nat → Nat) : Prop := IC V ∧ IB N (V 0) V ∧ IW (V 0) V ∧ IKa (V 0) V ∧ IKs V
theorem IBb.cong {b : Nat} (h : IBb N t V b) (e : ∀ k, k < 7 → W (72 + 8 * b + k) = V (72 + 8 * b + k)) : IBb N t W b := by
  unfold IBb at h ⊢
  rw [e 0 (by decide), e 1 (by decide), e 3 (by decide), e 4 (by decide), e 5 (by decide), e 6 (by decide)]
  exact h
theorem IWi.cong {i : Nat} (h : IWi t V i) (e : ∀ k, k < 5 → W (32 + 5 * i + k) = V (32 + 5 * i + k)) : IWi t W i := by
  unfold IWi at h ⊢
  rw [e 1 (by decide), e 2 (by decide), e 3 (by decide), e 4 (by decide)]
  exact h
theorem smN_cong {w : Nat} : ∀ k, (∀ j, j < k → W (32 + 5 * j + w) = V (32 + 5 * j + w)) → smN W w k = smN V w k
  | 0, _ => rfl
  | k + 1, h => by rw [smN, smN, smN_cong k (fun j hj => h j (by omega)), h k (by omega)]
theorem smN_one {w i x : Nat} : ∀ k, i < k → (∀ j, j < k → j ≠ i → W (32 + 5 * j + w) = V (32 + 5 * j + w)) → W (32 + 5 * i + w) = V (32 + 5 * i + w) + x → smN W w k = smN V w k + x
  | 0, h, _, _ => by omega
  | k + 1, h, h2, h3 => by
    rw [smN, smN]
    by_cases hk : i = k
    · subst hk
      rw [smN_cong i (fun j hj => h2 j (by omega) (by omega)), h3]
      omega
    · rw [smN_one k (by omega) (fun j hj hne => h2 j (by omega) hne) h3, h2 k (by omega) (by omega)]
      omega
/-- small places and islands the same: only bridges change -/
theorem PI.brg (h : PI N V) (hw : WF m V) {M : Nat} (h0 : ∀ j, j < 72 → j ≠ 11 → j ≠ 12 → W j = V j) (hC : IC W) (hB : IB M (V 0) W) : PI M W := by
  obtain ⟨-, -, p3, p4, p5⟩ := h
  have w1 := hw.1
  unfold W1 at w1
  have e0 := h0 0 (by decide) (by decide) (by decide)
  have e1 := h0 1 (by decide) (by decide) (by decide)
  have e15 := h0 15 (by decide) (by decide) (by decide)
  refine ⟨hC, by rw [e0]; exact hB, ?_, ?_, ?_⟩
  · intro i hi
    rw [e1] at hi
    rw [e0]
    exact (p3 i hi).cong fun k hk => h0 _ (by omega) (by omega) (by omega)
  · intro a ha
    rw [e15] at ha
    have := p4 a ha
    rw [e0, h0 _ (by omega) (by omega) (by omega), h0 _ (by omega) (by omega) (by omega)]
    refine ⟨this.1, this.2.1, this.2.2.1, fun h => ?_⟩
    rw [h0 _ (by omega) (by omega) (by omega)]
    exact this.2.2.2 h
  · unfold IKs at p5 ⊢
    rw [e15, e1, smN_cong (V 1) (fun j hj => h0 _ (by omega) (by omega) (by omega))]
    exact p5
theorem IBb.mono {b M : Nat} (h : IBb N t V b) (hM : N ≤ M) : IBb M t V b := by
  unfold IBb at h ⊢
  omega
theorem PI.mono (h : PI N V) {M : Nat} (hM : N ≤ M) : PI M V := ⟨h.1, fun b hb => (h.2.1 b hb).mono hM, h.2.2⟩
/-! single changes -/
theorem PI.snd (h : PI N V) (hw : WF m V) {b : Nat} (hb : b < V 2) (h3 : V (72 + 8 * b + 3) < 100) : PI (N + 1) (dSnd V b) := by
  refine h.brg hw (fun j h1 h2 h3 => dSnd_o (by omega)) ?_ fun c hc => ?_
  · have := h.1
    unfold IC at this ⊢
    rw [dSnd_o (by omega), dSnd_o (by omega), dSnd_o (by omega), dSnd_o (by omega)]
    exact this
  · rw [dSnd_o (by omega)] at hc
    by_cases hcb : c = b
    · subst hcb
      have h4 := h.2.1 c hc
      unfold IBb at h4 ⊢
      unfold dSnd
      simp (disch := omega) only [upN_n, upN_s]
      omega
    · exact ((h.2.1 c hc).mono (Nat.le_succ N)).cong fun k hk => dSnd_o (by omega)
theorem PI.rec (h : PI N V) (hw : WF m V) {b : Nat} (hb : b < V 2) : PI N (dRec V b) := by
  refine h.brg hw (fun j h1 h2 h3 => upN_n (by omega)) ?_ fun c hc => ?_
  · have := h.1
    unfold IC at this ⊢
    unfold dRec
    rw [upN_n (by omega), upN_n (by omega), upN_n (by omega), upN_n (by omega)]
    exact this
  · have e2 : dRec V b 2 = V 2 := upN_n (by omega)
    rw [e2] at hc
    by_cases hcb : c = b
    · subst hcb
      have h4 := h.2.1 c hc
      unfold IBb at h4 ⊢
      unfold dRec
      simp (disch := omega) only [upN_n, upN_s]
      omega
    · exact (h.2.1 c hc).cong fun k hk => upN_n (by omega)
/-- only places 3 to 14 change -/
theorem PI.sml (h : PI N V) (hw : WF m V) (h0 : ∀ j, j < 3 ∨ 15 ≤ j → W j = V j) (hC : IC W) : PI N W := by
  obtain ⟨-, p2, p3, p4, p5⟩ := h
  have w1 := hw.1
  unfold W1 at w1
  have e0 := h0 0 (by omega)
  have e1 := h0 1 (by omega)
  have e15 := h0 15 (by omega)
  refine ⟨hC, ?_, ?_, ?_, ?_⟩
  · intro b hb
    rw [h0 2 (by omega)] at hb
    rw [e0]
    exact (p2 b hb).cong fun k hk => h0 _ (by omega)
  · intro i hi
    rw [e1] at hi
    rw [e0]
    exact (p3 i hi).cong fun k hk => h0 _ (by omega)
  · intro a ha
    rw [e15] at ha
    have := p4 a ha
    rw [e0, h0 _ (by omega), h0 _ (by omega)]
    refine ⟨this.1, this.2.1, this.2.2.1, fun h => ?_⟩
    rw [h0 _ (by omega)]
    exact this.2.2.2 h
  · unfold IKs at p5 ⊢
    rw [e15, e1, smN_cong (V 1) (fun j hj => h0 _ (by omega))]
    exact p5
theorem PI.pay (h : PI N V) (hw : WF m V) (c : Nat) : PI N (dPay V c) := by
  refine h.sml hw (fun j hj => ?_) ?_
  · unfold dPay
    simp (disch := omega) only [upN_n, upN_s]
  · have := h.1
    unfold IC at this ⊢
    unfold dPay
    simp (disch := omega) only [upN_n, upN_s]
    omega
theorem PI.set (h : PI N V) (hw : WF m V) {w v : Nat} (hw7 : w ≤ 7) : PI N (dSet V w v) := by
  refine h.sml hw (fun j hj => upN_n (by omega)) ?_
  have := h.1
  unfold IC at this ⊢
  unfold dSet
  rw [upN_n (by omega), upN_n (by omega), upN_n (by omega), upN_n (by omega)]
  exact this
theorem PI.isl (h : PI N V) (hw : WF m V) {f : Nat} (h8 : V 1 < 8) : PI N (dIsl V f) := by
  obtain ⟨p1, p2, p3, p4, p5⟩ := h
  have w1 := hw.1
  unfold W1 at w1
  have e1 : dIsl V f 1 = V 1 + 1 := by unfold dIsl; simp (disch := omega) only [upN_n, upN_s]
  have z : ∀ j, 32 + 5 * V 1 < j → j < 37 + 5 * V 1 → dIsl V f j = 0 := fun j h1 h2 => by
    unfold dIsl
    simp (disch := omega) only [upN_n, upN_s]
    exact zI_z 5 (by omega) (by omega)
  have o : ∀ j, j ≠ 1 → (j < 32 + 5 * V 1 ∨ 37 + 5 * V 1 ≤ j) → dIsl V f j = V j := fun j a b => dIsl_o a b
  refine ⟨?_, ?_, ?_, ?_, ?_⟩
  · unfold IC at p1 ⊢
    rw [o _ (by omega) (by omega), o _ (by omega) (by omega), o _ (by omega) (by omega), o _ (by omega) (by omega)]
    exact p1
  · intro b hb
    rw [o 2 (by omega) (by omega)] at hb
    rw [o 0 (by omega) (by omega)]
    exact (p2 b hb).cong fun k hk => o _ (by omega) (by omega)
  · intro i hi
    rw [e1] at hi
    rw [o 0 (by omega) (by omega)]
    by_cases hi1 : i = V 1
    · subst hi1
      unfold IWi
      rw [z _ (by omega) (by omega), z (32 + 5 * V 1 + 2) (by omega) (by omega), z (32 + 5 * V 1 + 4) (by omega) (by omega)]
      omega
    · exact (p3 i (by omega)).cong fun k hk => o _ (by omega) (by omega)
  · intro a ha
    rw [o 15 (by omega) (by omega)] at ha
    have := p4 a ha
    rw [o 0 (by omega) (by omega), o _ (by omega) (by omega), o _ (by omega) (by omega)]
    refine ⟨this.1, this.2.1, this.2.2.1, fun h => ?_⟩
    rw [o _ (by omega) (by omega)]
    exact this.2.2.2 h
  · unfold IKs at p5 ⊢
    rw [o 15 (by omega) (by omega), e1, smN, smN_cong (V 1) (fun j hj => o _ (by omega) (by omega)), z (32 + 5 * V 1 + 2) (by omega) (by omega)]
    exact p5
theorem PI.nbr (h : PI N V) (hw : WF m V) {o u w : Nat} (hne : o ≠ u) (h14 : V 2 < 14) : PI N (dBrg V o u w) := by
  obtain ⟨p1, p2, p3, p4, p5⟩ := h
  have w1 := hw.1
  unfold W1 at w1
  have e2 : dBrg V o u w 2 = V 2 + 1 := by unfold dBrg; simp (disch := omega) only [upN_n, upN_s]
  have oo : ∀ j, j ≠ 2 → (j < 72 + 8 * V 2 ∨ 80 + 8 * V 2 ≤ j) → dBrg V o u w j = V j := fun j a b => dBrg_o a b
  refine ⟨?_, ?_, ?_, ?_, ?_⟩
  · unfold IC at p1 ⊢
    rw [oo _ (by omega) (by omega), oo _ (by omega) (by omega), oo _ (by omega) (by omega), oo _ (by omega) (by omega)]
    exact p1
  · intro b hb
    rw [e2] at hb
    rw [oo 0 (by omega) (by omega)]
    by_cases hb1 : b = V 2
    · subst hb1
      have z : ∀ j, 72 + 8 * V 2 + 3 < j → j < 80 + 8 * V 2 → dBrg V o u w j = 0 := fun j h1 h2 => by
        unfold dBrg
        simp (disch := omega) only [upN_n, upN_s]
        exact zB_z 8 (by omega) (by omega)
      have a0 : dBrg V o u w (72 + 8 * V 2 + 0) = o := by unfold dBrg; simp (disch := omega) only [upN_n, upN_s]
      have a1 : dBrg V o u w (72 + 8 * V 2 + 1) = u := by unfold dBrg; simp (disch := omega) only [upN_n, upN_s]
      unfold IBb
      rw [a0, a1, z (72 + 8 * V 2 + 5) (by omega) (by omega), z (72 + 8 * V 2 + 6) (by omega) (by omega), z (72 + 8 * V 2 + 4) (by omega) (by omega)]
      exact ⟨hne, Nat.zero_le _, Nat.zero_le _, fun h => by cases h⟩
    · exact (p2 b (by omega)).cong fun k hk => oo _ (by omega) (by omega)
  · intro i hi
    rw [oo 1 (by omega) (by omega)] at hi
    rw [oo 0 (by omega) (by omega)]
    exact (p3 i hi).cong fun k hk => oo _ (by omega) (by omega)
  · intro a ha
    rw [oo 15 (by omega) (by omega)] at ha
    have := p4 a ha
    rw [oo 0 (by omega) (by omega), oo _ (by omega) (by omega), oo _ (by omega) (by omega)]
    refine ⟨this.1, this.2.1, this.2.2.1, fun h => ?_⟩
    rw [oo _ (by omega) (by omega)]
    exact this.2.2.2 h
  · unfold IKs at p5 ⊢
    rw [oo 15 (by omega) (by omega), oo 1 (by omega) (by omega), smN_cong (V 1) (fun j hj => oo _ (by omega) (by omega))]
    exact p5
end INV
