/-! the reference's changes as they are called -/
section REF12
variable {E : AEnv} {σ τ : ASt} {V : Nat → Nat} {m n t : Nat} {Hs : Nat → Nat → Nat} {Tx : Nat → Nat} {Q : Option Value → ASt → Prop} {K : Int32 → ASt → Prop} {KV : ASt → Prop}
theorem lt01 : ¬ nI 0 ≤ (-1000001 : Int32) := by decide
theorem lt02 : ¬ nI 0 ≤ (-1000002 : Int32) := by decide
theorem lt03 : ¬ nI 0 ≤ (-1000003 : Int32) := by decide
theorem eIsl_ok (hw : WF m V) {x : Int32} (h : nI 0 ≤ eIsl V x) : toN x ≤ 99 ∧ x = nI (toN x) ∧ V 1 < 8 := by
  have h1 := hw.1
  unfold W1 at h1
  unfold eIsl at h
  split at h
  · rename_i g
    obtain ⟨_, h2, h3⟩ := inRg_n (by decide) (by decide) g
    split at h
    · exact absurd h lt03
    · exact ⟨h2, h3, by omega⟩
  · exact absurd h lt01
theorem eBrg_ok (hw : WF m V) {x y w : Int32} (h : nI 0 ≤ eBrg V x y w) : toN x < V 1 ∧ x = nI (toN x) ∧ toN y < V 1 ∧ y = nI (toN y) ∧ 1 ≤ toN w ∧ toN w ≤ 9 ∧ w = nI (toN w) ∧ V 2 < 14 := by
  have h1 := hw.1
  unfold W1 at h1
  unfold eBrg at h
  split at h
  · rename_i g
    obtain ⟨g1, g2, g3, g4⟩ := g
    obtain ⟨a1, a2⟩ := inIs_n hw g1
    obtain ⟨b1, b2⟩ := inIs_n hw g2
    obtain ⟨c1, c2, c3⟩ := inRg_n (by decide) (by decide) g4
    split at h
    · exact absurd h lt03
    · exact ⟨a1, a2, b1, b2, c1, c2, c3, by omega⟩
  · exact absurd h lt01
theorem eSnd_ok (hw : WF m V) {x f : Int32} (h : nI 0 ≤ eSnd V x f) : toN x < V 2 ∧ x = nI (toN x) := by
  unfold eSnd at h
  split at h
  · rename_i g
    exact inBr_n hw g.1
  · exact absurd h lt01
theorem eRec_ok (hw : WF m V) {x : Int32} (h : nI 0 ≤ eRec V x) : toN x < V 2 ∧ x = nI (toN x) := by
  unfold eRec at h
  split at h
  · rename_i g
    exact inBr_n hw g
  · exact absurd h lt01
theorem ePay_ok {x : Int32} (h : nI 0 ≤ ePay V x) : 1 ≤ toN x ∧ toN x ≤ 999 ∧ x = nI (toN x) ∧ V 11 + toN x ≤ 999999 := by
  unfold ePay at h
  split at h
  · rename_i g
    obtain ⟨c1, c2, c3⟩ := inRg_n (by decide) (by decide) g
    split at h
    · rename_i g2
      exact ⟨c1, c2, c3, g2⟩
    · exact absurd h lt03
  · exact absurd h lt01
theorem eDys_ok {x : Int32} (h : nI 0 ≤ eDys V x) : 1 ≤ toN x ∧ toN x ≤ 99 ∧ x = nI (toN x) ∧ V 0 + toN x ≤ 9999 := by
  unfold eDys at h
  split at h
  · rename_i g
    obtain ⟨c1, c2, c3⟩ := inRg_n (by decide) (by decide) g
    split at h
    · rename_i g2
      exact ⟨c1, c2, c3, g2⟩
    · exact absurd h lt03
  · exact absurd h lt01
theorem WF.to (hw : WF m V) {k : Nat} (h : V 0 ≤ k) (hk : k ≤ 100000) : WF k V := by
  obtain ⟨a1, a2, a3, a4, a5⟩ := hw
  unfold W5 at a5
  exact ⟨a1, a2, a3, a4, h, hk, a5.2.2⟩
theorem dIsl_o {f j : Nat} (h1 : j ≠ 1) (h : j < 32 + 5 * V 1 ∨ 37 + 5 * V 1 ≤ j) : dIsl V f j = V j := by
  unfold dIsl
  simp (disch := omega) only [upN_n, upN_s]
  exact zI_o 5 (by omega)
theorem dBrg_o {o u w j : Nat} (h1 : j ≠ 2) (h : j < 72 + 8 * V 2 ∨ 80 + 8 * V 2 ≤ j) : dBrg V o u w j = V j := by
  unfold dBrg
  simp (disch := omega) only [upN_n, upN_s]
  exact zB_o 8 (by omega)
theorem WF.isl (hw : WF m V) {f : Nat} (hf : f ≤ 99) (h : V 1 < 8) : WF m (dIsl V f) := by
  obtain ⟨a1, a2, a3, a4, a5⟩ := hw
  unfold W1 at a1
  have e1 : dIsl V f 1 = V 1 + 1 := by unfold dIsl; simp (disch := omega) only [upN_n, upN_s]
  have z : ∀ j, 32 + 5 * V 1 < j → j < 37 + 5 * V 1 → dIsl V f j = 0 := fun j h1 h2 => by
    unfold dIsl
    simp (disch := omega) only [upN_n, upN_s]
    exact zI_z 5 (by omega) (by omega)
  refine ⟨?_, ?_, ?_, ?_, ?_⟩
  · unfold W1
    rw [e1, dIsl_o (by decide) (by omega), dIsl_o (by decide) (by omega)]
    omega
  · unfold W2 at a2 ⊢
    rw [dIsl_o (j := 3) (by decide) (by omega), dIsl_o (j := 4) (by decide) (by omega), dIsl_o (j := 5) (by decide) (by omega), dIsl_o (j := 6) (by decide) (by omega), dIsl_o (j := 7) (by decide) (by omega), dIsl_o (j := 8) (by decide) (by omega), dIsl_o (j := 9) (by decide) (by omega), dIsl_o (j := 10) (by decide) (by omega)]
    exact a2
  · intro b hb
    rw [dIsl_o (by decide) (by omega)] at hb
    have := a3 b hb
    rw [e1, dIsl_o (by omega) (by omega), dIsl_o (by omega) (by omega), dIsl_o (by omega) (by omega), dIsl_o (by omega) (by omega), dIsl_o (by omega) (by omega)]
    omega
  · intro i hi
    rw [e1] at hi
    by_cases hi1 : i = V 1
    · subst hi1
      have e0 : dIsl V f (32 + 5 * V 1 + 0) = f := by unfold dIsl; simp (disch := omega) only [upN_n, upN_s]
      rw [e0, z (32 + 5 * V 1 + 1) (by omega) (by omega), z (32 + 5 * V 1 + 3) (by omega) (by omega)]
      omega
    · have := a4 i (by omega)
      rw [dIsl_o (j := 0) (by decide) (by omega), dIsl_o (by omega) (by omega), dIsl_o (by omega) (by omega), dIsl_o (by omega) (by omega)]
      exact this
  · unfold W5 at a5 ⊢
    rw [dIsl_o (j := 0) (by decide) (by omega), dIsl_o (j := 11) (by decide) (by omega)]
    exact a5
theorem WF.nbr (hw : WF m V) {o u w : Nat} (ho : o < V 1) (hu : u < V 1) (h9 : 1 ≤ w ∧ w ≤ 9) (h : V 2 < 14) : WF m (dBrg V o u w) := by
  obtain ⟨a1, a2, a3, a4, a5⟩ := hw
  unfold W1 at a1
  have e2 : dBrg V o u w 2 = V 2 + 1 := by unfold dBrg; simp (disch := omega) only [upN_n, upN_s]
  refine ⟨?_, ?_, ?_, ?_, ?_⟩
  · unfold W1
    rw [e2, dBrg_o (by decide) (by omega), dBrg_o (by decide) (by omega)]
    omega
  · unfold W2 at a2 ⊢
    rw [dBrg_o (j := 3) (by decide) (by omega), dBrg_o (j := 4) (by decide) (by omega), dBrg_o (j := 5) (by decide) (by omega), dBrg_o (j := 6) (by decide) (by omega), dBrg_o (j := 7) (by decide) (by omega), dBrg_o (j := 8) (by decide) (by omega), dBrg_o (j := 9) (by decide) (by omega), dBrg_o (j := 10) (by decide) (by omega)]
    exact a2
  · intro b hb
    rw [e2] at hb
    rw [dBrg_o (j := 1) (by decide) (by omega)]
    by_cases hb2 : b = V 2
    · subst hb2
      have e4 : dBrg V o u w (72 + 8 * V 2 + 4) = 0 := by
        unfold dBrg
        simp (disch := omega) only [upN_n, upN_s]
        exact zB_z 8 (by omega) (by omega)
      rw [e4]
      unfold dBrg
      simp (disch := omega) only [upN_n, upN_s]
      omega
    · have := a3 b (by omega)
      rw [dBrg_o (by omega) (by omega), dBrg_o (by omega) (by omega), dBrg_o (by omega) (by omega), dBrg_o (by omega) (by omega), dBrg_o (by omega) (by omega)]
      exact this
  · intro i hi
    rw [dBrg_o (by decide) (by omega)] at hi
    have := a4 i hi
    rw [dBrg_o (j := 0) (by decide) (by omega), dBrg_o (by omega) (by omega), dBrg_o (by omega) (by omega), dBrg_o (by omega) (by omega)]
    exact this
  · unfold W5 at a5 ⊢
    rw [dBrg_o (j := 0) (by decide) (by omega), dBrg_o (j := 11) (by decide) (by omega)]
    exact a5
theorem WF.pay (hw : WF m V) {c : Nat} (h : V 11 + c ≤ 999999) : WF m (dPay V c) := by
  obtain ⟨a1, a2, a3, a4, a5⟩ := hw
  have o : ∀ j, j ≠ 11 → j ≠ 14 → dPay V c j = V j := fun j h1 h2 => by
    unfold dPay
    simp (disch := omega) only [upN_n, upN_s]
  have e11 : dPay V c 11 = V 11 + c := by unfold dPay; simp (disch := omega) only [upN_n, upN_s]
  refine ⟨?_, ?_, ?_, ?_, ?_⟩
  · unfold W1 at a1 ⊢
    rw [o 1 (by decide) (by decide), o 2 (by decide) (by decide), o 15 (by decide) (by decide)]
    exact a1
  · unfold W2 at a2 ⊢
    rw [o 3 (by decide) (by decide), o 4 (by decide) (by decide), o 5 (by decide) (by decide), o 6 (by decide) (by decide), o 7 (by decide) (by decide), o 8 (by decide) (by decide), o 9 (by decide) (by decide), o 10 (by decide) (by decide)]
    exact a2
  · intro b hb
    rw [o 2 (by decide) (by decide)] at hb
    rw [o 1 (by decide) (by decide), o _ (by omega) (by omega), o _ (by omega) (by omega), o _ (by omega) (by omega), o _ (by omega) (by omega), o _ (by omega) (by omega)]
    exact a3 b hb
  · intro i hi
    rw [o 1 (by decide) (by decide)] at hi
    rw [o 0 (by decide) (by decide), o _ (by omega) (by omega), o _ (by omega) (by omega), o _ (by omega) (by omega)]
    exact a4 i hi
  · unfold W5 at a5 ⊢
    rw [o 0 (by decide) (by decide), e11]
    omega
def opA (e : Int32) (a : Nat) : Int32 := if nI 0 ≤ e then nI a else e
def opV (e : Int32) (V W : Nat → Nat) : Nat → Nat := if nI 0 ≤ e then W else V
def opN (e : Int32) (n : Nat) : Nat := if nI 0 ≤ e then pushN n else n
def opH (e : Int32) (n : Nat) (Hs : Nat → Nat → Nat) (V : Nat → Nat) : Nat → Nat → Nat := if nI 0 ≤ e then pushH n Hs V else Hs
end REF12
