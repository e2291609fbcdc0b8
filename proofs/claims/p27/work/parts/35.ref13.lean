/-! the reference: settings, undo, what would be -/
section REF13
variable {E : AEnv} {σ τ : ASt} {V : Nat → Nat} {m n t : Nat} {Hs : Nat → Nat → Nat} {Tx : Nat → Nat} {Q : Option Value → ASt → Prop} {K : Int32 → ASt → Prop} {KV : ASt → Prop}
def hiS (w : Int32) : Nat := if w = nI 0 then 4 else if w = nI 1 then 100 else if w = nI 2 then 99 else if w = nI 3 then 1 else if w = nI 4 then 30 else if w = nI 5 then 99 else if w = nI 6 then 1 else 99
def loS (w : Int32) : Nat := if w = nI 1 then 1 else 0
theorem hiS_lt (w : Int32) : hiS w ≤ 100 := by
  unfold hiS
  repeat' split
  all_goals omega
def eSet (w v : Int32) : Int32 := if inRg w (nI 0) (nI 7) = true ∧ inRg v (nI (loS w)) (nI (hiS w)) = true then nI 0 else (-1000001 : Int32)
theorem eSet_ok {w v : Int32} (h : nI 0 ≤ eSet w v) : toN w ≤ 7 ∧ w = nI (toN w) ∧ loS w ≤ toN v ∧ toN v ≤ hiS w ∧ v = nI (toN v) := by
  have hh := hiS_lt w
  have hl : loS w ≤ 1 := by unfold loS; split <;> omega
  unfold eSet at h
  split at h
  · rename_i g
    obtain ⟨_, a2, a3⟩ := inRg_n (by decide) (by decide) g.1
    obtain ⟨b1, b2, b3⟩ := inRg_n (by omega) (by omega) g.2
    exact ⟨a2, a3, b1, b2, b3⟩
  · exact absurd h lt01
def dSet (V : Nat → Nat) (w v : Nat) : Nat → Nat := upN V (3 + w) v
theorem WF.set (hw : WF m V) {w v : Int32} (h : nI 0 ≤ eSet w v) : WF m (dSet V (toN w) (toN v)) := by
  obtain ⟨h1, ew, h2, h3, _⟩ := eSet_ok h
  obtain ⟨a1, a2, a3, a4, a5⟩ := hw
  have o : ∀ j, (j < 3 ∨ 11 ≤ j) → dSet V (toN w) (toN v) j = V j := fun j hj => upN_n (by omega)
  refine ⟨?_, ?_, ?_, ?_, ?_⟩
  · unfold W1 at a1 ⊢
    rw [o 1 (by omega), o 2 (by omega), o 15 (by omega)]
    exact a1
  · unfold W2 at a2 ⊢
    unfold dSet
    rw [ew] at h2 h3
    have hc : toN w = 0 ∨ toN w = 1 ∨ toN w = 2 ∨ toN w = 3 ∨ toN w = 4 ∨ toN w = 5 ∨ toN w = 6 ∨ toN w = 7 := by omega
    rcases hc with e | e | e | e | e | e | e | e <;> rw [e] at h2 h3 ⊢
    · have e3 : hiS (nI 0) = 4 := by decide
      simp (disch := omega) only [upN_n, upN_s]; omega
    · have e3 : hiS (nI 1) = 100 := by decide
      have e4 : loS (nI 1) = 1 := by decide
      simp (disch := omega) only [upN_n, upN_s]; omega
    · have e3 : hiS (nI 2) = 99 := by decide
      simp (disch := omega) only [upN_n, upN_s]; omega
    · have e3 : hiS (nI 3) = 1 := by decide
      simp (disch := omega) only [upN_n, upN_s]; omega
    · have e3 : hiS (nI 4) = 30 := by decide
      simp (disch := omega) only [upN_n, upN_s]; omega
    · have e3 : hiS (nI 5) = 99 := by decide
      simp (disch := omega) only [upN_n, upN_s]; omega
    · have e3 : hiS (nI 6) = 1 := by decide
      simp (disch := omega) only [upN_n, upN_s]; omega
    · have e3 : hiS (nI 7) = 99 := by decide
      simp (disch := omega) only [upN_n, upN_s]; omega
  · intro b hb
    rw [o 2 (by omega)] at hb
    rw [o 1 (by omega), o _ (by omega), o _ (by omega), o _ (by omega), o _ (by omega), o _ (by omega)]
    exact a3 b hb
  · intro i hi
    rw [o 1 (by omega)] at hi
    rw [o 0 (by omega), o _ (by omega), o _ (by omega), o _ (by omega)]
    exact a4 i hi
  · unfold W5 at a5 ⊢
    rw [o 0 (by omega), o 11 (by omega)]
    exact a5
end REF13
