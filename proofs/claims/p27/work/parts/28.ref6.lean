/-! the reference's day, to its end -/
section REF6
variable {E : AEnv} {σ : ASt} {V : Nat → Nat} {m : Nat} {Q : Option Value → ASt → Prop} {K : Int32 → ASt → Prop} {KV : ASt → Prop}
def dEnd (N : Nat → Nat) : Nat → Nat := upN (upN (upN N 0 (N 0 + 1)) 11 (N 11 + N 8)) 14 (N 14 + N 8)
def dFin (N : Nat → Nat) : Nat → Nat := if N 9 = 1 then aut 4 (dEnd N) else dEnd N
def dBok (I : Nat → Nat) (c : Nat) : Nat → Nat := if c = 0 then I else dNot I c
def dW3 (V : Nat → Nat) : Nat → Nat := dWA (opn V) (dPA V (V 2)) (V 2)
def dDay (V : Nat → Nat) : Nat → Nat := dFin (dBok (dIA (dW3 V) (reachV (dW3 V) 0 99) (V 1)) (cIA (dW3 V) (reachV (dW3 V) 0 99) (V 1)))
def cDay (V : Nat → Nat) : Nat := cIA (dW3 V) (reachV (dW3 V) 0 99) (V 1)
theorem WL.not {k c : Nat} (hw : WL m k V) : WL m k (dNot V c) := by
  obtain ⟨a1, a2, a3, a4, a5⟩ := hw
  unfold W1 at a1
  have p : ∀ j, 32 ≤ j → dNot V c j = V j := fun j h => dNot_o (by omega)
  refine ⟨?_, ?_, ?_, ?_, ?_⟩
  · unfold W1
    rw [dNot_o (by omega), dNot_o (by omega)]
    unfold dNot
    rw [upN_s]
    split <;> omega
  · unfold W2 at a2 ⊢
    rw [dNot_o (j := 3) (by omega), dNot_o (j := 4) (by omega), dNot_o (j := 5) (by omega), dNot_o (j := 6) (by omega), dNot_o (j := 7) (by omega), dNot_o (j := 8) (by omega), dNot_o (j := 9) (by omega), dNot_o (j := 10) (by omega)]
    exact a2
  · intro b hb
    rw [dNot_o (by omega)] at hb
    rw [dNot_o (j := 1) (by omega), p _ (by omega), p _ (by omega), p _ (by omega), p _ (by omega), p _ (by omega)]
    exact a3 b hb
  · intro i hi
    rw [dNot_o (by omega)] at hi
    rw [dNot_o (j := 0) (by omega), p _ (by omega), p _ (by omega), p _ (by omega)]
    exact a4 i hi
  · unfold W5 at a5 ⊢
    rw [dNot_o (j := 0) (by omega), dNot_o (j := 11) (by omega)]
    exact a5
theorem WL.bok {k c : Nat} (hw : WL m k V) : WL m k (dBok V c) := by
  unfold dBok
  split
  · exact hw
  · exact hw.not
theorem WL.fin {k : Nat} (hw : WL m k V) (hm : m < 100000) : WF (m + 1) (dEnd V) := by
  obtain ⟨a1, a2, a3, a4, a5⟩ := hw
  unfold W1 at a1
  unfold W2 at a2
  unfold W5 at a5
  have o : ∀ j, j ≠ 0 → j ≠ 11 → j ≠ 14 → dEnd V j = V j := fun j h1 h2 h3 => by
    unfold dEnd
    simp (disch := omega) only [upN_n, upN_s]
  have e0 : dEnd V 0 = V 0 + 1 := by unfold dEnd; simp (disch := omega) only [upN_n, upN_s]
  have e11 : dEnd V 11 = V 11 + V 8 := by unfold dEnd; simp (disch := omega) only [upN_n, upN_s]
  refine ⟨?_, ?_, ?_, ?_, ?_⟩
  · unfold W1
    rw [o 1 (by decide) (by decide) (by decide), o 2 (by decide) (by decide) (by decide), o 15 (by decide) (by decide) (by decide)]
    exact a1
  · unfold W2
    rw [o 3 (by decide) (by decide) (by decide), o 4 (by decide) (by decide) (by decide), o 5 (by decide) (by decide) (by decide), o 6 (by decide) (by decide) (by decide), o 7 (by decide) (by decide) (by decide), o 8 (by decide) (by decide) (by decide), o 9 (by decide) (by decide) (by decide), o 10 (by decide) (by decide) (by decide)]
    exact a2
  · intro c hc
    rw [o 2 (by decide) (by decide) (by decide)] at hc
    rw [o 1 (by decide) (by decide) (by decide), o _ (by omega) (by omega) (by omega), o _ (by omega) (by omega) (by omega), o _ (by omega) (by omega) (by omega), o _ (by omega) (by omega) (by omega), o _ (by omega) (by omega) (by omega)]
    exact a3 c hc
  · intro i hi
    rw [o 1 (by decide) (by decide) (by decide)] at hi
    rw [e0, o _ (by omega) (by omega) (by omega), o _ (by omega) (by omega) (by omega), o _ (by omega) (by omega) (by omega)]
    have := a4 i hi
    omega
  · unfold W5
    rw [e0, e11]
    omega
theorem WF.autn : ∀ (n : Nat) (V : Nat → Nat), WF m V → WF m (aut n V)
  | 0, _, hw => hw
  | n + 1, V, hw => by
    have hl : bsV V = 99 ∨ bsV V < V 2 := bsN_lt V (V 2)
    rw [aut]
    split
    · exact hw
    · exact WF.autn n _ (hw.snd (by omega))
theorem WF.w3 (hw : WF m V) : WF m (dW3 V) := by
  unfold dW3
  have e : dPA V (V 2) 2 = V 2 := dPA_o _ (by decide) (by decide) (by omega)
  exact (hw.pa _ (Nat.le_refl _)).wa _ _ (by omega)
theorem dW3_o {j : Nat} (h : j < 72) (h1 : j ≠ 11) (h2 : j ≠ 12) : dW3 V j = V j := by
  unfold dW3
  rw [dWA_o _ (by omega), dPA_o _ h1 h2 (by omega)]
theorem WF.bk (hw : WF m V) : WL m (V 1) (dBok (dIA (dW3 V) (reachV (dW3 V) 0 99) (V 1)) (cDay V)) := by
  have e : dW3 V 1 = V 1 := dW3_o (by decide) (by decide) (by decide)
  exact (hw.w3.ia _ _ (by omega)).bok
theorem WF.day (hw : WF m V) (hm : m < 100000) : WF (m + 1) (dDay V) := by
  have h := hw.bk.fin hm
  unfold dDay dFin
  split
  · exact WF.autn 4 _ h
  · exact h
theorem aut_o {j : Nat} (hj : j < 72) : ∀ (n : Nat) (V : Nat → Nat), aut n V j = V j
  | 0, _ => rfl
  | n + 1, V => by
    rw [aut]
    split
    · rfl
    · rw [aut_o hj n, dSnd_o (by omega)]
theorem cDay_le (hw : WF m V) : cDay V ≤ 8 := by
  have h1 := hw.1
  unfold W1 at h1
  have := cIA_le (V := dW3 V) (R := reachV (dW3 V) 0 99) (V 1)
  unfold cDay
  omega
/-- many days -/
def dDays : Nat → (Nat → Nat) → (Nat → Nat)
  | 0, V => V
  | n + 1, V => dDays n (dDay V)
def cDays : Nat → (Nat → Nat) → Nat
  | 0, _ => 0
  | n + 1, V => cDay V + cDays n (dDay V)
theorem WF.dysn : ∀ (n m : Nat) (V : Nat → Nat), WF m V → m + n ≤ 100000 → WF (m + n) (dDays n V)
  | 0, _, _, hw, _ => hw
  | n + 1, m, V, hw, hm => by
    rw [dDays, show m + (n + 1) = m + 1 + n by omega]
    exact WF.dysn n (m + 1) _ (hw.day (by omega)) (by omega)
end REF6
