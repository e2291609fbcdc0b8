/-! the reference does an order, and all of them -/
section REF19
variable {E : AEnv} {σ τ : ASt} {V : Nat → Nat} {m n t : Nat} {Tx : Nat → Nat} {P T f : Nat → Int32} {Q : Option Value → ASt → Prop} {K : Int32 → ASt → Prop} {KV : ASt → Prop}
theorem WF.ord (hw : WF 9999 V) {l : Nat} {N : Nat → Nat} (he : nI 0 ≤ eOrd V l N) : WF 9999 (dOrd V l N) := by
  have h5 := hw.2.2.2.2
  unfold W5 at h5
  unfold eOrd at he
  unfold dOrd
  by_cases e : l = 98
  · rw [if_pos e] at he ⊢
    obtain ⟨hx, ex, hy, ey, w1, w2, ew, h14⟩ := eBrg_ok hw he
    exact hw.nbr hx hy ⟨w1, w2⟩ h14
  rw [if_neg e] at he ⊢
  by_cases e : l = 102
  · rw [if_pos e] at he ⊢
    exact hw.snd (eSnd_ok hw he).1
  rw [if_neg e] at he ⊢
  by_cases e : l = 105
  · rw [if_pos e] at he ⊢
    obtain ⟨hx, ex, h8⟩ := eIsl_ok hw he
    exact hw.isl hx h8
  rw [if_neg e] at he ⊢
  by_cases e : l = 112
  · rw [if_pos e] at he ⊢
    exact hw.pay (ePay_ok he).2.2.2
  rw [if_neg e] at he ⊢
  by_cases e : l = 114
  · rw [if_pos e] at he ⊢
    exact hw.rec (eRec_ok hw he).1
  rw [if_neg e] at he ⊢
  by_cases e : l = 115
  · rw [if_pos e] at he ⊢
    exact hw.snd (eSnd_ok hw he).1
  rw [if_neg e] at he ⊢
  obtain ⟨x1, x2, ex, h9⟩ := eDys_ok he
  have h := WF.dysn (toN (nI (N 0))) (V 0) V (hw.to (Nat.le_refl _) (by omega)) (by omega)
  exact h.to (Nat.le_trans h.2.2.2.2.1 h9) (by decide)
theorem stgs_ge {s : Bool × Nat × (Nat → Nat)} : ∀ k, s.2.1 ≤ (stgs t Tx s k).2.1
  | 0 => Nat.le_refl _
  | k + 1 => by
    have h1 := stgs_ge (s := s) k
    have pg : ∀ (d v c sp : Nat), sp ≤ (pN t Tx d v c sp).2.2 := by
      intro d
      induction d with
      | zero => intro v c sp; exact Nat.le_refl _
      | succ d ih =>
        intro v c sp
        rw [pN]
        split
        · exact Nat.le_trans (Nat.le_succ _) (ih _ _ _)
        · exact Nat.le_refl _
    have ng : ∀ fm sp, sp ≤ (nmR t Tx fm sp).2.2 := fun fm sp => by
      unfold nmR
      split
      · exact pg _ _ _ _
      · exact Nat.le_refl _
    rw [stgs]
    refine Nat.le_trans h1 ?_
    unfold stg
    dsimp only
    refine Nat.le_trans ?_ (ng _ _)
    split
    · exact Nat.le_refl _
    · exact Nat.le_add_right _ _
theorem ordP_ge {sp : Nat} : sp ≤ ordP t Tx sp := by
  have h1 := stgs_ge (t := t) (Tx := Tx) (s := stg0 t Tx sp) (cntL (hre t Tx sp))
  have h2 : sp ≤ (stg0 t Tx sp).2.1 := Nat.le_add_right _ _
  unfold ordP
  unfold stgE
  omega
theorem ordP_le {sp : Nat} : ordP t Tx sp ≤ sp + 14 := by
  have h1 := stgs_le (t := t) (Tx := Tx) (s := stg0 t Tx sp) (cntL (hre t Tx sp))
  have h2 : (stg0 t Tx sp).2.1 ≤ sp + 1 := by unfold stg0; dsimp only; split <;> omega
  have h3 : cntL (hre t Tx sp) ≤ 3 := by unfold cntL; split <;> omega
  unfold ordP
  unfold stgE
  split <;> omega
/-- all the orders: how many were done, what is then, and the fault: reason (0 none), place, cause -/
def plL (t : Nat) (Tx : Nat → Nat) : Nat → (Nat → Nat) → Nat → Nat → Nat × (Nat → Nat) × Nat × Nat × Int32
  | 0, V, n, _ => (n, V, 0, 0, nI 0)
  | d + 1, V, n, sp => if t ≤ sp then (n, V, 0, 0, nI 0) else if ordF t Tx sp = true then
      (if nI 0 ≤ eOrd V (hre t Tx sp) (ordN t Tx sp) then plL t Tx d (dOrd V (hre t Tx sp) (ordN t Tx sp)) (n + 1) (ordP t Tx sp) else (n, V, 2, sp, eOrd V (hre t Tx sp) (ordN t Tx sp)))
      else (n, V, 1, sp, nI (ordP t Tx sp - sp))
end REF19
