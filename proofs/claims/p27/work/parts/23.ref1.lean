/-! the reference's reads -/
def W1 (V : Nat → Nat) : Prop := 1 ≤ V 1 ∧ V 1 ≤ 8 ∧ V 2 ≤ 14 ∧ V 15 ≤ 8
def W2 (V : Nat → Nat) : Prop := V 3 ≤ 4 ∧ 1 ≤ V 4 ∧ V 4 ≤ 100 ∧ V 5 ≤ 99 ∧ V 6 ≤ 1 ∧ V 7 ≤ 30 ∧ V 8 ≤ 99 ∧ V 9 ≤ 1 ∧ V 10 ≤ 99
def W3 (V : Nat → Nat) : Prop := ∀ b, b < V 2 → V (72 + 8 * b + 0) < V 1 ∧ V (72 + 8 * b + 1) < V 1 ∧ 1 ≤ V (72 + 8 * b + 2) ∧ V (72 + 8 * b + 2) ≤ 9 ∧ V (72 + 8 * b + 3) ≤ 100 ∧ V (72 + 8 * b + 4) ≤ 1
def W4 (V : Nat → Nat) : Prop := ∀ i, i < V 1 → V (32 + 5 * i + 0) ≤ 99 ∧ V (32 + 5 * i + 1) ≤ V 0 ∧ V (32 + 5 * i + 3) ≤ V 0
def W5 (m : Nat) (V : Nat → Nat) : Prop := V 0 ≤ m ∧ m ≤ 100000 ∧ V 11 ≤ 999999 + 99 * V 0
def WF (m : Nat) (V : Nat → Nat) : Prop := W1 V ∧ W2 V ∧ W3 V ∧ W4 V ∧ W5 m V
def bI (b : Bool) : Int32 := match b with
  | true => nI 1
  | false => nI 0
def pntd (V : Nat → Nat) (b : Nat) : Bool := Nat.beq (V (72 + 8 * b + 4)) 1
theorem fb0 : fN .boolean (nI 0) = true := by decide
theorem fb1 : fN .boolean (nI 1) = true := by decide
theorem bI_0 (b : Bool) : bI b = nI 0 ↔ b = false := by cases b <;> simp [bI] <;> decide
theorem beq_iff' {a b : Nat} : Nat.beq a b = true ↔ a = b := ⟨Nat.eq_of_beq_eq_true, fun h => by rw [h]; exact Nat.beq_refl b⟩
section REF
variable {E : AEnv} {σ : ASt} {V : Nat → Nat} {m : Nat} {Q : Option Value → ASt → Prop} {K : Int32 → ASt → Prop} {KV : ASt → Prop}
theorem WF.ends (h : WF m V) : endsOK V := fun b hb => by
  have h3 := h.2.2.1 b hb
  have h1 := h.1
  unfold W1 at h1
  omega
def stOf (V : Nat → Nat) (b : Nat) : Nat := if pntd V b = true then 1 else if 0 < V (72 + 8 * b + 3) then 0 else 2
/-- in(v, 0, n - 1) of any int -/
def inRg (x : Int32) (lo hi : Int32) : Bool := !(decide (x < lo)) && !(decide (hi < x))
theorem inRg_iff {x : Int32} {n : Nat} (hn : n < 2 ^ 31) : inRg x (nI 0) (nI n - nI 1) = true ↔ ∃ j, j < n ∧ x = nI j := by
  unfold inRg
  simp only [Bool.and_eq_true, Bool.not_eq_true', decide_eq_false_iff_not]
  constructor
  · rintro ⟨h1, h2⟩
    obtain ⟨j, hj, rfl⟩ := nI_of h1
    refine ⟨j, ?_, rfl⟩
    rcases Nat.eq_zero_or_pos n with h0 | h0
    · exfalso
      apply h2
      subst h0
      rw [Int32.lt_iff_toInt_lt, nI_toInt hj]
      have : (nI 0 - nI 1).toInt = -1 := by decide
      omega
    · rw [pk_sub (by omega), nI_ltI (by omega) hj] at h2
      omega
  · rintro ⟨j, hj, rfl⟩
    refine ⟨nI_pos (by omega), ?_⟩
    rw [pk_sub (by omega), nI_ltI (by omega) (by omega)]
    omega
end REF
