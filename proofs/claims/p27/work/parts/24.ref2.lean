/-! the reference: who is reached, reasons, the best -/
section REF2
variable {E : AEnv} {σ : ASt} {V : Nat → Nat} {m : Nat} {Q : Option Value → ASt → Prop} {K : Int32 → ASt → Prop} {KV : ASt → Prop}
/-- x stands for the bridge wo (or for none) -/
def woI (x : Int32) (wo : Nat) : Prop := ∀ b, b < 14 → (nI b = x ↔ b = wo)
theorem woI_b {b : Nat} (hb : b < 14) : woI (nI b) b := fun c hc => nI_eq (by omega) (by omega)
theorem woI_m : woI (-1 : Int32) 99 := fun b hb => ⟨fun h => by
  exfalso
  have h1 := congrArg Int32.toInt h
  rw [nI_toInt (by omega)] at h1
  have h2 : (-1 : Int32).toInt = -1 := by decide
  omega, fun h => by omega⟩
/-- islands that are cut off without b -/
def cutV (V : Nat → Nat) (b : Nat) : Nat := reachV V 0 99 ^^^ (reachV V 0 99 &&& reachV V 0 b)
theorem cutV_lt (hw : WF m V) (b : Nat) : cutV V b < 2 ^ 8 := by
  have h1 := reach_lt hw.ends (i := 0) (wo := 99) (by decide)
  exact Nat.xor_lt_two_pow h1 (Nat.lt_of_le_of_lt Nat.and_le_left h1)
/-- how many are painted -/
def pcN (V : Nat → Nat) : Nat → Nat
  | 0 => 0
  | n + 1 => pcN V n + V (72 + 8 * n + 4)
def pcV (V : Nat → Nat) : Nat := pcN V (V 2)
theorem pcN_le (hw : WF m V) : ∀ n, n ≤ V 2 → pcN V n ≤ n
  | 0, _ => Nat.le_refl _
  | n + 1, h => by
    have ih := pcN_le hw n (by omega)
    have h3 := hw.2.2.1 n (by omega)
    rw [pcN]
    omega
theorem pcV_le (hw : WF m V) : pcV V ≤ 14 := by
  have := pcN_le hw (V 2) (Nat.le_refl _)
  have h1 := hw.1
  unfold W1 at h1
  unfold pcV
  omega
def rsn (V : Nat → Nat) (b : Nat) : Nat := if pntd V b = true then 1 else if V (72 + 8 * b + 3) = 100 then 2 else if V 3 ≤ pcV V then 3 else if cutV V b = 0 then 0 else 4
/-- the best among the first n: a bridge, or 99 -/
def bsN (V : Nat → Nat) : Nat → Nat
  | 0 => 99
  | n + 1 => if V (72 + 8 * n + 3) ≤ V 10 ∧ rsn V n = 0 ∧ (bsN V n = 99 ∨ V (72 + 8 * n + 3) < V (72 + 8 * bsN V n + 3)) then n else bsN V n
def bsV (V : Nat → Nat) : Nat := bsN V (V 2)
/-- as the int that tells it -/
def bsI (b : Nat) : Int32 := if b = 99 then (-1000004 : Int32) else nI b
theorem bsN_lt (V : Nat → Nat) : ∀ n, bsN V n = 99 ∨ bsN V n < n
  | 0 => Or.inl rfl
  | n + 1 => by
    rw [bsN]
    split
    · right; omega
    · rcases bsN_lt V n with h | h
      · exact Or.inl h
      · right; omega
theorem rsn_lt (V : Nat → Nat) (b : Nat) : rsn V b < 5 := by
  unfold rsn
  repeat' split
  all_goals decide
end REF2
