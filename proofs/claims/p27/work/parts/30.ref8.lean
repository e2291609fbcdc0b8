/-! the reference's questions -/
section REF8
variable {E : AEnv} {σ : ASt} {V : Nat → Nat} {m : Nat} {Q : Option Value → ASt → Prop} {K : Int32 → ASt → Prop} {KV : ASt → Prop}
theorem bt_1 {R i : Nat} (hR : R < 2 ^ 31) (hi : i < 32) : (nI R >>> (nI i &&& 31)) &&& nI 1 = nI 1 ↔ bt R i = true := by
  rw [bt_i hR hi]
  cases bt R i <;> simp [bI] <;> decide
theorem bt_tb {R i : Nat} : bt R i = R.testBit i := by
  unfold bt
  rw [Nat.testBit_eq_decide_div_mod_eq, Bool.eq_iff_iff, beq_iff', decide_eq_true_iff]
def oaN (V : Nat → Nat) (i : Nat) : Nat → Nat
  | 0 => 0
  | n + 1 => oaN V i n + (if opn V n = true ∧ (V (72 + 8 * n + 0) = i ∨ V (72 + 8 * n + 1) = i) then 1 else 0)
/-- the fewest bridges, within d more rounds -/
def fwD (V : Nat → Nat) (i : Nat) : Nat → Nat → Nat → Int32
  | 0, S, k => if bt S i = true then nI k else (-1000004 : Int32)
  | d + 1, S, k => if bt S i = true then nI k else fwD V i d (jac V 99 S (V 2)) (k + 1)
end REF8
