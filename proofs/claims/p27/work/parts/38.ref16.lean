/-! the reference reads its text -/
section REF16
variable {E : AEnv} {σ τ : ASt} {V : Nat → Nat} {m n t : Nat} {Tx : Nat → Nat} {P T f : Nat → Int32} {Q : Option Value → ASt → Prop} {K : Int32 → ASt → Prop} {KV : ASt → Prop}
theorem upd_s {P : Nat → Int32} {k : Nat} {x : Int32} : upd P k x k = x := if_pos rfl
theorem upd_n {P : Nat → Int32} {k j : Nat} {x : Int32} (h : j ≠ k) : upd P k x j = P j := if_neg h
def hre (t : Nat) (Tx : Nat → Nat) (sp : Nat) : Nat := if t ≤ sp then 0 else Tx sp
theorem hre_lt (hTx : ∀ j, j < t → Tx j ≤ 126) (sp : Nat) : hre t Tx sp ≤ 126 := by
  unfold hre
  split
  · omega
  · exact hTx sp (by omega)
/-- digits from a place on: value, how many, the place behind -/
def pN (t : Nat) (Tx : Nat → Nat) : Nat → Nat → Nat → Nat → Nat × Nat × Nat
  | 0, v, c, sp => (v, c, sp)
  | d + 1, v, c, sp => if 48 ≤ hre t Tx sp ∧ hre t Tx sp ≤ 57 then pN t Tx d (10 * v + hre t Tx sp - 48) (c + 1) (sp + 1) else (v, c, sp)
def nmR (t : Nat) (Tx : Nat → Nat) (fm : Bool) (sp : Nat) : Nat × Nat × Nat := if fm = true then pN t Tx 3 0 0 sp else (0, 0, sp)
end REF16
