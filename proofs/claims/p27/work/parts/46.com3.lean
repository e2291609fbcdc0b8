/-! the component's sums; how many are painted -/
section COM3
variable {E : AEnv} {σ τ : ASt} {B : Nat} {U : Nat → Nat → Int32} {V : Nat → Nat} {m n t : Nat} {Q : Option Value → ASt → Prop} {K : Int32 → ASt → Prop} {KV : ASt → Prop}
def bc1 (S : Nat) : Nat := S - (S / 2 ^ 1 &&& 1431655765)
def bc2 (x : Nat) : Nat := (x &&& 858993459) + (x / 2 ^ 2 &&& 858993459)
def bc3 (x : Nat) : Nat := (x + x / 2 ^ 4) &&& 252645135
def bc4 (x : Nat) : Nat := x + x / 2 ^ 8
def bc5 (x : Nat) : Nat := x + x / 2 ^ 16
def bcN (S : Nat) : Nat := bc5 (bc4 (bc3 (bc2 (bc1 S)))) &&& 63
theorem bc_all : (List.range 16384).all (fun S => Nat.beq (bcN S) (cntM S 14)) = true := by decide +kernel
end COM3
