/-! the reference reads and does an order -/
section REF18
variable {E : AEnv} {σ τ : ASt} {V : Nat → Nat} {m n t : Nat} {Tx : Nat → Nat} {P T f : Nat → Int32} {Q : Option Value → ASt → Prop} {K : Int32 → ASt → Prop} {KV : ASt → Prop}
def eOrd (V : Nat → Nat) (l : Nat) (N : Nat → Nat) : Int32 :=
  if l = 98 then eBrg V (nI (N 0)) (nI (N 1)) (nI (N 2)) else if l = 102 then eSnd V (nI (N 0)) (nI 1) else if l = 105 then eIsl V (nI (N 0)) else if l = 112 then ePay V (nI (N 0)) else if l = 114 then eRec V (nI (N 0)) else if l = 115 then eSnd V (nI (N 0)) (nI 0) else eDys V (nI (N 0))
def dOrd (V : Nat → Nat) (l : Nat) (N : Nat → Nat) : Nat → Nat :=
  if l = 98 then dBrg V (toN (nI (N 0))) (toN (nI (N 1))) (toN (nI (N 2))) else if l = 102 then dSnd V (toN (nI (N 0))) else if l = 105 then dIsl V (toN (nI (N 0))) else if l = 112 then dPay V (toN (nI (N 0))) else if l = 114 then dRec V (toN (nI (N 0))) else if l = 115 then dSnd V (toN (nI (N 0))) else dDays (toN (nI (N 0))) V
def aOrd (V : Nat → Nat) (l : Nat) (N : Nat → Nat) : Nat :=
  if l = 98 then V 2 else if l = 102 then cutV V (toN (nI (N 0))) else if l = 105 then V 1 else if l = 112 then V 11 + toN (nI (N 0)) else if l = 114 then V (72 + 8 * toN (nI (N 0)) + 3) else if l = 115 then cutV V (toN (nI (N 0))) else cDays (toN (nI (N 0))) V
end REF18
