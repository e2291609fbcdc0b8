/-! the reference: fault and play as called -/
section REF21
variable {E : AEnv} {σ τ : ASt} {V : Nat → Nat} {m n t : Nat} {Hs : Nat → Nat → Nat} {Tx : Nat → Nat} {P P0 T f : Nat → Int32} {Q : Option Value → ASt → Prop} {K : Int32 → ASt → Prop} {KV : ASt → Prop}
def qFlt (V : Nat → Nat) (t : Nat) (Tx : Nat → Nat) (x : Int32) : Int32 :=
  if inRg x (nI 0) (nI 2) = true then
    if (plL t Tx 60 V 0 0).2.2.1 = 0 then (-1000004 : Int32)
    else if x = nI 0 then nI (plL t Tx 60 V 0 0).2.2.2.1 else if x = nI 1 then nI (plL t Tx 60 V 0 0).2.2.1 else (plL t Tx 60 V 0 0).2.2.2.2
  else (-1000001 : Int32)
end REF21
