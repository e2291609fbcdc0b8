/-! the reference: count, the text's characters -/
section REF15
variable {E : AEnv} {σ τ : ASt} {V : Nat → Nat} {m n t : Nat} {Hs : Nat → Nat → Nat} {Tx : Nat → Nat} {Q : Option Value → ASt → Prop} {K : Int32 → ASt → Prop} {KV : ASt → Prop}
def qCnt (V : Nat → Nat) (n t : Nat) (x : Int32) : Int32 :=
  if x = nI 0 then nI (V 0) else
  if x = nI 1 then nI (V 1) else
  if x = nI 2 then nI (V 2) else
  if x = nI 3 then nI (reachV V 0 99) else
  if x = nI 4 then nI (setN (isSt V 0) (V 2)) else
  if x = nI 5 then nI (setN (isSt V 1) (V 2)) else
  if x = nI 6 then nI (setN (isSt V 2) (V 2)) else
  if x = nI 7 then nI (setN (isNd V) (V 2)) else
  if x = nI 8 then nI (grN V (V 1)) else
  if x = nI 9 then nI (grN V (V 1)) else
  if x = nI 10 then nI (V 3 - pcV V) else
  if x = nI 11 then nI (smN V 2 (V 1)) else
  if x = nI 12 then nI (mxN V 3 (V 1)) else
  if x = nI 13 then nI (V 11) else
  if x = nI 14 then nI (V 12) else
  if x = nI 15 then nI (V 13) else
  if x = nI 16 then nI (V 14) else
  if x = nI 17 then nI (V 15) else
  if x = nI 18 then nI n else
  if x = nI 19 then nI t else
  if inRg x (nI 20) (nI 27) = true then nI (V (toN x - 17)) else (-1000001 : Int32)
def qTyp (t : Nat) (x : Int32) : Int32 := if inRg x (nI 32) (nI 126) = true then (if t = 60 then (-1000003 : Int32) else nI (t + 1)) else (-1000001 : Int32)
def nTyp (t : Nat) (x : Int32) : Nat := if inRg x (nI 32) (nI 126) = true then (if t = 60 then t else t + 1) else t
def fTyp (t : Nat) (Tx : Nat → Nat) (x : Int32) : Nat → Nat := if inRg x (nI 32) (nI 126) = true then (if t = 60 then Tx else upN Tx t (toN x)) else Tx
end REF15
