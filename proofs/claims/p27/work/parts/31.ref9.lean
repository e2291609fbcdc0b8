/-! the reference's questions, 2 -/
section REF9
variable {E : AEnv} {σ : ASt} {V : Nat → Nat} {m : Nat} {Q : Option Value → ASt → Prop} {K : Int32 → ASt → Prop} {KV : ASt → Prop}
def qBrg (V : Nat → Nat) (x w : Int32) : Int32 :=
  if inBr V x = true then
    if w = nI 0 then nI (V (72 + 8 * toN x + 0))
    else if w = nI 1 then nI (V (72 + 8 * toN x + 1))
    else if w = nI 2 then nI (V (72 + 8 * toN x + 2))
    else if w = nI 3 then nI (V (72 + 8 * toN x + 3))
    else if w = nI 4 then nI (stOf V (toN x))
    else if w = nI 5 then nI (V (72 + 8 * toN x + 5))
    else if w = nI 6 then nI (V (72 + 8 * toN x + 6))
    else if w = nI 7 then nI (V (72 + 8 * toN x + 7))
    else if w = nI 8 then (if opn V (toN x) = true ∧ cutV V (toN x) ≠ 0 then nI 1 else nI 0)
    else (-1000001 : Int32)
  else (-1000001 : Int32)
def qIsl (V : Nat → Nat) (x w : Int32) : Int32 :=
  if inIs V x = true then
    if w = nI 0 then bI (bt (reachV V 0 99) (toN x))
    else if w = nI 1 then nI (V (32 + 5 * toN x + 1))
    else if w = nI 2 then nI (V (32 + 5 * toN x + 0))
    else if w = nI 3 then nI (V (32 + 5 * toN x + 2))
    else if w = nI 4 then nI (V (32 + 5 * toN x + 3))
    else if w = nI 5 then nI (V (32 + 5 * toN x + 4))
    else if w = nI 6 then nI (oaN V (toN x) (V 2))
    else if w = nI 7 then fwD V (toN x) 8 1 0
    else (-1000001 : Int32)
  else (-1000001 : Int32)
def qRea (V : Nat → Nat) (x : Int32) : Int32 := if inIs V x = true then nI (reachV V (toN x) 99) else (-1000001 : Int32)
def qBok (V : Nat → Nat) (a w : Int32) : Int32 :=
  if a < nI 0 then (-1000001 : Int32) else if inRg w (nI 0) (nI 1) = true then (if V 15 ≤ toN a then (-1000004 : Int32) else nI (V (16 + 2 * toN a + toN w))) else (-1000001 : Int32)
/-- the lowest member of a set of islands -/
def lowF (S : Nat) : Nat → Nat → Nat
  | 0, k => k
  | d + 1, k => if bt S k = true then k else lowF S d (k + 1)
def low (S : Nat) : Nat := lowF S 8 0
def qWhy (V : Nat → Nat) (x w : Int32) : Int32 :=
  if inBr V x = true ∧ inRg w (nI 0) (nI 1) = true then
    if w = nI 0 then nI (rsn V (toN x)) else if rsn V (toN x) = 4 then nI (low (cutV V (toN x))) else (-1000004 : Int32)
  else (-1000001 : Int32)
theorem rsn_4 {b : Nat} (h : rsn V b = 4) : cutV V b ≠ 0 := by
  unfold rsn at h
  intro z
  rw [if_pos z] at h
  repeat' split at h
  all_goals omega
def qRus (V : Nat → Nat) (x : Int32) : Int32 :=
  if inBr V x = true then (if pntd V (toN x) = true then (-1000002 : Int32) else nI ((V (72 + 8 * toN x + 3) + V (72 + 8 * toN x + 2) - 1) / V (72 + 8 * toN x + 2))) else (-1000001 : Int32)
end REF9
