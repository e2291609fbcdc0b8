/-! the reference: what would be -/
section REF14
variable {E : AEnv} {σ τ : ASt} {V : Nat → Nat} {m n t : Nat} {Hs : Nat → Nat → Nat} {Tx : Nat → Nat} {Q : Option Value → ASt → Prop} {K : Int32 → ASt → Prop} {KV : ASt → Prop}
theorem dDay_o {j : Nat} (hj : j < 15) (h0 : j ≠ 0) (h1 : j ≠ 11) (h2 : j ≠ 12) (h3 : j ≠ 13) (h4 : j ≠ 14) : dDay V j = V j := by
  have e : ∀ N, dFin N j = N j := fun N => by
    have e2 : dEnd N j = N j := by unfold dEnd; simp (disch := omega) only [upN_n, upN_s]
    unfold dFin
    split
    · rw [aut_o (by omega), e2]
    · exact e2
  unfold dDay
  rw [e]
  unfold dBok
  split
  · rw [dIA_o _ h1 h3 (by omega), dW3_o (by omega) h1 h2]
  · rw [dNot_o (by omega), dIA_o _ h1 h3 (by omega), dW3_o (by omega) h1 h2]
theorem dDay_2 : dDay V 2 = V 2 := dDay_o (by decide) (by decide) (by decide) (by decide) (by decide) (by decide)
def pinL (b : Nat) : Nat → (Nat → Nat) → Nat → Int32
  | 0, _, _ => (-1000004 : Int32)
  | d + 1, W, k => if pntd W b = true then pinL b d (dDay W) (k + 1) else nI k
def qPin (V : Nat → Nat) (x : Int32) : Int32 := if inBr V x = true then (if pntd V (toN x) = true then pinL (toN x) 201 V 0 else (-1000002 : Int32)) else (-1000001 : Int32)
def alnL (R : Nat) : Nat → (Nat → Nat) → Nat → Int32
  | 0, _, _ => (-1000004 : Int32)
  | d + 1, W, k => if R ^^^ (R &&& reachV W 0 99) = 0 then alnL R d (dDay W) (k + 1) else nI k
def qAln (V : Nat → Nat) : Int32 := alnL (reachV V 0 99) 201 V 0
def qIfd (V : Nat → Nat) (x : Int32) : Int32 := if inRg x (nI 1) (nI 99) = true then nI (cDays (toN x) V) else (-1000001 : Int32)
end REF14
