/-! the reference's questions, 3 -/
section REF10
variable {E : AEnv} {σ : ASt} {V : Nat → Nat} {m : Nat} {Q : Option Value → ASt → Prop} {K : Int32 → ASt → Prop} {KV : ASt → Prop}
/-- the set of the bridges b for which p b -/
def setN (p : Nat → Bool) : Nat → Nat
  | 0 => 0
  | n + 1 => if p n = true then setN p n ||| 2 ^ n else setN p n
theorem setN_lt (p : Nat → Bool) : ∀ n, setN p n < 2 ^ n
  | 0 => Nat.one_pos
  | n + 1 => by
    have ih := setN_lt p n
    have hp : 2 ^ n < 2 ^ (n + 1) := Nat.pow_lt_pow_right (by decide) (by omega)
    rw [setN]
    split
    · exact Nat.or_lt_two_pow (by omega) hp
    · omega
theorem setN_lt' (p : Nat → Bool) {n : Nat} (h : n ≤ 14) : setN p n < 2 ^ 14 := Nat.lt_of_lt_of_le (setN_lt p n) (Nat.pow_le_pow_right (by decide) h)
theorem setN_b (p : Nat → Bool) {i : Nat} : ∀ n, (setN p n).testBit i = (decide (i < n) && p i)
  | 0 => by rw [setN]; simp
  | n + 1 => by
    have ih := setN_b p (i := i) n
    have e : (decide (i < n + 1)) = (decide (i < n) || decide (i = n)) := by
      rw [Bool.eq_iff_iff, Bool.or_eq_true, decide_eq_true_iff, decide_eq_true_iff, decide_eq_true_iff]; omega
    rw [setN, e]
    split
    · rename_i h
      rw [Nat.testBit_or, ih, Nat.testBit_two_pow]
      by_cases hi : i = n
      · subst hi; simp [h]
      · simp [hi, Ne.symm hi]
    · rename_i h
      rw [ih]
      by_cases hi : i = n
      · subst hi; simp [Bool.not_eq_true _ ▸ h]
      · simp [hi]
def isSt (V : Nat → Nat) (c b : Nat) : Bool := Nat.beq (stOf V b) c
theorem stOf_lt (V : Nat → Nat) (b : Nat) : stOf V b < 3 := by unfold stOf; repeat' split
                                                               all_goals omega
def isNd (V : Nat → Nat) (b : Nat) : Bool := opn V b && !(Nat.beq (cutV V b) 0)
def grN (V : Nat → Nat) : Nat → Nat
  | 0 => 0
  | n + 1 => grN V n + (if low (reachV V n 99) = n then 1 else 0)
theorem lowF_le (S : Nat) : ∀ d k, lowF S d k ≤ k + d
  | 0, k => Nat.le_refl _
  | d + 1, k => by
    rw [lowF]
    have := lowF_le S d (k + 1)
    split <;> omega
theorem low_le (S : Nat) : low S ≤ 8 := lowF_le S 8 0
def smN (V : Nat → Nat) (w : Nat) : Nat → Nat
  | 0 => 0
  | n + 1 => smN V w n + V (32 + 5 * n + w)
def mxN (V : Nat → Nat) (w : Nat) : Nat → Nat
  | 0 => 0
  | n + 1 => if V (32 + 5 * n + w) ≤ mxN V w n then mxN V w n else V (32 + 5 * n + w)
theorem mx_lt (hw : WF m V) : ∀ n, n ≤ V 1 → mxN V 3 n ≤ V 0
  | 0, _ => Nat.zero_le _
  | n + 1, h => by
    have ih := mx_lt hw n (by omega)
    have := hw.2.2.2.1 n (by omega)
    rw [mxN]
    split <;> omega
end REF10
