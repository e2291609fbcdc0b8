/-! who is reached: the least closed set, by rounds of either kind -/
def opn (V : Nat → Nat) (b : Nat) : Bool := Nat.beq (V (72 + 8 * b + 4)) 0 && Nat.blt 0 (V (72 + 8 * b + 3))
def endsM (V : Nat → Nat) (b : Nat) : Nat := 2 ^ V (72 + 8 * b + 0) ||| 2 ^ V (72 + 8 * b + 1)
def useB (V : Nat → Nat) (wo b : Nat) : Bool := opn V b && !(Nat.beq b wo)
def hit (S M : Nat) : Bool := !(Nat.beq (S &&& M) 0)
/-- a round that asks the set it began with -/
def jac (V : Nat → Nat) (wo S : Nat) : Nat → Nat
  | 0 => S
  | n + 1 => if (useB V wo n && hit S (endsM V n)) = true then jac V wo S n ||| endsM V n else jac V wo S n
def itJ (V : Nat → Nat) (wo S : Nat) : Nat → Nat
  | 0 => S
  | n + 1 => jac V wo (itJ V wo S n) (V 2)
def reachV (V : Nat → Nat) (i wo : Nat) : Nat := itJ V wo (2 ^ i) 8
def subM (S T : Nat) : Prop := ∀ i, S.testBit i = true → T.testBit i = true
theorem subM.rf (S : Nat) : subM S S := fun _ h => h
theorem subM.tr {S T U : Nat} (h1 : subM S T) (h2 : subM T U) : subM S U := fun i h => h2 i (h1 i h)
theorem subM.anti {S T : Nat} (h1 : subM S T) (h2 : subM T S) : S = T := by
  apply Nat.eq_of_testBit_eq
  intro i
  cases hS : S.testBit i <;> cases hT : T.testBit i <;> first | rfl | (have := h1 i hS; rw [hT] at this; cases this) | (have := h2 i hT; rw [hS] at this; cases this)
theorem subM_or (S M : Nat) : subM S (S ||| M) := fun i h => by rw [Nat.testBit_or, h]; rfl
theorem or_subM {S M T : Nat} (h1 : subM S T) (h2 : subM M T) : subM (S ||| M) T := fun i h => by
  rw [Nat.testBit_or, Bool.or_eq_true] at h
  exact h.elim (h1 i) (h2 i)
theorem subM_or_r (S M : Nat) : subM M (S ||| M) := fun i h => by rw [Nat.testBit_or, h, Bool.or_true]
theorem hit_iff {S M : Nat} : hit S M = true ↔ ∃ i, S.testBit i = true ∧ M.testBit i = true := by
  unfold hit
  constructor
  · intro h
    have h0 : S &&& M ≠ 0 := fun z => by rw [z] at h; cases h
    obtain ⟨i, hi⟩ := Nat.exists_testBit_of_ne_zero h0
    rw [Nat.testBit_and, Bool.and_eq_true] at hi
    exact ⟨i, hi⟩
  · rintro ⟨i, h1, h2⟩
    cases hb : Nat.beq (S &&& M) 0 with
    | false => rfl
    | true =>
      have h0 := Nat.eq_of_beq_eq_true hb
      have : (S &&& M).testBit i = true := by rw [Nat.testBit_and, h1, h2]; rfl
      rw [h0, Nat.zero_testBit] at this
      cases this
theorem hit_mono {S T M : Nat} (h : subM S T) (hh : hit S M = true) : hit T M = true := by
  obtain ⟨i, h1, h2⟩ := hit_iff.mp hh
  exact hit_iff.mpr ⟨i, h i h1, h2⟩
def closedM (V : Nat → Nat) (wo T : Nat) : Prop := ∀ b, b < V 2 → useB V wo b = true → hit T (endsM V b) = true → subM (endsM V b) T
theorem jac_ge (V : Nat → Nat) (wo S : Nat) : ∀ n, subM S (jac V wo S n)
  | 0 => subM.rf S
  | n + 1 => by
    rw [jac]
    split
    · exact (jac_ge V wo S n).tr (subM_or _ _)
    · exact jac_ge V wo S n
theorem jac_le {V : Nat → Nat} {wo S T : Nat} (hT : closedM V wo T) (h : subM S T) : ∀ n, n ≤ V 2 → subM (jac V wo S n) T
  | 0, _ => h
  | n + 1, hn => by
    rw [jac]
    split
    · rename_i hc
      rw [Bool.and_eq_true] at hc
      exact or_subM (jac_le hT h n (by omega)) (hT n (by omega) hc.1 (hit_mono h hc.2))
    · exact jac_le hT h n (by omega)
theorem jac_has {V : Nat → Nat} {wo S b : Nat} (hu : useB V wo b = true) (hh : hit S (endsM V b) = true) : ∀ n, b < n → subM (endsM V b) (jac V wo S n)
  | 0, h => absurd h (Nat.not_lt_zero _)
  | n + 1, h => by
    rcases Nat.lt_or_ge b n with h1 | h1
    · have ih := jac_has hu hh n h1
      rw [jac]
      split
      · exact ih.tr (subM_or _ _)
      · exact ih
    · obtain rfl : b = n := by omega
      rw [jac, hu, hh, if_pos (show (true && true) = true from rfl)]
      exact subM_or_r _ _
theorem jac_fix {V : Nat → Nat} {wo S : Nat} (h : jac V wo S (V 2) = S) : closedM V wo S := fun b hb hu hh => by
  have := jac_has hu hh (V 2) hb
  rw [h] at this
  exact this
/-! counting -/
def cntM (S : Nat) : Nat → Nat
  | 0 => 0
  | n + 1 => cntM S n + (if S.testBit n = true then 1 else 0)
theorem cnt_le (S : Nat) : ∀ n, cntM S n ≤ n
  | 0 => Nat.le_refl _
  | n + 1 => by
    have := cnt_le S n
    rw [cntM]
    split <;> omega
theorem cnt_mono {S T : Nat} (h : subM S T) : ∀ n, cntM S n ≤ cntM T n
  | 0 => Nat.le_refl _
  | n + 1 => by
    have ih := cnt_mono h n
    rw [cntM, cntM]
    by_cases hb : S.testBit n = true
    · rw [if_pos hb, if_pos (h n hb)]; omega
    · rw [if_neg hb]; omega
theorem cnt_lt {S T i : Nat} (h : subM S T) (h1 : S.testBit i = false) (h2 : T.testBit i = true) : ∀ n, i < n → cntM S n < cntM T n
  | 0, hn => absurd hn (Nat.not_lt_zero _)
  | n + 1, hn => by
    rw [cntM, cntM]
    rcases Nat.lt_or_ge i n with hi | hi
    · have ih := cnt_lt h h1 h2 n hi
      by_cases hb : S.testBit n = true
      · rw [if_pos hb, if_pos (h n hb)]; omega
      · rw [if_neg hb]; omega
    · obtain rfl : i = n := by omega
      have := cnt_mono h i
      rw [h1, h2, if_pos rfl]
      simp
      omega
theorem strict_bit {S T : Nat} (h : subM S T) (hne : T ≠ S) : ∃ i, S.testBit i = false ∧ T.testBit i = true := by
  by_cases hx : ∃ i, S.testBit i = false ∧ T.testBit i = true
  · exact hx
  · exfalso
    apply hne
    refine subM.anti (fun i hi => ?_) h
    cases hS : S.testBit i with
    | true => rfl
    | false => exact absurd ⟨i, hS, hi⟩ hx
theorem lt_bit {T i n : Nat} (h : T < 2 ^ n) (hb : T.testBit i = true) : i < n := by
  rcases Nat.lt_or_ge i n with h1 | h1
  · exact h1
  · have := Nat.testBit_lt_two_pow (Nat.lt_of_lt_of_le h (Nat.pow_le_pow_right (by decide) h1))
    rw [this] at hb; cases hb
/-- the ends are islands -/
def endsOK (V : Nat → Nat) : Prop := ∀ b, b < V 2 → V (72 + 8 * b + 0) < 8 ∧ V (72 + 8 * b + 1) < 8
theorem ends_lt {V : Nat → Nat} (h : endsOK V) {b : Nat} (hb : b < V 2) : endsM V b < 2 ^ 8 :=
  Nat.or_lt_two_pow (Nat.pow_lt_pow_right (by decide) (h b hb).1) (Nat.pow_lt_pow_right (by decide) (h b hb).2)
theorem jac_lt {V : Nat → Nat} (h : endsOK V) {wo S : Nat} (hS : S < 2 ^ 8) : ∀ n, n ≤ V 2 → jac V wo S n < 2 ^ 8
  | 0, _ => hS
  | n + 1, hn => by
    have ih := jac_lt h (wo := wo) hS n (by omega)
    rw [jac]
    split
    · exact Nat.or_lt_two_pow ih (ends_lt h (by omega))
    · exact ih
theorem itJ_lt {V : Nat → Nat} (h : endsOK V) {wo S : Nat} (hS : S < 2 ^ 8) : ∀ n, itJ V wo S n < 2 ^ 8
  | 0 => hS
  | n + 1 => jac_lt h (itJ_lt h hS n) _ (Nat.le_refl _)
theorem itJ_ge (V : Nat → Nat) (wo S : Nat) : ∀ n, subM S (itJ V wo S n)
  | 0 => subM.rf S
  | n + 1 => (itJ_ge V wo S n).tr (jac_ge V wo _ _)
theorem itJ_le {V : Nat → Nat} {wo S T : Nat} (hT : closedM V wo T) (h : subM S T) : ∀ n, subM (itJ V wo S n) T
  | 0 => h
  | n + 1 => jac_le hT (itJ_le hT h n) _ (Nat.le_refl _)
/-- either it is closed, or it has grown n times -/
theorem itJ_grow {V : Nat → Nat} (h : endsOK V) {wo S : Nat} (hS : S < 2 ^ 8) : ∀ n, itJ V wo S (n + 1) = itJ V wo S n ∨ cntM S 8 + n < cntM (itJ V wo S (n + 1)) 8
  | 0 => by
    by_cases he : itJ V wo S 1 = S
    · exact Or.inl he
    · right
      obtain ⟨i, h1, h2⟩ := strict_bit (jac_ge V wo S (V 2)) he
      exact cnt_lt (jac_ge V wo S (V 2)) h1 h2 8 (lt_bit (jac_lt h hS _ (Nat.le_refl _)) h2)
  | n + 1 => by
    rcases itJ_grow h (wo := wo) hS n with ih | ih
    · left
      show jac V wo (itJ V wo S (n + 1)) (V 2) = _
      rw [ih]
      exact ih
    · by_cases he : itJ V wo S (n + 1 + 1) = itJ V wo S (n + 1)
      · exact Or.inl he
      · right
        have hlt := itJ_lt h (wo := wo) hS (n + 1)
        obtain ⟨i, h1, h2⟩ := strict_bit (jac_ge V wo (itJ V wo S (n + 1)) (V 2)) he
        have := cnt_lt (jac_ge V wo (itJ V wo S (n + 1)) (V 2)) h1 h2 8 (lt_bit (jac_lt h hlt _ (Nat.le_refl _)) h2)
        have h3 : itJ V wo S (n + 1 + 1) = jac V wo (itJ V wo S (n + 1)) (V 2) := rfl
        rw [h3]
        omega
theorem reach_closed {V : Nat → Nat} (h : endsOK V) {i wo : Nat} (hi : i < 8) : closedM V wo (reachV V i wo) := by
  apply jac_fix
  have hS : 2 ^ i < 2 ^ 8 := Nat.pow_lt_pow_right (by decide) hi
  rcases itJ_grow h (wo := wo) hS 8 with h1 | h1
  · exact h1
  · exfalso
    have h2 := cnt_le (itJ V wo (2 ^ i) (8 + 1)) 8
    omega
theorem reach_ge (V : Nat → Nat) (i wo : Nat) : subM (2 ^ i) (reachV V i wo) := itJ_ge V wo _ 8
theorem reach_le {V : Nat → Nat} {i wo T : Nat} (hT : closedM V wo T) (h : subM (2 ^ i) T) : subM (reachV V i wo) T := itJ_le hT h 8
theorem reach_lt {V : Nat → Nat} (h : endsOK V) {i wo : Nat} (hi : i < 8) : reachV V i wo < 2 ^ 8 := itJ_lt h (Nat.pow_lt_pow_right (by decide) hi) 8
/-- without a bridge no more is reached -/
theorem reach_wo {V : Nat → Nat} (h : endsOK V) {i wo b : Nat} (hi : i < 8) (hw : ∀ c, c < V 2 → c ≠ wo) : subM (reachV V i b) (reachV V i wo) := by
  refine reach_le (fun c hc hu hh => reach_closed h hi c hc ?_ hh) (reach_ge V i wo)
  unfold useB at hu ⊢
  rw [Bool.and_eq_true] at hu
  rw [hu.1]
  cases hb : Nat.beq c wo with
  | true => exact absurd (Nat.eq_of_beq_eq_true hb) (hw c hc)
  | false => rfl
theorem sub_le {S T : Nat} (h : subM S T) : S ≤ T := by
  have : S ||| T = T := by
    apply Nat.eq_of_testBit_eq
    intro i
    rw [Nat.testBit_or]
    cases hS : S.testBit i with
    | false => rfl
    | true => rw [h i hS]; rfl
  rw [← this]
  exact Nat.left_le_or
