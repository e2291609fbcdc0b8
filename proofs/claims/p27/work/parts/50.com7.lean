/-! groups: counted greedily, counted by their lowest -/
section COM7
variable {E : AEnv} {σ τ : ASt} {B : Nat} {U : Nat → Nat → Int32} {V : Nat → Nat} {m n t : Nat} {Q : Option Value → ASt → Prop} {K : Int32 → ASt → Prop} {KV : ASt → Prop}
theorem one_sub {i S : Nat} : subM (2 ^ i) S ↔ S.testBit i = true := by
  constructor
  · intro h
    exact h i (by rw [Nat.testBit_two_pow]; exact decide_eq_true rfl)
  · intro h j hj
    rw [Nat.testBit_two_pow] at hj
    have : i = j := of_decide_eq_true hj
    rw [← this]; exact h
theorem rea_self {i wo : Nat} : (reachV V i wo).testBit i = true := one_sub.mp (reach_ge V i wo)
theorem rea_tr (hE : endsOK V) {i j : Nat} (hi : i < 8) (h : (reachV V i 99).testBit j = true) : subM (reachV V j 99) (reachV V i 99) := reach_le (reach_closed hE hi) (one_sub.mpr h)
theorem rea_sym (hE : endsOK V) {i j : Nat} (hi : i < 8) (hj : j < 8) (h : (reachV V i 99).testBit j = true) : (reachV V j 99).testBit i = true := by
  cases hq : (reachV V j 99).testBit i with
  | true => rfl
  | false =>
    exfalso
    have tb : ∀ x, (255 ^^^ reachV V j 99).testBit x = ((decide (x < 8)) ^^ (reachV V j 99).testBit x) := fun x => by
      rw [Nat.testBit_xor, show (255 : Nat) = 2 ^ 8 - 1 from rfl, Nat.testBit_two_pow_sub_one]
    have hc : closedM V 99 (255 ^^^ reachV V j 99) := by
      intro b hb hu hh x hx
      have he := ends_lt hE hb
      have x8 := lt_bit he hx
      rw [tb, decide_eq_true x8]
      cases hr : (reachV V j 99).testBit x with
      | false => rfl
      | true =>
        exfalso
        have hall := reach_closed hE hj (wo := 99) b hb hu (hit_iff.mpr ⟨x, hr, hx⟩)
        obtain ⟨y, hy1, hy2⟩ := hit_iff.mp hh
        have y8 := lt_bit he hy2
        rw [tb, decide_eq_true y8, hall y hy2] at hy1
        exact absurd hy1 (by decide)
    have h1 : (255 ^^^ reachV V j 99).testBit i = true := by rw [tb, hq, decide_eq_true hi]; rfl
    have h2 := reach_le hc (one_sub.mpr h1) j h
    rw [tb, rea_self, decide_eq_true hj] at h2
    exact absurd h2 (by decide)
theorem lowF_lo {S : Nat} : ∀ d k, (∀ j, k ≤ j → j < lowF S d k → bt S j = false) ∧ k ≤ lowF S d k ∧ (lowF S d k < k + d → bt S (lowF S d k) = true)
  | 0, k => ⟨fun j h1 h2 => by rw [lowF] at h2; omega, Nat.le_refl _, fun h => by rw [lowF] at h; omega⟩
  | d + 1, k => by
    rw [lowF]
    obtain ⟨a1, a2, a3⟩ := lowF_lo (S := S) d (k + 1)
    split
    · rename_i hb
      exact ⟨fun j h1 h2 => by omega, Nat.le_refl _, fun _ => hb⟩
    · rename_i hb
      refine ⟨fun j h1 h2 => ?_, by omega, fun h => a3 (by omega)⟩
      by_cases hj : j = k
      · rw [hj]
        cases hq : bt S k with
        | false => rfl
        | true => exact absurd hq hb
      · exact a1 j (by omega) h2
theorem low_is {S n : Nat} (hn : n < 8) (hb : bt S n = true) : low S = n ↔ ∀ j, j < n → bt S j = false := by
  obtain ⟨a1, _, a3⟩ := lowF_lo (S := S) 8 0
  have hl : low S ≤ n := by
    rcases Nat.lt_or_ge n (low S) with h | h
    · have := a1 n (Nat.zero_le _) h
      rw [hb] at this
      exact absurd this (by decide)
    · exact h
  constructor
  · intro h j hj
    exact a1 j (Nat.zero_le _) (by unfold low at h; omega)
  · intro h
    rcases Nat.lt_or_ge (low S) n with h2 | h2
    · have h3 := h _ h2
      have h4 : bt S (low S) = true := a3 (by unfold low at h2; omega)
      rw [h3] at h4
      exact absurd h4 (by decide)
    · omega
def gG (V : Nat → Nat) : Nat → Nat
  | 0 => 0
  | n + 1 => if bt (gG V n) n = true then gG V n else gG V n ||| reachV V n 99
theorem gG_lt (hE : endsOK V) : ∀ n, n ≤ 8 → gG V n < 2 ^ 8
  | 0, _ => by rw [gG]; decide
  | n + 1, h => by
    rw [gG]
    have ih := gG_lt hE n (by omega)
    split
    · exact ih
    · exact Nat.or_lt_two_pow ih (reach_lt hE (by omega))
theorem gG_b (hE : endsOK V) {x : Nat} : ∀ n, n ≤ 8 → ((gG V n).testBit x = true ↔ ∃ j, j < n ∧ (reachV V j 99).testBit x = true)
  | 0, _ => ⟨fun h => by rw [gG, Nat.zero_testBit] at h; exact absurd h ff, fun ⟨j, hj, _⟩ => absurd hj (Nat.not_lt_zero _)⟩
  | n + 1, h => by
    have ih := fun y => gG_b hE (x := y) n (by omega)
    rw [gG]
    split
    · rename_i hb
      rw [bt_tb, ih] at hb
      obtain ⟨k, hk, hkn⟩ := hb
      rw [ih]
      constructor
      · rintro ⟨j, hj, hx⟩
        exact ⟨j, by omega, hx⟩
      · rintro ⟨j, hj, hx⟩
        by_cases hjn : j = n
        · subst hjn
          exact ⟨k, hk, rea_tr hE (by omega) hkn x hx⟩
        · exact ⟨j, by omega, hx⟩
    · rw [Nat.testBit_or, Bool.or_eq_true, ih]
      constructor
      · rintro (⟨j, hj, hx⟩ | hx)
        · exact ⟨j, by omega, hx⟩
        · exact ⟨n, by omega, hx⟩
      · rintro ⟨j, hj, hx⟩
        by_cases hjn : j = n
        · subst hjn
          exact Or.inr hx
        · exact Or.inl ⟨j, by omega, hx⟩
theorem gG_low (hE : endsOK V) {n : Nat} (hn : n < 8) : low (reachV V n 99) = n ↔ ¬ bt (gG V n) n = true := by
  rw [low_is hn (by rw [bt_tb]; exact rea_self), bt_tb, gG_b hE n (by omega)]
  constructor
  · rintro h ⟨j, hj, hx⟩
    have h1 := h j hj
    rw [bt_tb, rea_sym hE (by omega) hn hx] at h1
    exact absurd h1 (by decide)
  · intro h j hj
    cases hq : bt (reachV V n 99) j with
    | false => rfl
    | true =>
      rw [bt_tb] at hq
      exact absurd ⟨j, hj, rea_sym hE hn (by omega) hq⟩ h
theorem c_grL (H : MI σ) (hB : isB B) (hw : WF m V) (R : Rel U V) (hK : Q (some (.int (nI (grN V (V 1))))) (bS σ B U)) : ∀ d k : Nat, k + d = V 1 → wp E 45 6 [.ref B, .int (nI (grN V k)), .int (nI (gG V k)), .int (nI k)] [] (bS σ B U) Q := by
  have h1 := hw.1
  unfold W1 at h1
  intro d
  induction d with
  | zero =>
    intro k hk
    obtain rfl : k = V 1 := by omega
    refine sg45_6 ⟨shS H hB, fun _ => hK, fun h => absurd ?_ h⟩
    rw [bS_get0, R.1.1]
    exact nI_le (Nat.le_refl _) (by omega)
  | succ d ih =>
    intro k hk
    have nx := ih (k + 1) (by omega)
    have hg := gG_lt hw.ends k (by omega)
    have hr := reach_lt hw.ends (i := k) (wo := 99) (by omega)
    have gl := gG_low hw.ends (n := k) (by omega)
    rw [grN, gG] at nx
    refine sg45_6 ⟨shS H hB, fun h => absurd h ?_, fun _ => c_hol (by omega) (by omega) ⟨fun g => ?_, fun g => ⟨shS H hB, c_rea H hB hw R (by omega) woI_m ?_⟩⟩⟩
    · rw [bS_get0, R.1.1]
      exact nI_ge (by omega) (by omega)
    · rw [if_pos (bI_1 g), if_neg (fun z => gl.mp z (bI_1 g))] at nx
      rw [nI_add]; exact nx
    · have hb : ¬ bt (gG V k) k = true := by rw [bI_2 g]; exact ff
      rw [if_neg hb, if_pos (gl.mpr hb)] at nx
      rw [nI_add, nI_or (by omega) (by omega), nI_add]; exact nx
theorem c_gr (H : MI σ) (hB : isB B) (hw : WF m V) (R : Rel U V) (hK : K (nI (grN V (V 1))) (bS σ B U)) : cI E 45 [.ref B] (bS σ B U) K := sg45_0 (c_grL H hB hw R hK (V 1) 0 (by omega))
theorem c_loL (H : MI σ) (hB : isB B) (hw : WF m V) (R : Rel U V) (hK : Q (some (.int (nI (grN V (V 1))))) (bS σ B U)) : ∀ d k : Nat, k + d = V 1 → wp E 46 4 [.ref B, .int (nI (grN V k)), .int (nI k)] [] (bS σ B U) Q := by
  have h1 := hw.1
  unfold W1 at h1
  intro d
  induction d with
  | zero =>
    intro k hk
    obtain rfl : k = V 1 := by omega
    refine sg46_4 ⟨shS H hB, fun _ => hK, fun h => absurd ?_ h⟩
    rw [bS_get0, R.1.1]
    exact nI_le (Nat.le_refl _) (by omega)
  | succ d ih =>
    intro k hk
    have nx := ih (k + 1) (by omega)
    have hr := reach_lt hw.ends (i := k) (wo := 99) (by omega)
    have hl := low_le (reachV V k 99)
    have e := nI_eq (a := low (reachV V k 99)) (b := k) (by omega) (by omega)
    have h0 : 0 < reachV V k 99 := by
      have := sub_le (reach_ge V k 99)
      have := Nat.two_pow_pos k
      omega
    rw [grN] at nx
    refine sg46_4 ⟨shS H hB, fun h => absurd h ?_, fun _ => ⟨shS H hB, c_rea H hB hw R (by omega) woI_m (c_lo h0 hr ⟨fun g => ?_, fun g => ?_⟩)⟩⟩
    · rw [bS_get0, R.1.1]
      exact nI_ge (by omega) (by omega)
    · rw [if_neg (fun z => g (e.mpr z))] at nx
      rw [nI_add]; exact nx
    · rw [if_pos (e.mp (Classical.not_not.mp g))] at nx
      rw [nI_add, nI_add]; exact nx
theorem c_lw (H : MI σ) (hB : isB B) (hw : WF m V) (R : Rel U V) (hK : K (nI (grN V (V 1))) (bS σ B U)) : cI E 46 [.ref B] (bS σ B U) K := sg46_0 (c_loL H hB hw R hK (V 1) 0 (by omega))
end COM7
