/-! p27: which islands are reached -/
section RCH
variable {V W : Nat → Nat} {m n t N : Nat}
theorem rch_iff (hE : endsOK V) {i : Nat} (hi : i < 8) : reachV V i 99 = reachV V 0 99 ↔ bt (reachV V 0 99) i = true := by
  rw [bt_tb]
  constructor
  · intro h
    rw [← h]
    exact rea_self
  · intro h
    exact subM.anti (rea_tr hE (by decide) h) (rea_tr hE hi (rea_sym hE (by decide) hi h))
theorem use_opn {b : Nat} (hb : b < 14) : useB V 99 b = opn V b := by
  unfold useB
  have : Nat.beq b 99 = false := by
    cases h : Nat.beq b 99 with
    | false => rfl
    | true => have := Nat.eq_of_beq_eq_true h; omega
  rw [this]
  simp
/-- one round over the bridges, each seeing what those before it gave -/
def gsN (V : Nat → Nat) (S : Nat) : Nat → Nat
  | 0 => S
  | n + 1 => if (opn V n && hit (gsN V S n) (endsM V n)) = true then gsN V S n ||| endsM V n else gsN V S n
def itG (V : Nat → Nat) : Nat → Nat
  | 0 => 1
  | n + 1 => gsN V (itG V n) (V 2)
theorem gs_ge (S : Nat) : ∀ n, subM S (gsN V S n)
  | 0 => subM.rf S
  | n + 1 => by
    rw [gsN]
    split
    · exact (gs_ge S n).tr (subM_or _ _)
    · exact gs_ge S n
theorem gs_jac {S S' : Nat} (h : subM S S') : ∀ n, n ≤ 14 → subM (jac V 99 S n) (gsN V S' n)
  | 0, _ => h
  | n + 1, hn => by
    have ih := gs_jac h n (by omega)
    rw [jac, gsN, use_opn (by omega)]
    by_cases ho : opn V n = true
    · rw [ho]
      simp only [Bool.true_and]
      split
      · rename_i hh
        have hh2 : hit (gsN V S' n) (endsM V n) = true := hit_mono (h.tr (gs_ge S' n)) hh
        rw [if_pos hh2]
        exact or_subM (ih.tr (subM_or _ _)) (subM_or_r _ _)
      · split
        · exact ih.tr (subM_or _ _)
        · exact ih
    · have ho : opn V n = false := by simpa using ho
      rw [ho]
      exact ih
theorem gs_le {S T : Nat} (h12 : V 2 ≤ 14) (hT : closedM V 99 T) (h : subM S T) : ∀ n, n ≤ V 2 → subM (gsN V S n) T
  | 0, _ => h
  | n + 1, hn => by
    have ih := gs_le h12 hT h n (by omega)
    rw [gsN]
    split
    · rename_i hc
      rw [Bool.and_eq_true] at hc
      exact or_subM ih (hT n (by omega) (by rw [use_opn (by omega)]; exact hc.1) (hit_mono ih hc.2))
    · exact ih
theorem gs_lt (hE : endsOK V) {S : Nat} (hS : S < 2 ^ 8) : ∀ n, n ≤ V 2 → gsN V S n < 2 ^ 8
  | 0, _ => hS
  | n + 1, hn => by
    have ih := gs_lt hE hS n (by omega)
    rw [gsN]
    split
    · exact Nat.or_lt_two_pow ih (ends_lt hE (by omega))
    · exact ih
theorem itG_lt (hE : endsOK V) : ∀ k, itG V k < 2 ^ 8
  | 0 => by rw [itG]; decide
  | k + 1 => by rw [itG]; exact gs_lt hE (itG_lt hE k) _ (Nat.le_refl _)
theorem itG_ge (h12 : V 2 ≤ 14) : ∀ k, subM (itJ V 99 (2 ^ 0) k) (itG V k)
  | 0 => subM.rf 1
  | k + 1 => by
    rw [itJ, itG]
    exact gs_jac (itG_ge h12 k) _ h12
theorem itG_le (h12 : V 2 ≤ 14) {T : Nat} (hT : closedM V 99 T) (h : subM 1 T) : ∀ k, subM (itG V k) T
  | 0 => h
  | k + 1 => by
    rw [itG]
    exact gs_le h12 hT (itG_le h12 hT h k) _ (Nat.le_refl _)
theorem itG_8 (hE : endsOK V) (h12 : V 2 ≤ 14) : itG V 8 = reachV V 0 99 :=
  subM.anti (itG_le h12 (reach_closed hE (by decide)) (reach_ge V 0 99) 8) (itG_ge h12 8)
/-! other states' reach -/
theorem jac_cong {wo wo' S : Nat} : ∀ n, (∀ c, c < n → useB W wo' c = useB V wo c ∧ endsM W c = endsM V c) → jac W wo' S n = jac V wo S n
  | 0, _ => rfl
  | n + 1, h => by
    rw [jac, jac, jac_cong n (fun c hc => h c (by omega)), (h n (by omega)).1, (h n (by omega)).2]
theorem itJ_cong {wo wo' S : Nat} (h2 : W 2 = V 2) (h : ∀ c, c < V 2 → useB W wo' c = useB V wo c ∧ endsM W c = endsM V c) : ∀ k, itJ W wo' S k = itJ V wo S k
  | 0 => rfl
  | k + 1 => by rw [itJ, itJ, itJ_cong h2 h k, h2, jac_cong _ h]
theorem beq_no {a b : Nat} (h : a ≠ b) : Nat.beq a b = false := by
  cases hq : Nat.beq a b with
  | false => rfl
  | true => exact absurd (Nat.eq_of_beq_eq_true hq) h
theorem reach_snd (h12 : V 2 ≤ 14) {b i : Nat} : reachV (dSnd V b) i 99 = reachV V i b := by
  unfold reachV
  refine itJ_cong (dSnd_o (by omega)) (fun c hc => ?_) 8
  have e0 : dSnd V b (72 + 8 * c + 0) = V (72 + 8 * c + 0) := dSnd_o (by omega)
  have e1 : dSnd V b (72 + 8 * c + 1) = V (72 + 8 * c + 1) := dSnd_o (by omega)
  have e3 : dSnd V b (72 + 8 * c + 3) = V (72 + 8 * c + 3) := dSnd_o (by omega)
  refine ⟨?_, by unfold endsM; rw [e0, e1]⟩
  unfold useB opn
  rw [beq_no (a := c) (b := 99) (by omega), e3]
  by_cases hcb : c = b
  · subst hcb
    have e4 : dSnd V c (72 + 8 * c + 4) = 1 := by unfold dSnd; rw [upN_n (by omega), upN_s]
    rw [e4, Nat.beq_refl]
    simp
  · rw [beq_no hcb, dSnd_o (j := 72 + 8 * c + 4) (by omega)]
theorem closed_w (h2 : W 2 = V 2) (h : ∀ c, c < V 2 → (useB V 99 c = true → useB W 99 c = true) ∧ endsM W c = endsM V c) {T : Nat} (hT : closedM W 99 T) : closedM V 99 T := fun b hb hu hh => by
  have := hT b (by omega) ((h b hb).1 hu)
  rw [(h b hb).2] at this
  exact this hh
theorem reach_rec (hE : endsOK V) {b : Nat} : subM (reachV V 0 99) (reachV (dRec V b) 0 99) := by
  have o : ∀ c k, k < 4 → dRec V b (72 + 8 * c + k) = V (72 + 8 * c + k) := fun c k hk => upN_n (by omega)
  have e2 : dRec V b 2 = V 2 := upN_n (by omega)
  have hE2 : endsOK (dRec V b) := fun c hc => by
    rw [e2] at hc
    rw [o c 0 (by decide), o c 1 (by decide)]
    exact hE c hc
  refine reach_le (closed_w e2 (fun c hc => ⟨fun hu => ?_, ?_⟩) (reach_closed hE2 (by decide))) (reach_ge _ 0 99)
  · unfold useB opn at hu ⊢
    rw [o c 3 (by decide)]
    by_cases hcb : c = b
    · subst hcb
      have e4 : dRec V c (72 + 8 * c + 4) = 0 := by unfold dRec; rw [upN_s]
      rw [e4]
      simp only [Bool.and_eq_true] at hu ⊢
      exact ⟨⟨rfl, hu.1.2⟩, hu.2⟩
    · have e4 : dRec V b (72 + 8 * c + 4) = V (72 + 8 * c + 4) := upN_n (by omega)
      rw [e4]
      exact hu
  · unfold endsM
    rw [o c 0 (by decide), o c 1 (by decide)]
/-! bits -/
theorem cut_bit {b i : Nat} : (cutV V b).testBit i = ((reachV V 0 99).testBit i && !((reachV V 0 b).testBit i)) := by
  unfold cutV
  rw [Nat.testBit_xor, Nat.testBit_and]
  cases (reachV V 0 99).testBit i <;> cases (reachV V 0 b).testBit i <;> rfl
theorem rea_wo (hE : endsOK V) (h12 : V 2 ≤ 14) {b : Nat} : subM (reachV V 0 b) (reachV V 0 99) := reach_wo hE (by decide) (fun c hc => by omega)
theorem cut_keep (hE : endsOK V) (h12 : V 2 ≤ 14) {b : Nat} : reachV V 0 99 ^^^ (reachV V 0 99 &&& cutV V b) = reachV V 0 b := by
  apply Nat.eq_of_testBit_eq
  intro i
  have hs := rea_wo hE h12 (b := b) i
  rw [Nat.testBit_xor, Nat.testBit_and, cut_bit]
  cases h1 : (reachV V 0 99).testBit i <;> cases h2 : (reachV V 0 b).testBit i <;> first | rfl | (rw [h2] at hs; rw [h1] at hs; exact absurd (hs rfl) (by decide))
theorem sub_out {S T : Nat} (h : subM S T) : S ^^^ (S &&& T) = 0 := by
  apply Nat.eq_of_testBit_eq
  intro i
  have hs := h i
  rw [Nat.testBit_xor, Nat.testBit_and, Nat.zero_testBit]
  cases h1 : S.testBit i <;> cases h2 : T.testBit i <;> first | rfl | (rw [h1, h2] at hs; exact absurd (hs rfl) (by decide))
theorem low_cut (hE : endsOK V) (h12 : V 2 ≤ 14) {b : Nat} (h : cutV V b ≠ 0) : 0 < low (cutV V b) ∧ low (cutV V b) < 8 ∧ bt (reachV V 0 99) (low (cutV V b)) = true := by
  have hl := lowF_lo (S := cutV V b) 8 0
  have hR := reach_lt hE (i := 0) (wo := 99) (by decide)
  have hlt : low (cutV V b) < 8 := by
    rcases Nat.lt_or_ge (low (cutV V b)) 8 with h1 | h1
    · exact h1
    · exfalso
      apply h
      apply Nat.eq_of_testBit_eq
      intro i
      rw [Nat.zero_testBit]
      by_cases hi : i < 8
      · rw [← bt_tb]
        exact hl.1 i (Nat.zero_le _) (by unfold low at h1; omega)
      · cases hq : (cutV V b).testBit i with
        | false => rfl
        | true =>
          rw [cut_bit] at hq
          rw [Bool.and_eq_true] at hq
          exact absurd (lt_bit hR hq.1) hi
  have hb : bt (cutV V b) (low (cutV V b)) = true := hl.2.2 (by unfold low at hlt; omega)
  rw [bt_tb, cut_bit, Bool.and_eq_true] at hb
  refine ⟨?_, hlt, by rw [bt_tb]; exact hb.1⟩
  rcases Nat.eq_zero_or_pos (low (cutV V b)) with h0 | h0
  · rw [h0] at hb
    have : (reachV V 0 b).testBit 0 = true := rea_self
    rw [this] at hb
    exact absurd hb.2 (by decide)
  · exact h0
/-! groups, as they are counted one after another -/
theorem gG_or (hE : endsOK V) {n : Nat} (hn : n < 8) : gG V (n + 1) = gG V n ||| reachV V n 99 := by
  rw [gG]
  split
  · rename_i hb
    apply Nat.eq_of_testBit_eq
    intro i
    rw [Nat.testBit_or]
    cases h1 : (gG V n).testBit i with
    | true => rfl
    | false =>
      cases h2 : (reachV V n 99).testBit i with
      | false => rfl
      | true =>
        exfalso
        rw [bt_tb, gG_b hE n (by omega)] at hb
        obtain ⟨k, hk, hkn⟩ := hb
        have h3 : (gG V n).testBit i = true := (gG_b hE n (by omega)).mpr ⟨k, hk, rea_tr hE (by omega) hkn i h2⟩
        rw [h1] at h3
        exact absurd h3 (by decide)
  · rfl
theorem grN_s (hE : endsOK V) {n : Nat} (hn : n < 8) : grN V (n + 1) = grN V n + (if bt (gG V n) n = true then 0 else 1) := by
  rw [grN]
  have := gG_low hE hn
  by_cases hb : bt (gG V n) n = true
  · rw [if_pos hb, if_neg (fun z => this.mp z hb)]
  · rw [if_neg hb, if_pos (this.mpr hb)]
theorem grN_le : ∀ n, grN V n ≤ n
  | 0 => Nat.le_refl _
  | n + 1 => by
    have := grN_le n
    rw [grN]
    split <;> omega
/-! an island that is not reached has no number of bridges to it -/
theorem nI_neg {c : Int32} (hc : c < nI 0) {j : Nat} (hj : j < 2 ^ 31) : nI j ≠ c := fun z => by
  rw [← z, nI_ltI hj (by decide)] at hc
  omega
theorem itJ_up (k : Nat) : ∀ d, subM (itJ V 99 1 k) (itJ V 99 1 (k + d))
  | 0 => subM.rf _
  | d + 1 => by
    rw [show k + (d + 1) = k + d + 1 by omega, itJ]
    exact (itJ_up k d).tr (jac_ge V 99 _ _)
theorem fwD_none {i : Nat} : ∀ d k, k + d ≤ 8 → (fwD V i d (itJ V 99 1 k) k = (-1000004 : Int32) ↔ bt (itJ V 99 1 (k + d)) i = false)
  | 0, k, h => by
    rw [fwD]
    cases hb : bt (itJ V 99 1 k) i with
    | true => rw [if_pos rfl]; exact ⟨fun z => absurd z (nI_neg (by decide) (by omega)), fun z => by cases z⟩
    | false => rw [if_neg ff]; exact ⟨fun _ => rfl, fun _ => rfl⟩
  | d + 1, k, h => by
    rw [fwD]
    cases hb : bt (itJ V 99 1 k) i with
    | true =>
      rw [if_pos rfl]
      refine ⟨fun z => absurd z (nI_neg (by decide) (by omega)), fun z => ?_⟩
      rw [bt_tb] at hb z
      rw [itJ_up k (d + 1) i hb] at z
      cases z
    | false =>
      rw [if_neg ff]
      have := fwD_none (i := i) d (k + 1) (by omega)
      rw [show k + 1 + d = k + (d + 1) by omega] at this
      exact this
theorem fwD_8 {i : Nat} : fwD V i 8 1 0 = (-1000004 : Int32) ↔ bt (reachV V 0 99) i = false := fwD_none (V := V) (i := i) 8 0 (by decide)
end RCH
