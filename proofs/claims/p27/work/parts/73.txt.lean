/-! p27: what is read of a text; orders keep what holds of a state -/
section TXT
variable {V W : Nat → Nat} {m n t N : Nat} {Tx : Nat → Nat}
/-- between a and b, both within the text, no ; and no . -/
def cln (t : Nat) (Tx : Nat → Nat) (a b : Nat) : Prop := a ≤ b ∧ b ≤ t ∧ ∀ j, a ≤ j → j < b → Tx j ≠ 59 ∧ Tx j ≠ 46
theorem cln_0 {a : Nat} (h : a ≤ t) : cln t Tx a a := ⟨Nat.le_refl _, h, fun j h1 h2 => by omega⟩
theorem cln_s {a b c : Nat} (h : cln t Tx a b) (hc : hre t Tx b = c) (h0 : c ≠ 0) (h1 : c ≠ 59) (h2 : c ≠ 46) : cln t Tx a (b + 1) := by
  obtain ⟨g1, g2, g3⟩ := h
  unfold hre at hc
  split at hc
  · omega
  · refine ⟨by omega, by omega, fun j a1 a2 => ?_⟩
    by_cases hj : j = b
    · subst hj
      rw [hc]
      exact ⟨h1, h2⟩
    · exact g3 j a1 (by omega)
theorem cln_pN {a : Nat} : ∀ (d v c sp : Nat), cln t Tx a sp → cln t Tx a (pN t Tx d v c sp).2.2
  | 0, _, _, _, h => h
  | d + 1, v, c, sp, h => by
    rw [pN]
    split
    · rename_i hd
      exact cln_pN d _ _ _ (cln_s h rfl (by omega) (by omega) (by omega))
    · exact h
theorem cln_nm {a sp : Nat} {fm : Bool} (h : cln t Tx a sp) : cln t Tx a (nmR t Tx fm sp).2.2 := by
  unfold nmR
  split
  · exact cln_pN 3 _ _ _ h
  · exact h
theorem cln_stg {a k : Nat} {s : Bool × Nat × (Nat → Nat)} (h : cln t Tx a s.2.1) : cln t Tx a (stg t Tx k s).2.1 := by
  unfold stg
  dsimp only
  apply cln_nm
  split
  · exact h
  · split
    · rename_i hc
      rw [Bool.and_eq_true] at hc
      exact cln_s h (Nat.eq_of_beq_eq_true hc.2) (by decide) (by decide) (by decide)
    · exact h
theorem cln_stgs {a : Nat} {s : Bool × Nat × (Nat → Nat)} (h : cln t Tx a s.2.1) : ∀ k, cln t Tx a (stgs t Tx s k).2.1
  | 0 => h
  | k + 1 => by
    rw [stgs]
    exact cln_stg (cln_stgs h k)
theorem lgl_c {l : Nat} (h : lgl l = true) : l = 105 ∨ l = 98 ∨ l = 115 ∨ l = 102 ∨ l = 114 ∨ l = 112 ∨ l = 100 := by
  unfold lgl at h
  simp only [Bool.or_eq_true, Nat.beq_eq] at h
  omega
theorem cln_E {sp : Nat} (h : sp ≤ t) : cln t Tx sp (stgE t Tx sp).2.1 := by
  unfold stgE
  apply cln_stgs
  unfold stg0
  dsimp only
  split
  · rename_i hl
    have := lgl_c hl
    exact cln_s (cln_0 h) rfl (by omega) (by omega) (by omega)
  · exact cln_0 h
/-- an order that is read ends with the only ; in it -/
theorem ord_yes {sp : Nat} (h : sp ≤ t) (hF : ordF t Tx sp = true) : ∃ p, cln t Tx sp p ∧ p < t ∧ Tx p = 59 ∧ ordP t Tx sp = p + 1 := by
  refine ⟨(stgE t Tx sp).2.1, cln_E h, ?_⟩
  have hP : ordP t Tx sp = (stgE t Tx sp).2.1 + 1 := by unfold ordP; rw [if_pos hF]
  unfold ordF at hF
  rw [Bool.and_eq_true] at hF
  have h2 := Nat.eq_of_beq_eq_true hF.2
  unfold hre at h2
  split at h2
  · omega
  · exact ⟨by omega, h2, hP⟩
theorem ord_not {sp : Nat} (h : sp ≤ t) (hF : ¬ ordF t Tx sp = true) : sp ≤ ordP t Tx sp ∧ ordP t Tx sp ≤ t := by
  have hP : ordP t Tx sp = (stgE t Tx sp).2.1 := by unfold ordP; rw [if_neg hF]; rfl
  have := cln_E (Tx := Tx) h
  rw [hP]
  exact ⟨this.1, this.2.1⟩
/-- how many ; stand before k -/
def cnS (Tx : Nat → Nat) : Nat → Nat
  | 0 => 0
  | k + 1 => cnS Tx k + (if Tx k = 59 then 1 else 0)
theorem cnS_cln {a : Nat} : ∀ (d b : Nat), b = a + d → cln t Tx a b → cnS Tx b = cnS Tx a
  | 0, b, e, _ => by rw [e]; rfl
  | d + 1, b, e, h => by
    obtain ⟨g1, g2, g3⟩ := h
    rw [e, show a + (d + 1) = a + d + 1 by omega, cnS, if_neg (g3 (a + d) (by omega) (by omega)).1, cnS_cln d (a + d) rfl ⟨by omega, by omega, fun j h1 h2 => g3 j h1 (by omega)⟩, Nat.add_zero]
theorem pl_cnt : ∀ (d : Nat) (V : Nat → Nat) (n sp : Nat), sp ≤ t → t ≤ sp + d → (plL t Tx d V n sp).2.2.1 = 0 → (plL t Tx d V n sp).1 + cnS Tx sp = n + cnS Tx t ∧ ∀ j, sp ≤ j → j < t → Tx j ≠ 46
  | 0, V, n, sp, h1, h2, _ => by
    obtain rfl : sp = t := by omega
    exact ⟨rfl, fun j a b => by omega⟩
  | d + 1, V, n, sp, h1, h2, h => by
    rw [plL] at h ⊢
    split
    · obtain rfl : sp = t := by omega
      exact ⟨rfl, fun j a b => by omega⟩
    · rename_i hts
      rw [if_neg hts] at h
      split
      · rename_i hF
        rw [if_pos hF] at h
        split
        · rename_i he
          rw [if_pos he] at h
          obtain ⟨p, hc, hp, hpc, hP⟩ := ord_yes h1 hF
          have hcl := hc.1
          have ih := pl_cnt d (dOrd V (hre t Tx sp) (ordN t Tx sp)) (n + 1) (ordP t Tx sp) (by omega) (by omega) h
          have e1 : cnS Tx (ordP t Tx sp) = cnS Tx sp + 1 := by
            rw [hP, cnS, if_pos hpc, cnS_cln (p - sp) p (by omega) hc]
          refine ⟨by omega, fun j a b => ?_⟩
          rcases Nat.lt_or_ge j p with hj | hj
          · exact (hc.2.2 j a hj).2
          · by_cases hjp : j = p
            · rw [hjp, hpc]; decide
            · exact ih.2 j (by omega) b
        · rename_i he
          rw [if_neg he] at h
          exact absurd (show (2 : Nat) = 0 from h) (by decide)
      · rename_i hF
        rw [if_neg hF] at h
        exact absurd (show (1 : Nat) = 0 from h) (by decide)
/-! errors are three -/
def isE (e : Int32) : Prop := e = (-1000001 : Int32) ∨ e = (-1000002 : Int32) ∨ e = (-1000003 : Int32)
theorem isE_n {e : Int32} (h : nI 0 ≤ e ∨ isE e) (h0 : ¬ nI 0 ≤ e) : isE e := h.resolve_left h0
theorem z_le : nI 0 ≤ nI 0 := Int32.le_refl _
theorem eIsl_e {x : Int32} : nI 0 ≤ eIsl V x ∨ isE (eIsl V x) := by
  unfold eIsl isE
  repeat' split
  all_goals first | exact Or.inl z_le | exact Or.inr (Or.inl rfl) | exact Or.inr (Or.inr (Or.inl rfl)) | exact Or.inr (Or.inr (Or.inr rfl))
theorem eBrg_e {x y w : Int32} : nI 0 ≤ eBrg V x y w ∨ isE (eBrg V x y w) := by
  unfold eBrg isE
  repeat' split
  all_goals first | exact Or.inl z_le | exact Or.inr (Or.inl rfl) | exact Or.inr (Or.inr (Or.inl rfl)) | exact Or.inr (Or.inr (Or.inr rfl))
theorem eSnd_e {x f : Int32} : nI 0 ≤ eSnd V x f ∨ isE (eSnd V x f) := by
  unfold eSnd isE
  repeat' split
  all_goals first | exact Or.inl z_le | exact Or.inr (Or.inl rfl) | exact Or.inr (Or.inr (Or.inl rfl)) | exact Or.inr (Or.inr (Or.inr rfl))
theorem eRec_e {x : Int32} : nI 0 ≤ eRec V x ∨ isE (eRec V x) := by
  unfold eRec isE
  repeat' split
  all_goals first | exact Or.inl z_le | exact Or.inr (Or.inl rfl) | exact Or.inr (Or.inr (Or.inl rfl)) | exact Or.inr (Or.inr (Or.inr rfl))
theorem ePay_e {x : Int32} : nI 0 ≤ ePay V x ∨ isE (ePay V x) := by
  unfold ePay isE
  repeat' split
  all_goals first | exact Or.inl z_le | exact Or.inr (Or.inl rfl) | exact Or.inr (Or.inr (Or.inl rfl)) | exact Or.inr (Or.inr (Or.inr rfl))
theorem eDys_e {x : Int32} : nI 0 ≤ eDys V x ∨ isE (eDys V x) := by
  unfold eDys isE
  repeat' split
  all_goals first | exact Or.inl z_le | exact Or.inr (Or.inl rfl) | exact Or.inr (Or.inr (Or.inl rfl)) | exact Or.inr (Or.inr (Or.inr rfl))
theorem eOrd_e {l : Nat} {M : Nat → Nat} : nI 0 ≤ eOrd V l M ∨ isE (eOrd V l M) := by
  unfold eOrd
  repeat' split
  · exact eBrg_e
  · exact eSnd_e
  · exact eIsl_e
  · exact ePay_e
  · exact eRec_e
  · exact eSnd_e
  · exact eDys_e
/-- a fault: its place lies within the text; its reason is 1 or 2, with a cause that fits -/
theorem pl_flt : ∀ (d : Nat) (V : Nat → Nat) (n sp : Nat), (plL t Tx d V n sp).2.2.1 ≠ 0 → (plL t Tx d V n sp).2.2.2.1 < t ∧ (((plL t Tx d V n sp).2.2.1 = 1 ∧ ∃ c, (plL t Tx d V n sp).2.2.2.2 = nI c ∧ (plL t Tx d V n sp).2.2.2.1 + c ≤ t) ∨ ((plL t Tx d V n sp).2.2.1 = 2 ∧ isE (plL t Tx d V n sp).2.2.2.2))
  | 0, V, n, sp, h => absurd rfl h
  | d + 1, V, n, sp, h => by
    rw [plL] at h ⊢
    split
    · rename_i hts
      rw [if_pos hts] at h
      exact absurd rfl h
    · rename_i hts
      rw [if_neg hts] at h
      split
      · rename_i hF
        rw [if_pos hF] at h
        split
        · rename_i he
          rw [if_pos he] at h
          exact pl_flt d _ _ _ h
        · rename_i he
          exact ⟨by show sp < t; omega, Or.inr ⟨rfl, isE_n eOrd_e he⟩⟩
      · rename_i hF
        have := ord_not (t := t) (Tx := Tx) (sp := sp) (by omega) hF
        exact ⟨by show sp < t; omega, Or.inl ⟨rfl, _, rfl, by show sp + (ordP t Tx sp - sp) ≤ t; omega⟩⟩
/-! orders keep what holds of a state -/
theorem rsn_coat (hw : WF m V) {b : Nat} (hb : b < V 2) (h : rsn V b = 0 ∨ rsn V b = 4) : V (72 + 8 * b + 3) < 100 := by
  have h3 := hw.2.2.1 b hb
  unfold rsn at h
  split at h
  · omega
  · split at h
    · omega
    · rename_i hne
      have hne : ¬ V (72 + 8 * b + 3) = 100 := hne
      omega
theorem eSnd_r {x f : Int32} (h : nI 0 ≤ eSnd V x f) : rsn V (toN x) = 0 ∨ (rsn V (toN x) = 4 ∧ f = nI 1) := by
  unfold eSnd at h
  split at h
  · split at h
    · rename_i hr; exact hr
    · exact absurd h (by decide)
  · exact absurd h (by decide)
theorem eBrg_ne (hw : WF m V) {x y w : Int32} (h : nI 0 ≤ eBrg V x y w) : toN x ≠ toN y := by
  obtain ⟨_, ex, _, ey, _⟩ := eBrg_ok hw h
  unfold eBrg at h
  split at h
  · rename_i hc
    intro z
    apply hc.2.2.1
    rw [ex, ey, z]
  · exact absurd h (by decide)
theorem PI.sndE (h : PI N V) (hw : WF m V) {x f : Int32} (he : nI 0 ≤ eSnd V x f) : PI (N + 1) (dSnd V (toN x)) :=
  h.snd hw (eSnd_ok hw he).1 (rsn_coat hw (eSnd_ok hw he).1 ((eSnd_r he).imp id And.left))
theorem PI.dysE (h : PI N V) (hw : WF 9999 V) {x : Int32} (he : nI 0 ≤ eDys V x) : PI (N + 4 * toN x) (dDays (toN x) V) := by
  obtain ⟨_, h2, _, h4⟩ := eDys_ok he
  exact (dys_all (toN x) (V 0) N V h (hw.to (Nat.le_refl _) (by omega)) (by omega)).1
theorem PI.ord (h : PI N V) (hw : WF 9999 V) {l : Nat} {M : Nat → Nat} (he : nI 0 ≤ eOrd V l M) : PI (N + 400) (dOrd V l M) := by
  unfold eOrd at he
  unfold dOrd
  by_cases e : l = 98
  · rw [if_pos e] at he ⊢
    exact (h.nbr hw (eBrg_ne hw he) (eBrg_ok hw he).2.2.2.2.2.2.2).mono (by omega)
  rw [if_neg e] at he ⊢
  by_cases e : l = 102
  · rw [if_pos e] at he ⊢
    exact (h.sndE hw he).mono (by omega)
  rw [if_neg e] at he ⊢
  by_cases e : l = 105
  · rw [if_pos e] at he ⊢
    exact (h.isl hw (eIsl_ok hw he).2.2).mono (by omega)
  rw [if_neg e] at he ⊢
  by_cases e : l = 112
  · rw [if_pos e] at he ⊢
    exact (h.pay hw _).mono (by omega)
  rw [if_neg e] at he ⊢
  by_cases e : l = 114
  · rw [if_pos e] at he ⊢
    exact (h.rec hw (eRec_ok hw he).1).mono (by omega)
  rw [if_neg e] at he ⊢
  by_cases e : l = 115
  · rw [if_pos e] at he ⊢
    exact (h.sndE hw he).mono (by omega)
  rw [if_neg e] at he ⊢
  have := (eDys_ok he).2.1
  exact (h.dysE hw he).mono (by omega)
theorem PI.pl : ∀ (d N : Nat) (V : Nat → Nat) (n sp : Nat), PI N V → WF 9999 V → PI (N + 400 * d) (plL t Tx d V n sp).2.1
  | 0, _, _, _, _, h, _ => h
  | d + 1, N, V, n, sp, h, hw => by
    rw [plL]
    split
    · exact h.mono (by omega)
    · split
      · split
        · rename_i he
          have := PI.pl d (N + 400) _ (n + 1) (ordP t Tx sp) (h.ord hw he) (hw.ord he)
          rw [show N + 400 * (d + 1) = N + 400 + 400 * d by omega]
          exact this
        · exact h.mono (by omega)
      · exact h.mono (by omega)
end TXT
