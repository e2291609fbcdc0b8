/-! the reference's day, to its end -/
section REF6
variable {E : AEnv} {σ : ASt} {V : Nat → Nat} {m : Nat} {Q : Option Value → ASt → Prop} {K : Int32 → ASt → Prop} {KV : ASt → Prop}
def dEnd (N : Nat → Nat) : Nat → Nat := upN (upN (upN N 0 (N 0 + 1)) 11 (N 11 + N 8)) 14 (N 14 + N 8)
def dFin (N : Nat → Nat) : Nat → Nat := if N 9 = 1 then aut 4 (dEnd N) else dEnd N
def dBok (I : Nat → Nat) (c : Nat) : Nat → Nat := if c = 0 then I else dNot I c
def dW3 (V : Nat → Nat) : Nat → Nat := dWA (opn V) (dPA V (V 2)) (V 2)
def dDay (V : Nat → Nat) : Nat → Nat := dFin (dBok (dIA (dW3 V) (reachV (dW3 V) 0 99) (V 1)) (cIA (dW3 V) (reachV (dW3 V) 0 99) (V 1)))
def cDay (V : Nat → Nat) : Nat := cIA (dW3 V) (reachV (dW3 V) 0 99) (V 1)
theorem WL.not {k c : Nat} (hw : WL m k V) : WL m k (dNot V c) := by
  obtain ⟨a1, a2, a3, a4, a5⟩ := hw
  unfold W1 at a1
  have p : ∀ j, 32 ≤ j → dNot V c j = V j := fun j h => dNot_o (by omega)
  refine ⟨?_, ?_, ?_, ?_, ?_⟩
  · unfold W1
    rw [dNot_o (by omega), dNot_o (by omega)]
    unfold dNot
    rw [upN_s]
    split <;> omega
  · unfold W2 at a2 ⊢
    rw [dNot_o (j := 3) (by omega), dNot_o (j := 4) (by omega), dNot_o (j := 5) (by omega), dNot_o (j := 6) (by omega), dNot_o (j := 7) (by omega), dNot_o (j := 8) (by omega), dNot_o (j := 9) (by omega), dNot_o (j := 10) (by omega)]
    exact a2
  · intro b hb
    rw [dNot_o (by omega)] at hb
    rw [dNot_o (j := 1) (by omega), p _ (by omega), p _ (by omega), p _ (by omega), p _ (by omega), p _ (by omega)]
    exact a3 b hb
  · intro i hi
    rw [dNot_o (by omega)] at hi
    rw [dNot_o (j := 0) (by omega), p _ (by omega), p _ (by omega), p _ (by omega)]
    exact a4 i hi
  · unfold W5 at a5 ⊢
    rw [dNot_o (j := 0) (by omega), dNot_o (j := 11) (by omega)]
    exact a5
theorem WL.bok {k c : Nat} (hw : WL m k V) : WL m k (dBok V c) := by
  unfold dBok
  split
  · exact hw
  · exact hw.not
theorem WL.fin {k : Nat} (hw : WL m k V) (hm : m < 100000) : WF (m + 1) (dEnd V) := by
  obtain ⟨a1, a2, a3, a4, a5⟩ := hw
  unfold W1 at a1
  unfold W2 at a2
  unfold W5 at a5
  have o : ∀ j, j ≠ 0 → j ≠ 11 → j ≠ 14 → dEnd V j = V j := fun j h1 h2 h3 => by
    unfold dEnd
    simp (disch := omega) only [upN_n, upN_s]
  have e0 : dEnd V 0 = V 0 + 1 := by unfold dEnd; simp (disch := omega) only [upN_n, upN_s]
  have e11 : dEnd V 11 = V 11 + V 8 := by unfold dEnd; simp (disch := omega) only [upN_n, upN_s]
  refine ⟨?_, ?_, ?_, ?_, ?_⟩
  · unfold W1
    rw [o 1 (by decide) (by decide) (by decide), o 2 (by decide) (by decide) (by decide), o 15 (by decide) (by decide) (by decide)]
    exact a1
  · unfold W2
    rw [o 3 (by decide) (by decide) (by decide), o 4 (by decide) (by decide) (by decide), o 5 (by decide) (by decide) (by decide), o 6 (by decide) (by decide) (by decide), o 7 (by decide) (by decide) (by decide), o 8 (by decide) (by decide) (by decide), o 9 (by decide) (by decide) (by decide), o 10 (by decide) (by decide) (by decide)]
    exact a2
  · intro c hc
    rw [o 2 (by decide) (by decide) (by decide)] at hc
    rw [o 1 (by decide) (by decide) (by decide), o _ (by omega) (by omega) (by omega), o _ (by omega) (by omega) (by omega), o _ (by omega) (by omega) (by omega), o _ (by omega) (by omega) (by omega), o _ (by omega) (by omega) (by omega)]
    exact a3 c hc
  · intro i hi
    rw [o 1 (by decide) (by decide) (by decide)] at hi
    rw [e0, o _ (by omega) (by omega) (by omega), o _ (by omega) (by omega) (by omega), o _ (by omega) (by omega) (by omega)]
    have := a4 i hi
    omega
  · unfold W5
    rw [e0, e11]
    omega
theorem WF.autn : ∀ (n : Nat) (V : Nat → Nat), WF m V → WF m (aut n V)
  | 0, _, hw => hw
  | n + 1, V, hw => by
    have hl : bsV V = 99 ∨ bsV V < V 2 := bsN_lt V (V 2)
    rw [aut]
    split
    · exact hw
    · exact WF.autn n _ (hw.snd (by omega))
theorem WF.w3 (hw : WF m V) : WF m (dW3 V) := by
  unfold dW3
  have e : dPA V (V 2) 2 = V 2 := dPA_o _ (by decide) (by decide) (by omega)
  exact (hw.pa _ (Nat.le_refl _)).wa _ _ (by omega)
theorem dW3_o {j : Nat} (h : j < 72) (h1 : j ≠ 11) (h2 : j ≠ 12) : dW3 V j = V j := by
  unfold dW3
  rw [dWA_o _ (by omega), dPA_o _ h1 h2 (by omega)]
theorem WF.bk (hw : WF m V) : WL m (V 1) (dBok (dIA (dW3 V) (reachV (dW3 V) 0 99) (V 1)) (cDay V)) := by
  have e : dW3 V 1 = V 1 := dW3_o (by decide) (by decide) (by decide)
  exact (hw.w3.ia _ _ (by omega)).bok
theorem WF.day (hw : WF m V) (hm : m < 100000) : WF (m + 1) (dDay V) := by
  have h := hw.bk.fin hm
  unfold dDay dFin
  split
  · exact WF.autn 4 _ h
  · exact h
theorem aut_o {j : Nat} (hj : j < 72) : ∀ (n : Nat) (V : Nat → Nat), aut n V j = V j
  | 0, _ => rfl
  | n + 1, V => by
    rw [aut]
    split
    · rfl
    · rw [aut_o hj n, dSnd_o (by omega)]
theorem cDay_le (hw : WF m V) : cDay V ≤ 8 := by
  have h1 := hw.1
  unfold W1 at h1
  have := cIA_le (V := dW3 V) (R := reachV (dW3 V) 0 99) (V 1)
  unfold cDay
  omega
theorem r_ed4 (H : MI σ) (hw : WF m V) (hm : m < 100000) (hK : Q (some (.int (nI (cDay V)))) (mS σ (dDay V))) :
    ∀ d k : Nat, 1 ≤ k → k + d = V 1 → wp E 120 124 [.ref 179, .int (nI (reachV (dW3 V) 0 99)), .int (nI (cIA (dW3 V) (reachV (dW3 V) 0 99) k)), .int (nI k)] [] (mS σ (dIA (dW3 V) (reachV (dW3 V) 0 99) k)) Q := by
  have h1 := hw.1
  unfold W1 at h1
  have hW := hw.w3
  have e1 : dW3 V 1 = V 1 := dW3_o (by decide) (by decide) (by decide)
  have hR : reachV (dW3 V) 0 99 < 2 ^ 8 := reach_lt hW.ends (by decide)
  have eI : ∀ n, dIA (dW3 V) (reachV (dW3 V) 0 99) n 1 = V 1 := fun n => by rw [dIA_o n (by decide) (by decide) (by omega), e1]
  intro d
  induction d with
  | zero =>
    intro k hk0 hk
    obtain rfl : k = V 1 := by omega
    have hc := cDay_le hw
    have hL := hW.ia (reachV (dW3 V) 0 99) (V 1) (by omega)
    have hB := hw.bk
    have tl : ∀ N, WL m (V 1) N → N = dBok (dIA (dW3 V) (reachV (dW3 V) 0 99) (V 1)) (cDay V) → (nI (N 9) ≠ nI 1 → wp E 120 236 [.ref 179, .int (nI (reachV (dW3 V) 0 99)), .int (nI (cDay V)), .int (-1000004 : Int32)] [] (mS σ (dEnd N)) Q) ∧ (¬ nI (N 9) ≠ nI 1 → sh (mS σ (dEnd N)) 179 6 15 ∧ cI E 110 [.ref 179] (mS σ (dEnd N)) (fun x22 s21 => wp E 120 236 [.ref 179, .int (nI (reachV (dW3 V) 0 99)), .int (nI (cDay V)), .int x22] [] s21 Q)) := by
      intro N hN eN
      have hF := hN.fin hm
      have h2 := hN.2.1
      unfold W2 at h2
      have hK' : Q (some (.int (nI (cDay V)))) (mS σ (dFin N)) := by rw [eN]; exact hK
      unfold dFin at hK'
      refine ⟨fun h => ?_, fun h => ⟨shM H, r_bs H hF ?_⟩⟩
      · rw [if_neg (fun z => h (congrArg nI z))] at hK'
        exact sg120_236 ⟨fun _ => hK', fun z => absurd (by decide) z⟩
      · rw [if_pos ((nI_eq (by omega) (by decide)).mp (Classical.not_not.mp h))] at hK'
        have e3 : dEnd N 3 = N 3 := by unfold dEnd; simp (disch := omega) only [upN_n, upN_s]
        exact r_ed5 H 4 _ hF (by omega) hK'
    refine sg120_124 ⟨shM H, _, rM0 H, 184, shV H, vi (by decide) (by decide), fun _ => ⟨fun h => ?_, fun h => ⟨shM H, r_bok H hL.1.2.2.2 ?_⟩⟩, fun h => absurd ?_ h⟩
    · have hN := hB
      have hc0 : cDay V = 0 := by
        have := (nI_leI (a := cDay V) (b := 0) (by omega) (by decide)).mp h
        omega
      have eN : dBok (dIA (dW3 V) (reachV (dW3 V) 0 99) (V 1)) (cDay V) = dIA (dW3 V) (reachV (dW3 V) 0 99) (V 1) := by unfold dBok; rw [if_pos hc0]
      rw [eN] at hN tl
      refine ⟨shM H, _, rM0 H, 184, shV H, vi (by decide) (by decide), 184, shV H, vi (by decide) (by decide), ?_⟩
      rw [mS_get (by decide), nI_add]
      refine nw_e (mS_put (by decide)) ⟨shM H, _, rM0 H, 184, shV H, vi (by decide) (by decide), shM H, _, rM0 H, 184, shV H, vi (by decide) (by decide), 184, shV H, vi (by decide) (by decide), ?_⟩
      rw [mS_get (by decide), mS_get (by decide), nI_add]
      simp (disch := omega) only [upN_n, upN_s]
      refine nw_e (mS_put (by decide)) ⟨shM H, _, rM0 H, 184, shV H, vi (by decide) (by decide), shM H, _, rM0 H, 184, shV H, vi (by decide) (by decide), 184, shV H, vi (by decide) (by decide), ?_⟩
      rw [mS_get (by decide), mS_get (by decide), nI_add]
      simp (disch := omega) only [upN_n, upN_s]
      refine nw_e (mS_put (by decide)) ⟨shM H, _, rM0 H, 184, shV H, vi (by decide) (by decide), ?_⟩
      rw [mS_get (by decide)]
      simp (disch := omega) only [upN_n, upN_s]
      exact tl _ hN rfl
    · have hN := hB
      have hc0 : cDay V ≠ 0 := fun z => h ((nI_leI (a := cDay V) (b := 0) (by omega) (by decide)).mpr (by omega))
      have eN : dBok (dIA (dW3 V) (reachV (dW3 V) 0 99) (V 1)) (cDay V) = dNot (dIA (dW3 V) (reachV (dW3 V) 0 99) (V 1)) (cDay V) := by unfold dBok; rw [if_neg hc0]
      rw [eN] at hN tl
      refine ⟨shM H, _, rM0 H, 184, shV H, vi (by decide) (by decide), 184, shV H, vi (by decide) (by decide), ?_⟩
      rw [mS_get (by decide), nI_add]
      refine nw_e (mS_put (by decide)) ⟨shM H, _, rM0 H, 184, shV H, vi (by decide) (by decide), shM H, _, rM0 H, 184, shV H, vi (by decide) (by decide), 184, shV H, vi (by decide) (by decide), ?_⟩
      rw [mS_get (by decide), mS_get (by decide), nI_add]
      simp (disch := omega) only [upN_n, upN_s]
      refine nw_e (mS_put (by decide)) ⟨shM H, _, rM0 H, 184, shV H, vi (by decide) (by decide), shM H, _, rM0 H, 184, shV H, vi (by decide) (by decide), 184, shV H, vi (by decide) (by decide), ?_⟩
      rw [mS_get (by decide), mS_get (by decide), nI_add]
      simp (disch := omega) only [upN_n, upN_s]
      refine nw_e (mS_put (by decide)) ⟨shM H, _, rM0 H, 184, shV H, vi (by decide) (by decide), ?_⟩
      rw [mS_get (by decide)]
      simp (disch := omega) only [upN_n, upN_s]
      exact tl _ hN rfl
    · rw [mS_get (by decide), eI]
      exact nI_le (Nat.le_refl _) (by omega)
  | succ d ih =>
    intro k hk0 hk
    have nx := ih (k + 1) (by omega) (by omega)
    rw [dIA, cIA, if_neg (by omega), if_neg (by omega)] at nx
    have hL := hW.ia (reachV (dW3 V) 0 99) k (by omega)
    have hb := bt_i (R := reachV (dW3 V) 0 99) (i := k) (by omega) (by omega)
    refine sg120_124 ⟨shM H, _, rM0 H, 184, shV H, vi (by decide) (by decide), fun h => absurd h ?_, fun _ => ⟨fun h => ⟨shM H, ?_⟩, fun h => ⟨shM H, ?_⟩⟩⟩
    · rw [mS_get (by decide), eI]
      exact nI_ge (by omega) (by omega)
    · have hb0 : bt (reachV (dW3 V) 0 99) k = false := by
        cases hq : bt (reachV (dW3 V) 0 99) k with
        | false => rfl
        | true => rw [hq] at hb; exact absurd hb h
      rw [hb0] at nx
      refine r_wai (r := false) H hL (by rw [eI]; omega) ?_
      rw [nI_add, nI_add]
      exact nx
    · have hb1 : bt (reachV (dW3 V) 0 99) k = true := by
        cases hq : bt (reachV (dW3 V) 0 99) k with
        | true => rfl
        | false => rw [hq] at hb; exact absurd (hb.symm.trans (Classical.not_not.mp h)) (by decide)
      rw [hb1] at nx
      refine r_wai (r := true) H hL (by rw [eI]; omega) ?_
      rw [nI_add, nI_add]
      exact nx
theorem r_day (H : MI σ) (hw : WF m V) (hm : m < 100000) (hK : ∀ f, K (nI (cDay V)) (mS (s5 σ f) (dDay V))) : cI E 120 [.ref 179] (mS σ V) K := by
  have h1 := hw.1
  unfold W1 at h1
  refine sg120_0 ?_
  rw [← s5_self (σ := σ)]
  refine r_ed1 H hw (fun f hf => ?_) (V 2) 0 _ (by omega) (fun j hj => absurd hj (Nat.not_lt_zero _))
  have H' : MI (s5 σ f) := H
  have e2 : dPA V (V 2) 2 = V 2 := dPA_o _ (by decide) (by decide) (by omega)
  refine r_ed2 H' hw ?_ (V 2) 0 (by omega)
  have hf' : ∀ j, j < dPA V (V 2) 2 → f j = bI (opn V j) := fun j hj => hf j (by omega)
  have h3 := r_ed3 (E := E) (Q := QI K) H hf' (hw.pa _ (Nat.le_refl _)) (by
    rw [e2]
    exact r_ed4 H' hw hm (hK f) (V 1 - 1) 1 (by omega) (by omega)) (V 2) 0 (by omega)
  exact h3
/-- many days -/
def dDays : Nat → (Nat → Nat) → (Nat → Nat)
  | 0, V => V
  | n + 1, V => dDays n (dDay V)
def cDays : Nat → (Nat → Nat) → Nat
  | 0, _ => 0
  | n + 1, V => cDay V + cDays n (dDay V)
theorem r_dysL (H : MI σ) {n : Nat} (hn : n < 2 ^ 31) : ∀ (d k c m : Nat) (V : Nat → Nat) (f : Nat → Int32), k + d = n → WF m V → m + d ≤ 100000 → (∀ f, Q (some (.int (nI (c + cDays d V)))) (mS (s5 σ f) (dDays d V))) →
    wp E 121 4 [.ref 179, .int (nI n), .int (nI c), .int (nI k)] [] (mS (s5 σ f) V) Q := by
  intro d
  induction d with
  | zero =>
    intro k c m V f hk hw hm hK
    exact sg121_4 ⟨fun _ => hK f, fun h => absurd (nI_le (by omega) (by omega)) h⟩
  | succ d ih =>
    intro k c m V f hk hw hm hK
    have H' : MI (s5 σ f) := H
    refine sg121_4 ⟨fun h => absurd h (nI_ge (by omega) (by omega)), fun _ => ⟨shM H, r_day H' hw (by omega) fun g => ?_⟩⟩
    rw [s5_s5, nI_add, nI_add]
    refine ih (k + 1) (c + cDay V) (m + 1) (dDay V) g (by omega) (hw.day (by omega)) (by omega) fun f' => ?_
    have := hK f'
    rw [cDays, ← Nat.add_assoc] at this
    exact this
theorem r_dys (H : MI σ) {n : Nat} (hw : WF m V) (hm : m + n ≤ 100000) (hK : ∀ f, K (nI (cDays n V)) (mS (s5 σ f) (dDays n V))) : cI E 121 [.ref 179, .int (nI n)] (mS σ V) K := by
  refine sg121_0 ?_
  rw [← s5_self (σ := σ)]
  refine r_dysL H (by omega) n 0 0 m V _ (by omega) hw hm fun f => ?_
  rw [Nat.zero_add]
  exact hK f
theorem WF.dysn : ∀ (n m : Nat) (V : Nat → Nat), WF m V → m + n ≤ 100000 → WF (m + n) (dDays n V)
  | 0, _, _, hw, _ => hw
  | n + 1, m, V, hw, hm => by
    rw [dDays, show m + (n + 1) = m + 1 + n by omega]
    exact WF.dysn n (m + 1) _ (hw.day (by omega)) (by omega)
end REF6
