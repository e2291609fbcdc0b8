/-! p27: a day keeps it -/
section DAY
variable {V W : Nat → Nat} {m n t N : Nat}
theorem IC.pnt (h : IC V) {b : Nat} : IC (dPnt V b) := by
  unfold IC at h ⊢
  unfold dPnt
  dsimp only
  split
  · split
    · simp (disch := omega) only [upN_n, upN_s]; omega
    · simp (disch := omega) only [upN_n, upN_s]; omega
  · exact h
theorem IBb.pnt {b : Nat} (h : IBb N t V b) : IBb N t (dPnt V b) b := by
  unfold IBb at h ⊢
  unfold dPnt
  dsimp only
  split
  · split
    · simp (disch := omega) only [upN_n, upN_s]; omega
    · simp (disch := omega) only [upN_n, upN_s]; omega
  · exact h
theorem dPnt_b {b c k : Nat} (h : c ≠ b) (hk : k < 8) : dPnt V b (72 + 8 * c + k) = V (72 + 8 * c + k) := dPnt_o (by omega) (by omega) (by omega)
theorem IC.pa (h : IC V) : ∀ n, IC (dPA V n)
  | 0 => h
  | n + 1 => by
    rw [dPA]
    split
    · exact (h.pa n).pnt
    · exact h.pa n
theorem IBb.pa {b : Nat} (h : IBb N t V b) : ∀ n, IBb N t (dPA V n) b
  | 0 => h
  | n + 1 => by
    rw [dPA]
    split
    · by_cases hb : b = n
      · subst hb
        exact (h.pa b).pnt
      · exact (h.pa n).cong fun k hk => dPnt_b hb (by omega)
    · exact h.pa n
theorem wa_k {o : Nat → Bool} {c k : Nat} (hk : k < 8) (h3 : k ≠ 3) (h6 : k ≠ 6) : ∀ n, dWA o V n (72 + 8 * c + k) = V (72 + 8 * c + k)
  | 0 => rfl
  | n + 1 => by
    rw [dWA, upN_n (by omega), dWA1_o (by omega)]
    exact wa_k hk h3 h6 n
theorem wa_3 {o : Nat → Bool} {c : Nat} : ∀ n, dWA o V n (72 + 8 * c + 3) ≤ V (72 + 8 * c + 3)
  | 0 => Nat.le_refl _
  | n + 1 => by
    have ih := wa_3 (o := o) (c := c) n
    rw [dWA, upN_n (by omega)]
    unfold dWA1
    split
    · by_cases hc : c = n
      · subst hc
        unfold dWea
        rw [upN_s]
        omega
      · rw [dWea_o (by omega)]; exact ih
    · exact ih
theorem wa_6 {o : Nat → Bool} {c : Nat} : ∀ n, dWA o V n (72 + 8 * c + 6) ≤ V (72 + 8 * c + 6) + 1
  | 0 => Nat.le_succ _
  | n + 1 => by
    have ih := wa_6 (o := o) (c := c) n
    rw [dWA]
    by_cases hc : c = n
    · subst hc
      rw [upN_s, dWA1_o (by omega), dWA_o c (by omega)]
      split <;> omega
    · rw [upN_n (by omega), dWA1_o (by omega)]
      exact ih
theorem IBb.wa {b : Nat} (h : IBb N t V b) {o : Nat → Bool} (n : Nat) : IBb N (t + 1) (dWA o V n) b := by
  have h3 := wa_3 (V := V) (o := o) (c := b) n
  have h6 := wa_6 (V := V) (o := o) (c := b) n
  unfold IBb at h ⊢
  rw [wa_k (k := 0) (by decide) (by decide) (by decide), wa_k (k := 1) (by decide) (by decide) (by decide), wa_k (k := 4) (by decide) (by decide) (by decide), wa_k (k := 5) (by decide) (by decide) (by decide)]
  omega
theorem IC.wai (h : IC V) {i : Nat} {r : Bool} : IC (dWai V i r) := by
  unfold IC at h ⊢
  unfold dWai
  dsimp only
  split
  · simp (disch := omega) only [upN_n, upN_s]; omega
  · split
    · simp (disch := omega) only [upN_n, upN_s]; omega
    · split
      · simp (disch := omega) only [upN_n, upN_s]; omega
      · simp (disch := omega) only [upN_n, upN_s]; omega
theorem IC.ia (h : IC V) {R : Nat} : ∀ n, IC (dIA V R n)
  | 0 => h
  | n + 1 => by
    rw [dIA]
    split
    · exact h
    · exact (h.ia n).wai
theorem IWi.wai {i : Nat} (h : IWi t V i) {r : Bool} : IWi (t + 1) (dWai V i r) i := by
  unfold IWi at h ⊢
  unfold dWai
  dsimp only
  split
  · simp (disch := omega) only [upN_n, upN_s]; omega
  · split
    · simp (disch := omega) only [upN_n, upN_s]; omega
    · split
      · simp (disch := omega) only [upN_n, upN_s]; split <;> omega
      · simp (disch := omega) only [upN_n, upN_s]; split <;> omega
theorem wai_2 {i : Nat} {r : Bool} : dWai V i r (32 + 5 * i + 2) = V (32 + 5 * i + 2) + cWai V i r := by
  unfold dWai cWai
  dsimp only
  split
  · simp (disch := omega) only [upN_n, upN_s]; omega
  · split
    · simp (disch := omega) only [upN_n, upN_s]; omega
    · split
      · simp (disch := omega) only [upN_n, upN_s]
      · simp (disch := omega) only [upN_n, upN_s]; omega
theorem wai_i {i c k : Nat} {r : Bool} (h : c ≠ i) (hk : k < 5) : dWai V i r (32 + 5 * c + k) = V (32 + 5 * c + k) := dWai_o (by omega) (by omega) (by omega)
theorem IWi.mono {i : Nat} (h : IWi t V i) {u : Nat} (hu : t ≤ u) : IWi u V i := by
  unfold IWi at h ⊢
  omega
theorem IWi.ia {c R : Nat} (h : IWi t V c) : ∀ n, IWi (t + 1) (dIA V R n) c ∧ (n ≤ c → IWi t (dIA V R n) c)
  | 0 => ⟨h.mono (Nat.le_succ _), fun _ => h⟩
  | n + 1 => by
    rw [dIA]
    have ih := h.ia (R := R) n
    split
    · exact ⟨h.mono (Nat.le_succ _), fun _ => h⟩
    · by_cases hc : c = n
      · subst hc
        exact ⟨(ih.2 (Nat.le_refl _)).wai, fun z => by omega⟩
      · exact ⟨ih.1.cong fun k hk => wai_i hc hk, fun z => (ih.2 (by omega)).cong fun k hk => wai_i hc hk⟩
theorem ia_sum {R k : Nat} : ∀ n, n ≤ k → smN (dIA V R n) 2 k = smN V 2 k + cIA V R n
  | 0, _ => rfl
  | n + 1, h => by
    rw [dIA, cIA]
    split
    · rfl
    · rw [smN_one (V := dIA V R n) (i := n) k (by omega) (fun j _ hj => wai_i hj (by decide)) wai_2, ia_sum n (by omega)]
      omega
theorem ia_72 {R j : Nat} (h : 72 ≤ j) {n : Nat} (hn : n ≤ 8) : dIA V R n j = V j := dIA_o n (by omega) (by omega) (by omega)
/-- the crews that go by themselves -/
theorem PI.autn : ∀ (n N : Nat) (V : Nat → Nat), PI N V → WF m V → PI (N + n) (aut n V)
  | 0, _, _, h, _ => h
  | n + 1, N, V, h, hw => by
    have hl : bsV V = 99 ∨ bsV V < V 2 := bsN_lt V (V 2)
    rw [aut]
    split
    · exact h.mono (by omega)
    · rename_i h99
      have hb : bsV V < V 2 := by omega
      have h1 := bsN_ok V _ h99
      have h3 := hw.2.2.1 _ hb
      have h4 : V (72 + 8 * bsV V + 3) < 100 := by
        unfold rsn at h1
        split at h1
        · omega
        · split at h1
          · omega
          · rename_i hne
            have hne : ¬ V (72 + 8 * bsV V + 3) = 100 := hne
            omega
      have := PI.autn n (N + 1) _ (h.snd hw hb h4) (hw.snd hb)
      rw [show N + (n + 1) = N + 1 + n by omega]
      exact this
theorem shN_0 {j : Nat} (h : j < 18 ∨ 32 ≤ j) : shN V 14 j = V j := shN_o 14 (by omega) (by omega)
theorem not_15 {c : Nat} : dNot V c 15 = if 8 ≤ V 15 then V 15 else V 15 + 1 := by unfold dNot; rw [upN_s]
theorem not_16 {c : Nat} : dNot V c 16 = V 0 := by unfold dNot; simp (disch := omega) only [upN_n, upN_s]
theorem not_17 {c : Nat} : dNot V c 17 = c := by unfold dNot; simp (disch := omega) only [upN_n, upN_s]
theorem not_v {c j : Nat} (h1 : 18 ≤ j) (h2 : j < 32) : dNot V c j = V (j - 2) := by
  unfold dNot
  simp (disch := omega) only [upN_n, upN_s]
  exact shN_v 14 (by omega) (by omega) h2
theorem IKa.not (h : IKa (V 0) V) {c : Nat} (hc : 1 ≤ c ∧ c ≤ 8) (h15 : V 15 ≤ 8) : IKa (V 0 + 1) (dNot V c) := by
  intro a ha
  rw [not_15] at ha
  have ha8 : a < 8 := by split at ha <;> omega
  by_cases h0 : a = 0
  · subst h0
    show 1 ≤ dNot V c 17 ∧ dNot V c 17 ≤ 8 ∧ dNot V c 16 < V 0 + 1 ∧ _
    rw [not_17, not_16]
    exact ⟨hc.1, hc.2, by omega, fun z => by omega⟩
  · have h1 := h (a - 1) (by split at ha <;> omega)
    rw [not_v (by omega) (by omega), not_v (by omega) (by omega), show 17 + 2 * a - 2 = 17 + 2 * (a - 1) by omega, show 16 + 2 * a - 2 = 16 + 2 * (a - 1) by omega]
    refine ⟨h1.1, h1.2.1, by omega, fun _ => ?_⟩
    by_cases h2 : a = 1
    · subst h2
      show V (16 + 2 * 0) < dNot V c 16
      rw [not_16]
      exact h1.2.2.1
    · rw [not_v (by omega) (by omega), show 16 + 2 * (a - 1) - 2 = 16 + 2 * (a - 1 - 1) by omega]
      exact h1.2.2.2 (by omega)
theorem IKa.mono (h : IKa t V) {u : Nat} (hu : t ≤ u) : IKa u V := fun a ha => by
  have := h a ha
  exact ⟨this.1, this.2.1, by omega, this.2.2.2⟩
theorem dEnd_o {j : Nat} (h1 : j ≠ 0) (h2 : j ≠ 11) (h3 : j ≠ 14) : dEnd V j = V j := by
  unfold dEnd
  simp (disch := omega) only [upN_n, upN_s]
theorem dEnd_0 : dEnd V 0 = V 0 + 1 := by unfold dEnd; simp (disch := omega) only [upN_n, upN_s]
theorem IKa.cong (h : IKa t V) (e : ∀ j, 15 ≤ j → j < 32 → W j = V j) (h15 : V 15 ≤ 8) : IKa t W := by
  intro a ha
  rw [e 15 (by omega) (by omega)] at ha
  have := h a ha
  rw [e _ (by omega) (by omega), e _ (by omega) (by omega)]
  exact ⟨this.1, this.2.1, this.2.2.1, fun z => by rw [e _ (by omega) (by omega)]; exact this.2.2.2 z⟩
/-- the state when all have waited, the book written, before the day ends -/
def dBk (V : Nat → Nat) : Nat → Nat := dBok (dIA (dW3 V) (reachV (dW3 V) 0 99) (V 1)) (cDay V)
theorem dBok_o {c j : Nat} (h : j < 15 ∨ 32 ≤ j) : dBok V c j = V j := by
  unfold dBok
  split
  · rfl
  · exact dNot_o h
theorem dBk_o {j : Nat} (h1 : V 1 ≤ 8) (h : j < 32 ∨ 72 ≤ j) (h11 : j ≠ 11) (h13 : j ≠ 13) (h15 : j < 15 ∨ 32 ≤ j) : dBk V j = dW3 V j := by
  unfold dBk
  rw [dBok_o h15, dIA_o _ h11 h13 (by omega)]
theorem bk_sum (h1 : V 1 ≤ 8) : smN (dBk V) 2 (V 1) = smN V 2 (V 1) + cDay V := by
  unfold dBk
  rw [smN_cong (V := dIA (dW3 V) (reachV (dW3 V) 0 99) (V 1)) (V 1) (fun j hj => dBok_o (by omega)), ia_sum _ (Nat.le_refl _)]
  rw [smN_cong (V := V) (V 1) (fun j hj => dW3_o (by omega) (by omega) (by omega))]
  rfl
theorem PI.bk (h : PI N V) (hw : WF m V) : IC (dBk V) ∧ IB N (V 0 + 1) (dBk V) ∧ IW (V 0 + 1) (dBk V) ∧ IKa (V 0 + 1) (dBk V) ∧ IKs (dBk V) := by
  obtain ⟨p1, p2, p3, p4, p5⟩ := h
  have w1 := hw.1
  unfold W1 at w1
  have hc8 := cDay_le hw
  have e1 : dW3 V 1 = V 1 := dW3_o (by decide) (by decide) (by decide)
  have e2 : dW3 V 2 = V 2 := dW3_o (by decide) (by decide) (by decide)
  have e0 : dW3 V 0 = V 0 := dW3_o (by decide) (by decide) (by decide)
  have f1 : dBk V 1 = V 1 := (dBk_o w1.2.1 (by omega) (by decide) (by decide) (by omega)).trans e1
  have f2 : dBk V 2 = V 2 := (dBk_o w1.2.1 (by omega) (by decide) (by decide) (by omega)).trans e2
  have c3 : IC (dW3 V) := by
    have := p1.pa (V 2)
    unfold dW3
    unfold IC at this ⊢
    rw [dWA_o _ (by omega), dWA_o _ (by omega), dWA_o _ (by omega), dWA_o _ (by omega)]
    exact this
  have k3 : IKa (V 0) (dW3 V) := p4.cong (fun j h1 h2 => dW3_o (by omega) (by omega) (by omega)) w1.2.2.2
  have hi0 : dIA (dW3 V) (reachV (dW3 V) 0 99) (V 1) 0 = V 0 := (dIA_o _ (by decide) (by decide) (by omega)).trans e0
  have hi15 : dIA (dW3 V) (reachV (dW3 V) 0 99) (V 1) 15 = V 15 := (dIA_o _ (by decide) (by decide) (by omega)).trans (dW3_o (by decide) (by decide) (by decide))
  have ki : IKa (V 0) (dIA (dW3 V) (reachV (dW3 V) 0 99) (V 1)) := k3.cong (fun j h1 h2 => dIA_o _ (by omega) (by omega) (by omega)) (by rw [dW3_o (by decide) (by decide) (by decide)]; omega)
  refine ⟨?_, ?_, ?_, ?_, ?_⟩
  · have := c3.ia (R := reachV (dW3 V) 0 99) (V 1)
    unfold dBk
    unfold IC at this ⊢
    rw [dBok_o (by omega), dBok_o (by omega), dBok_o (by omega), dBok_o (by omega)]
    exact this
  · intro b hb
    rw [f2] at hb
    have h3 : IBb N (V 0 + 1) (dW3 V) b := ((p2 b hb).pa (V 2)).wa (V 2)
    exact h3.cong fun k hk => dBk_o w1.2.1 (by omega) (by omega) (by omega) (by omega)
  · intro i hi
    rw [f1] at hi
    have h3 : IWi (V 0) (dW3 V) i := (p3 i hi).cong fun k hk => dW3_o (by omega) (by omega) (by omega)
    exact (h3.ia (V 1)).1.cong fun k hk => dBok_o (by omega)
  · unfold dBk dBok
    split
    · exact ki.mono (Nat.le_succ _)
    · have := IKa.not (V := dIA (dW3 V) (reachV (dW3 V) 0 99) (V 1)) (c := cDay V) (by rw [hi0]; exact ki) (by omega) (by omega)
      rw [hi0] at this
      exact this
  · unfold IKs at p5 ⊢
    rw [f1, bk_sum w1.2.1]
    have e15 : dBk V 15 = if cDay V = 0 then V 15 else (if 8 ≤ V 15 then V 15 else V 15 + 1) := by
      unfold dBk dBok
      split
      · exact hi15
      · rw [not_15, hi15]
    rw [e15]
    split
    · rename_i h0
      rw [h0]
      exact p5
    · split <;> omega
theorem PI.end (h : IC V ∧ IB N (V 0 + 1) V ∧ IW (V 0 + 1) V ∧ IKa (V 0 + 1) V ∧ IKs V) (h12 : V 1 ≤ 8 ∧ V 15 ≤ 8) : PI N (dEnd V) := by
  obtain ⟨p1, p2, p3, p4, p5⟩ := h
  have e1 : dEnd V 1 = V 1 := dEnd_o (by decide) (by decide) (by decide)
  have e2 : dEnd V 2 = V 2 := dEnd_o (by decide) (by decide) (by decide)
  have e15 : dEnd V 15 = V 15 := dEnd_o (by decide) (by decide) (by decide)
  refine ⟨?_, ?_, ?_, ?_, ?_⟩
  · unfold IC at p1 ⊢
    unfold dEnd
    simp (disch := omega) only [upN_n, upN_s]
    omega
  · intro b hb
    rw [e2] at hb
    rw [dEnd_0]
    exact (p2 b hb).cong fun k hk => dEnd_o (by omega) (by omega) (by omega)
  · intro i hi
    rw [e1] at hi
    rw [dEnd_0]
    exact (p3 i hi).cong fun k hk => dEnd_o (by omega) (by omega) (by omega)
  · rw [dEnd_0]
    exact p4.cong (fun j h1 h2 => dEnd_o (by omega) (by omega) (by omega)) h12.2
  · unfold IKs at p5 ⊢
    rw [e15, e1, smN_cong (V 1) (fun j hj => dEnd_o (by omega) (by omega) (by omega))]
    exact p5
theorem bk_0 (hw : WF m V) : dBk V 0 = V 0 := by
  have w1 := hw.1
  unfold W1 at w1
  exact (dBk_o w1.2.1 (by omega) (by decide) (by decide) (by omega)).trans (dW3_o (by decide) (by decide) (by decide))
theorem PI.day (h : PI N V) (hw : WF m V) (hm : m < 100000) : PI (N + 4) (dDay V) := by
  have hb := h.bk hw
  rw [← bk_0 hw] at hb
  have hwb := hw.bk
  have hk1 := hwb.1
  unfold W1 at hk1
  have he : PI N (dEnd (dBk V)) := PI.end hb ⟨hk1.2.1, hk1.2.2.2⟩
  have hwe : WF (m + 1) (dEnd (dBk V)) := hwb.fin hm
  show PI (N + 4) (dFin (dBk V))
  unfold dFin
  split
  · exact PI.autn 4 N _ he hwe
  · exact he.mono (by omega)
theorem day_0 (hw : WF m V) : dDay V 0 = V 0 + 1 := by
  show dFin (dBk V) 0 = _
  unfold dFin
  split
  · rw [aut_o (by decide), dEnd_0, bk_0 hw]
  · rw [dEnd_0, bk_0 hw]
theorem day_1 (hw : WF m V) : dDay V 1 = V 1 := by
  have w1 := hw.1
  unfold W1 at w1
  have e : dBk V 1 = V 1 := (dBk_o w1.2.1 (by omega) (by decide) (by decide) (by omega)).trans (dW3_o (by decide) (by decide) (by decide))
  show dFin (dBk V) 1 = _
  unfold dFin
  split
  · rw [aut_o (by decide), dEnd_o (by decide) (by decide) (by decide), e]
  · rw [dEnd_o (by decide) (by decide) (by decide), e]
theorem day_sum (hw : WF m V) : smN (dDay V) 2 (V 1) = smN V 2 (V 1) + cDay V := by
  have w1 := hw.1
  unfold W1 at w1
  rw [← bk_sum w1.2.1]
  show smN (dFin (dBk V)) 2 (V 1) = _
  unfold dFin
  split
  · rw [smN_cong (V := dEnd (dBk V)) (V 1) (fun j hj => aut_o (by omega) 4 _)]
    exact smN_cong (V 1) (fun j hj => dEnd_o (by omega) (by omega) (by omega))
  · exact smN_cong (V 1) (fun j hj => dEnd_o (by omega) (by omega) (by omega))
theorem dys_all : ∀ (n m N : Nat) (V : Nat → Nat), PI N V → WF m V → m + n ≤ 100000 → PI (N + 4 * n) (dDays n V) ∧ dDays n V 0 = V 0 + n ∧ dDays n V 1 = V 1 ∧ smN (dDays n V) 2 (V 1) = smN V 2 (V 1) + cDays n V
  | 0, _, _, _, h, _, _ => ⟨h, rfl, rfl, rfl⟩
  | n + 1, m, N, V, h, hw, hm => by
    have ih := dys_all n (m + 1) (N + 4) _ (h.day hw (by omega)) (hw.day (by omega)) (by omega)
    rw [day_0 hw, day_1 hw, day_sum hw] at ih
    rw [dDays, cDays]
    refine ⟨?_, by omega, ih.2.2.1, by omega⟩
    rw [show N + 4 * (n + 1) = N + 4 + 4 * n by omega]
    exact ih.1
end DAY
