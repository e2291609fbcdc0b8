/-! what a step keeps; the day -/
section REF4
variable {E : AEnv} {σ : ASt} {V : Nat → Nat} {m : Nat} {Q : Option Value → ASt → Prop} {K : Int32 → ASt → Prop} {KV : ASt → Prop}
theorem dPnt_o {b j : Nat} (h1 : j ≠ 11) (h2 : j ≠ 12) (h : j < 72 + 8 * b + 3 ∨ 72 + 8 * b + 8 ≤ j) : dPnt V b j = V j := by
  unfold dPnt
  dsimp only
  split
  · split
    · simp (disch := omega) only [upN_n, upN_s]
    · simp (disch := omega) only [upN_n, upN_s]
  · rfl
theorem dWea_o {b j : Nat} (h : j ≠ 72 + 8 * b + 3) : dWea V b j = V j := upN_n h
theorem dSnd_o {b j : Nat} (h : j < 72 + 8 * b + 4 ∨ 72 + 8 * b + 6 ≤ j) : dSnd V b j = V j := by
  unfold dSnd
  simp (disch := omega) only [upN_n, upN_s]
theorem dWai_o {i j : Nat} {r : Bool} (h1 : j ≠ 11) (h2 : j ≠ 13) (h : j < 32 + 5 * i + 1 ∨ 32 + 5 * i + 5 ≤ j) : dWai V i r j = V j := by
  unfold dWai
  dsimp only
  split
  · simp (disch := omega) only [upN_n, upN_s]
  · split
    · simp (disch := omega) only [upN_n, upN_s]
    · split
      · simp (disch := omega) only [upN_n, upN_s]
      · simp (disch := omega) only [upN_n, upN_s]
theorem dPnt_11 {b : Nat} : dPnt V b 11 ≤ V 11 := by
  unfold dPnt
  dsimp only
  split
  · split
    · simp (disch := omega) only [upN_n, upN_s]; omega
    · simp (disch := omega) only [upN_n, upN_s]; omega
  · exact Nat.le_refl _
theorem dWai_11 {i : Nat} {r : Bool} : dWai V i r 11 ≤ V 11 := by
  unfold dWai
  dsimp only
  split
  · simp (disch := omega) only [upN_n, upN_s]; omega
  · split
    · simp (disch := omega) only [upN_n, upN_s]; omega
    · split
      · simp (disch := omega) only [upN_n, upN_s]; omega
      · simp (disch := omega) only [upN_n, upN_s]; omega
theorem dPnt_3 {b : Nat} (h : V (72 + 8 * b + 3) ≤ 100) : dPnt V b (72 + 8 * b + 3) ≤ 100 := by
  unfold dPnt
  dsimp only
  split
  · split
    · simp (disch := omega) only [upN_n, upN_s]; omega
    · simp (disch := omega) only [upN_n, upN_s]; omega
  · exact h
theorem dPnt_4 {b : Nat} (h : V (72 + 8 * b + 4) ≤ 1) : dPnt V b (72 + 8 * b + 4) ≤ 1 := by
  unfold dPnt
  dsimp only
  split
  · split
    · simp (disch := omega) only [upN_n, upN_s]; exact h
    · simp (disch := omega) only [upN_n, upN_s]; omega
  · exact h
theorem dWai_1 {i : Nat} {r : Bool} : dWai V i r (32 + 5 * i + 1) ≤ V (32 + 5 * i + 1) + 1 := by
  unfold dWai
  dsimp only
  split
  · simp (disch := omega) only [upN_n, upN_s]; omega
  · split
    · simp (disch := omega) only [upN_n, upN_s]; omega
    · split
      · simp (disch := omega) only [upN_n, upN_s]; omega
      · simp (disch := omega) only [upN_n, upN_s]; omega
theorem dWai_3 {i : Nat} {r : Bool} : dWai V i r (32 + 5 * i + 3) ≤ V (32 + 5 * i + 3) ∨ dWai V i r (32 + 5 * i + 3) ≤ V (32 + 5 * i + 1) + 1 := by
  unfold dWai
  dsimp only
  split
  · simp (disch := omega) only [upN_n, upN_s]; omega
  · split
    · simp (disch := omega) only [upN_n, upN_s]; omega
    · split
      · simp (disch := omega) only [upN_n, upN_s]; split <;> omega
      · simp (disch := omega) only [upN_n, upN_s]; split <;> omega
/-- the same places, the purse not greater, bridge b right -/
theorem WF.brg {W : Nat → Nat} (hw : WF m V) {b : Nat} (h0 : ∀ j, j < 72 → j ≠ 11 → j ≠ 12 → W j = V j) (h11 : W 11 ≤ V 11) (hb : ∀ j, j < 72 + 8 * b + 3 ∨ 72 + 8 * b + 8 ≤ j → 72 ≤ j → W j = V j) (h3 : b < V 2 → W (72 + 8 * b + 3) ≤ 100) (h4 : b < V 2 → W (72 + 8 * b + 4) ≤ 1) : WF m W := by
  obtain ⟨a1, a2, a3, a4, a5⟩ := hw
  unfold W1 at a1
  have e0 := h0 0 (by decide) (by decide) (by decide)
  have e1 := h0 1 (by decide) (by decide) (by decide)
  have e2 := h0 2 (by decide) (by decide) (by decide)
  refine ⟨?_, ?_, ?_, ?_, ?_⟩
  · unfold W1
    rw [e1, e2, h0 15 (by decide) (by decide) (by decide)]
    exact a1
  · unfold W2 at a2 ⊢
    rw [h0 3 (by decide) (by decide) (by decide), h0 4 (by decide) (by decide) (by decide), h0 5 (by decide) (by decide) (by decide), h0 6 (by decide) (by decide) (by decide), h0 7 (by decide) (by decide) (by decide), h0 8 (by decide) (by decide) (by decide), h0 9 (by decide) (by decide) (by decide), h0 10 (by decide) (by decide) (by decide)]
    exact a2
  · intro c hc
    rw [e2] at hc
    have := a3 c hc
    rw [e1, hb (72 + 8 * c + 0) (by omega) (by omega), hb (72 + 8 * c + 1) (by omega) (by omega), hb (72 + 8 * c + 2) (by omega) (by omega)]
    by_cases hcb : c = b
    · subst hcb
      have := h3 hc
      have := h4 hc
      omega
    · rw [hb (72 + 8 * c + 3) (by omega) (by omega), hb (72 + 8 * c + 4) (by omega) (by omega)]
      exact this
  · intro i hi
    rw [e1] at hi
    rw [e0, h0 (32 + 5 * i + 0) (by omega) (by omega) (by omega), h0 (32 + 5 * i + 1) (by omega) (by omega) (by omega), h0 (32 + 5 * i + 3) (by omega) (by omega) (by omega)]
    exact a4 i hi
  · unfold W5 at a5 ⊢
    rw [e0]
    omega
theorem WF.pnt (hw : WF m V) {b : Nat} (hb : b < V 2) : WF m (dPnt V b) := by
  have h3 := hw.2.2.1 b hb
  exact hw.brg (b := b) (fun j h1 h2 h3 => dPnt_o h2 h3 (by omega)) dPnt_11 (fun j h1 h2 => dPnt_o (by omega) (by omega) h1) (fun _ => dPnt_3 (by omega)) (fun _ => dPnt_4 (by omega))
theorem WF.wea (hw : WF m V) {b : Nat} (hb : b < V 2) : WF m (dWea V b) := by
  have h3 := hw.2.2.1 b hb
  refine hw.brg (b := b) (fun j h1 h2 h3 => dWea_o (by omega)) (Nat.le_of_eq (dWea_o (by omega))) (fun j h1 h2 => dWea_o (by omega)) (fun _ => ?_) (fun _ => ?_)
  · unfold dWea; simp (disch := omega) only [upN_n, upN_s]; omega
  · unfold dWea; simp (disch := omega) only [upN_n, upN_s]; omega
theorem WF.snd (hw : WF m V) {b : Nat} (hb : b < V 2) : WF m (dSnd V b) := by
  have h3 := hw.2.2.1 b hb
  refine hw.brg (b := b) (fun j h1 h2 h3 => dSnd_o (by omega)) (Nat.le_of_eq (dSnd_o (by omega))) (fun j h1 h2 => dSnd_o (by omega)) (fun _ => ?_) (fun _ => ?_)
  · unfold dSnd; simp (disch := omega) only [upN_n, upN_s]; omega
  · unfold dSnd; simp (disch := omega) only [upN_n, upN_s]; omega
theorem WF.rec (hw : WF m V) {b : Nat} (hb : b < V 2) : WF m (dRec V b) := by
  have h3 := hw.2.2.1 b hb
  refine hw.brg (b := b) (fun j h1 h2 h3 => upN_n (by omega)) (Nat.le_of_eq (upN_n (by omega))) (fun j h1 h2 => upN_n (by omega)) (fun _ => ?_) (fun _ => ?_)
  · unfold dRec; simp (disch := omega) only [upN_n, upN_s]; omega
  · unfold dRec; simp (disch := omega) only [upN_n, upN_s]; omega
theorem WF.clo (hw : WF m V) {b x : Nat} (hb : b < V 2) : WF m (upN V (72 + 8 * b + 6) x) := by
  have h3 := hw.2.2.1 b hb
  refine hw.brg (b := b) (fun j h1 h2 h3 => upN_n (by omega)) (Nat.le_of_eq (upN_n (by omega))) (fun j h1 h2 => upN_n (by omega)) (fun _ => ?_) (fun _ => ?_)
  · simp (disch := omega) only [upN_n, upN_s]; omega
  · simp (disch := omega) only [upN_n, upN_s]; omega
/-- while islands wait: those from k on have not yet -/
def W4k (k : Nat) (V : Nat → Nat) : Prop := ∀ i, i < V 1 → V (32 + 5 * i + 0) ≤ 99 ∧ V (32 + 5 * i + 1) ≤ V 0 + 1 ∧ V (32 + 5 * i + 3) ≤ V 0 + 1 ∧ (k ≤ i → V (32 + 5 * i + 1) ≤ V 0 ∧ V (32 + 5 * i + 3) ≤ V 0)
def WL (m k : Nat) (V : Nat → Nat) : Prop := W1 V ∧ W2 V ∧ W3 V ∧ W4k k V ∧ W5 m V
theorem WF.wl (hw : WF m V) (k : Nat) : WL m k V := ⟨hw.1, hw.2.1, hw.2.2.1, fun i hi => by
  have := hw.2.2.2.1 i hi
  omega, hw.2.2.2.2⟩
theorem WL.wai {i : Nat} (hw : WL m i V) (hi : i < V 1) (r : Bool) : WL m (i + 1) (dWai V i r) := by
  obtain ⟨a1, a2, a3, a4, a5⟩ := hw
  unfold W1 at a1
  have o : ∀ j, j < 32 → j ≠ 11 → j ≠ 13 → dWai V i r j = V j := fun j h1 h2 h3 => dWai_o h2 h3 (by omega)
  have p : ∀ j, 72 ≤ j → dWai V i r j = V j := fun j h1 => dWai_o (by omega) (by omega) (by omega)
  refine ⟨?_, ?_, ?_, ?_, ?_⟩
  · unfold W1
    rw [o 1 (by decide) (by decide) (by decide), o 2 (by decide) (by decide) (by decide), o 15 (by decide) (by decide) (by decide)]
    exact a1
  · unfold W2 at a2 ⊢
    rw [o 3 (by decide) (by decide) (by decide), o 4 (by decide) (by decide) (by decide), o 5 (by decide) (by decide) (by decide), o 6 (by decide) (by decide) (by decide), o 7 (by decide) (by decide) (by decide), o 8 (by decide) (by decide) (by decide), o 9 (by decide) (by decide) (by decide), o 10 (by decide) (by decide) (by decide)]
    exact a2
  · intro c hc
    rw [o 2 (by decide) (by decide) (by decide)] at hc
    rw [o 1 (by decide) (by decide) (by decide), p _ (by omega), p _ (by omega), p _ (by omega), p _ (by omega), p _ (by omega)]
    exact a3 c hc
  · intro c hc
    rw [o 1 (by decide) (by decide) (by decide)] at hc
    rw [o 0 (by decide) (by decide) (by decide), dWai_o (by omega) (by omega) (by omega)]
    have h6 := a4 c hc
    by_cases hci : c = i
    · subst hci
      have h1 := dWai_1 (V := V) (i := c) (r := r)
      have h3 := dWai_3 (V := V) (i := c) (r := r)
      omega
    · rw [dWai_o (by omega) (by omega) (by omega), dWai_o (by omega) (by omega) (by omega)]
      omega
  · unfold W5 at a5 ⊢
    rw [o 0 (by decide) (by decide) (by decide)]
    have := dWai_11 (V := V) (i := i) (r := r)
    omega
/-- all crews paint -/
def dPA (V : Nat → Nat) : Nat → (Nat → Nat)
  | 0 => V
  | n + 1 => if pntd (dPA V n) n = true then dPnt (dPA V n) n else dPA V n
theorem dPA_o {j : Nat} : ∀ n, j ≠ 11 → j ≠ 12 → (j < 72 ∨ 72 + 8 * n ≤ j) → dPA V n j = V j
  | 0, _, _, _ => rfl
  | n + 1, h1, h2, h3 => by
    rw [dPA]
    split
    · rw [dPnt_o h1 h2 (by omega)]; exact dPA_o n h1 h2 (by omega)
    · exact dPA_o n h1 h2 (by omega)
theorem WF.pa (hw : WF m V) : ∀ n, n ≤ V 2 → WF m (dPA V n)
  | 0, _ => hw
  | n + 1, h => by
    rw [dPA]
    have ih := hw.pa n (by omega)
    split
    · exact ih.pnt (by rw [dPA_o n (by decide) (by decide) (by omega)]; omega)
    · exact ih
/-- those that were open wear; those that are closed count a day -/
def dWA1 (o : Nat → Bool) (W : Nat → Nat) (n : Nat) : Nat → Nat := if o n = true then dWea W n else W
def dWA (o : Nat → Bool) (V : Nat → Nat) : Nat → (Nat → Nat)
  | 0 => V
  | n + 1 => upN (dWA1 o (dWA o V n) n) (72 + 8 * n + 6) (dWA1 o (dWA o V n) n (72 + 8 * n + 6) + (if opn (dWA1 o (dWA o V n) n) n = true then 0 else 1))
theorem dWA1_o {o : Nat → Bool} {n j : Nat} (h : j ≠ 72 + 8 * n + 3) : dWA1 o V n j = V j := by
  unfold dWA1
  split
  · exact dWea_o h
  · rfl
theorem dWA_o {o : Nat → Bool} {j : Nat} : ∀ n, (j < 72 ∨ 72 + 8 * n ≤ j) → dWA o V n j = V j
  | 0, _ => rfl
  | n + 1, h => by
    rw [dWA, upN_n (by omega), dWA1_o (by omega)]
    exact dWA_o n (by omega)
theorem WF.wa1 (hw : WF m V) {o : Nat → Bool} {n : Nat} (h : n < V 2) : WF m (dWA1 o V n) := by
  unfold dWA1
  split
  · exact hw.wea h
  · exact hw
theorem WF.wa (hw : WF m V) (o : Nat → Bool) : ∀ n, n ≤ V 2 → WF m (dWA o V n)
  | 0, _ => hw
  | n + 1, h => by
    rw [dWA]
    have ih := hw.wa o n (by omega)
    have e : dWA o V n 2 = V 2 := dWA_o n (by omega)
    exact (ih.wa1 (by omega)).clo (by rw [dWA1_o (by omega)]; omega)
def bt (R i : Nat) : Bool := Nat.beq (R / 2 ^ i % 2) 1
theorem bt_i {R i : Nat} (hR : R < 2 ^ 31) (hi : i < 32) : (nI R >>> (nI i &&& 31)) &&& nI 1 = bI (bt R i) := by
  have h1 : R / 2 ^ i < 2 ^ 31 := Nat.lt_of_le_of_lt (Nat.div_le_self _ _) hR
  rw [nI_shr hR hi, nI_and h1 (by decide), Nat.and_one_is_mod]
  unfold bt bI
  have h2 : R / 2 ^ i % 2 < 2 := Nat.mod_lt _ (by decide)
  rcases Nat.lt_or_ge (R / 2 ^ i % 2) 1 with h3 | h3
  · rw [show R / 2 ^ i % 2 = 0 by omega]
  · rw [show R / 2 ^ i % 2 = 1 by omega]
/-- the islands from 1 on wait, or don't -/
def dIA (V : Nat → Nat) (R : Nat) : Nat → (Nat → Nat)
  | 0 => V
  | n + 1 => if n = 0 then V else dWai (dIA V R n) n (bt R n)
def cIA (V : Nat → Nat) (R : Nat) : Nat → Nat
  | 0 => 0
  | n + 1 => if n = 0 then 0 else cIA V R n + cWai (dIA V R n) n (bt R n)
theorem cIA_le {R : Nat} : ∀ n, cIA V R n ≤ n
  | 0 => Nat.le_refl _
  | n + 1 => by
    rw [cIA]
    have ih := cIA_le (R := R) n
    have : cWai (dIA V R n) n (bt R n) ≤ 1 := by unfold cWai; repeat' split
                                                 all_goals omega
    split <;> omega
theorem dIA_o {R j : Nat} : ∀ n, j ≠ 11 → j ≠ 13 → (j < 32 ∨ 32 + 5 * n ≤ j) → dIA V R n j = V j
  | 0, _, _, _ => rfl
  | n + 1, h1, h2, h3 => by
    rw [dIA]
    split
    · rfl
    · rw [dWai_o h1 h2 (by omega)]; exact dIA_o n h1 h2 (by omega)
theorem WF.ia (hw : WF m V) (R : Nat) : ∀ n, n ≤ V 1 → WL m n (dIA V R n)
  | 0, _ => hw.wl 0
  | n + 1, h => by
    rw [dIA]
    split
    · exact hw.wl _
    · exact (hw.ia R n (by omega)).wai (by rw [dIA_o n (by decide) (by decide) (by omega)]; omega) _
/-- the book -/
def shN (V : Nat → Nat) : Nat → (Nat → Nat)
  | 0 => V
  | n + 1 => upN (shN V n) (31 - n) (shN V n (29 - n))
theorem shN_o {j : Nat} : ∀ n, n ≤ 14 → (j < 32 - n ∨ 32 ≤ j) → shN V n j = V j
  | 0, _, _ => rfl
  | n + 1, h, h2 => by rw [shN, upN_n (by omega)]; exact shN_o n (by omega) (by omega)
theorem shN_v {j : Nat} : ∀ n, n ≤ 14 → 32 - n ≤ j → j < 32 → shN V n j = V (j - 2)
  | 0, _, h1, h2 => by omega
  | n + 1, h, h1, h2 => by
    rw [shN]
    by_cases hj : j = 31 - n
    · subst hj
      rw [upN_s, shN_o n (by omega) (by omega)]
      exact congrArg V (by omega)
    · rw [upN_n hj]; exact shN_v n (by omega) (by omega) h2
def dNot (V : Nat → Nat) (c : Nat) : Nat → Nat := upN (upN (upN (shN V 14) 16 (V 0)) 17 c) 15 (if 8 ≤ V 15 then V 15 else V 15 + 1)
theorem dNot_o {c j : Nat} (h : j < 15 ∨ 32 ≤ j) : dNot V c j = V j := by
  unfold dNot
  simp (disch := omega) only [upN_n, upN_s]
  exact shN_o 14 (by omega) (by omega)
end REF4
