/-! the component's copies -/
section COM19
variable {E : AEnv} {σ τ : ASt} {A B : Nat} {U U' : Nat → Nat → Int32} {V W : Nat → Nat} {m n t : Nat} {Q : Option Value → ASt → Prop} {K : Int32 → ASt → Prop} {KV : ASt → Prop}
def blk (σ : ASt) (B : Nat) : Nat → Nat → Int32 := fun c => if c < 29 then σ.2.1 (B + c) else fun _ => 0
theorem blk_g {c k : Nat} (h : c < 29) : blk σ B c k = gI σ (B + c) k := by
  unfold blk
  rw [if_pos h]
  rfl
theorem isB_dis (hA : isB A) (hB : isB B) (h : A ≠ B) {c : Nat} (hc : c < 29) : ¬ (A ≤ B + c ∧ B + c < A + 29) := by
  unfold isB at hA hB
  omega
theorem gS (hA : isB A) (hB : isB B) (h : A ≠ B) {c k : Nat} (hc : c < 29) : gI (bS σ A U) (B + c) k = blk σ B c k := (bS_ne (isB_dis hA hB h hc)).trans (blk_g hc).symm
theorem gS0 (hA : isB A) (hB : isB B) (h : A ≠ B) {k : Nat} : gI (bS σ A U) B k = blk σ B 0 k := gS hA hB h (c := 0) (by decide)
theorem gSI (hA : isB A) (hB : isB B) (h : A ≠ B) {i k : Nat} (hc : i < 8) : gI (bS σ A U) (B + 7 + i) k = blk σ B (7 + i) k := by rw [Nat.add_assoc]; exact gS hA hB h (by omega)
theorem gSB (hA : isB A) (hB : isB B) (h : A ≠ B) {i k : Nat} (hc : i < 14) : gI (bS σ A U) (B + 15 + i) k = blk σ B (15 + i) k := by rw [Nat.add_assoc]; exact gS hA hB h (by omega)
theorem c_cpI (H : MI σ) (hA : isB A) (hB : isB B) (hne : A ≠ B) {i : Nat} (hi : i < 8) (hK : ∀ U', (∀ c k, c ≠ 7 + i → U' c k = U c k) → (∀ k, k < 5 → U' (7 + i) k = blk σ B (7 + i) k) → KV (bS σ A U')) : cV E 16 [.ref (A + 7 + i), .ref (B + 7 + i)] (bS σ A U) KV := by
  have g : ∀ X k, gI (bS σ A X) (B + 7 + i) k = blk σ B (7 + i) k := fun X k => gSI hA hB hne hi
  refine sg16_0 ⟨shI H hB hi, shI H hA hi, nw_e (wIl hi) ⟨shI H hB hi, shI H hA hi, nw_e (wIl hi) ⟨shI H hB hi, shI H hA hi, nw_e (wIl hi) ⟨shI H hB hi, shI H hA hi, nw_e (wIl hi) ⟨shI H hB hi, shI H hA hi, nw_e (wIl hi) (hK _ (fun c k h => ?_) fun k hk => ?_)⟩⟩⟩⟩⟩
  · simp (disch := omega) only [upU_s, upU_k, upU_c]
  · rw [g, g, g, g, g]
    have hc : k = 0 ∨ k = 1 ∨ k = 2 ∨ k = 3 ∨ k = 4 := by omega
    rcases hc with rfl | rfl | rfl | rfl | rfl
    · simp (disch := omega) only [upU_s, upU_k, upU_c]
    · simp (disch := omega) only [upU_s, upU_k, upU_c]
    · simp (disch := omega) only [upU_s, upU_k, upU_c]
    · simp (disch := omega) only [upU_s, upU_k, upU_c]
    · simp (disch := omega) only [upU_s, upU_k, upU_c]
theorem c_cpG (H : MI σ) (hA : isB A) (hB : isB B) (hne : A ≠ B) {i : Nat} (hi : i < 14) (hK : ∀ U', (∀ c k, c ≠ 15 + i → U' c k = U c k) → (∀ k, k < 9 → U' (15 + i) k = blk σ B (15 + i) k) → KV (bS σ A U')) : cV E 8 [.ref (A + 15 + i), .ref (B + 15 + i)] (bS σ A U) KV := by
  have g : ∀ X k, gI (bS σ A X) (B + 15 + i) k = blk σ B (15 + i) k := fun X k => gSB hA hB hne hi
  refine sg8_0 ⟨shB H hB hi, shB H hA hi, nw_e (wB hi) ⟨shB H hB hi, shB H hA hi, nw_e (wB hi) ⟨shB H hB hi, shB H hA hi, nw_e (wB hi) ⟨shB H hB hi, shB H hA hi, nw_e (wB hi) ⟨shB H hB hi, shB H hA hi, nw_e (wB hi) ⟨shB H hB hi, shB H hA hi, nw_e (wB hi) ⟨shB H hB hi, shB H hA hi, nw_e (wB hi) ⟨shB H hB hi, shB H hA hi, nw_e (wB hi) ⟨shB H hB hi, shB H hA hi, nw_e (wB hi) (hK _ (fun c k h => ?_) fun k hk => ?_)⟩⟩⟩⟩⟩⟩⟩⟩⟩
  · simp (disch := omega) only [upU_s, upU_k, upU_c]
  · rw [g, g, g, g, g, g, g, g, g]
    have hc : k = 0 ∨ k = 1 ∨ k = 2 ∨ k = 3 ∨ k = 4 ∨ k = 5 ∨ k = 6 ∨ k = 7 ∨ k = 8 := by omega
    rcases hc with rfl | rfl | rfl | rfl | rfl | rfl | rfl | rfl | rfl
    · simp (disch := omega) only [upU_s, upU_k, upU_c]
    · simp (disch := omega) only [upU_s, upU_k, upU_c]
    · simp (disch := omega) only [upU_s, upU_k, upU_c]
    · simp (disch := omega) only [upU_s, upU_k, upU_c]
    · simp (disch := omega) only [upU_s, upU_k, upU_c]
    · simp (disch := omega) only [upU_s, upU_k, upU_c]
    · simp (disch := omega) only [upU_s, upU_k, upU_c]
    · simp (disch := omega) only [upU_s, upU_k, upU_c]
    · simp (disch := omega) only [upU_s, upU_k, upU_c]
theorem c_cpBL (H : MI σ) (hA : isB A) (hB : isB B) (hne : A ≠ B) {U0 : Nat → Nat → Int32} (hK : ∀ U', (∀ c k, c ≠ 5 → c ≠ 6 → U' c k = U0 c k) → (∀ s, s < 8 → U' 5 s = blk σ B 5 s ∧ U' 6 s = blk σ B 6 s) → Q none (bS σ A U')) : ∀ (d k : Nat) (U : Nat → Nat → Int32), k + d = 8 → (∀ c k, c ≠ 5 → c ≠ 6 → U c k = U0 c k) → (∀ s, s < k → U 5 s = blk σ B 5 s ∧ U 6 s = blk σ B 6 s) → wp E 1 10 [.ref (A + 4), .ref (B + 4), .int (nI k)] [] (bS σ A U) Q := by
  intro d
  induction d with
  | zero =>
    intro k U hk h1 h2
    obtain rfl : k = 8 := by omega
    exact sg1_10 ⟨fun _ => hK U h1 h2, fun h => absurd (nI_le (by decide) (by decide)) h⟩
  | succ d ih =>
    intro k U hk h1 h2
    refine sg1_10 ⟨fun h => absurd h (nI_ge (by omega) (by omega)), fun _ => ⟨shBk H hA, _, rK0 H hA, shBk H hB, _, rK0 H hB, 8, shD H hB, vi (by omega) (by decide), 8, shD H hA, vi (by omega) (by decide), ?_⟩⟩
    rw [cl _ (by omega), gS hA hB hne (by decide)]
    refine nw_e (bS_put (by decide)) ⟨shBk H hA, _, rK1 H hA, shBk H hB, _, rK1 H hB, 8, shC H hB, vi (by omega) (by decide), 8, shC H hA, vi (by omega) (by decide), ?_⟩
    rw [gS hA hB hne (by decide), nI_add]
    refine nw_e (bS_put (by decide)) (ih (k + 1) _ (by omega) (fun c j a b => ?_) fun s hs => ?_)
    · simp (disch := omega) only [upU_s, upU_k, upU_c]
      exact h1 c j a b
    · by_cases hsk : s = k
      · subst hsk
        simp (disch := omega) only [upU_s, upU_k, upU_c]
        exact ⟨trivial, trivial⟩
      · simp (disch := omega) only [upU_s, upU_k, upU_c]
        exact h2 s (by omega)
theorem c_cpB (H : MI σ) (hA : isB A) (hB : isB B) (hne : A ≠ B) (hK : ∀ U', (∀ c k, c ≠ 4 → c ≠ 5 → c ≠ 6 → U' c k = U c k) → U' 4 2 = blk σ B 4 2 → (∀ s, s < 8 → U' 5 s = blk σ B 5 s ∧ U' 6 s = blk σ B 6 s) → KV (bS σ A U')) : cV E 1 [.ref (A + 4), .ref (B + 4)] (bS σ A U) KV := by
  refine sg1_0 ⟨shBk H hB, shBk H hA, ?_⟩
  rw [gS hA hB hne (by decide)]
  refine nw_e (bS_put (by decide)) (c_cpBL H hA hB hne (U0 := upU U 4 2 (blk σ B 4 2)) (fun U' h1 h2 => hK U' (fun c k a b d => ?_) ?_ h2) 8 0 _ rfl (fun _ _ _ _ => rfl) fun s hs => absurd hs (Nat.not_lt_zero _))
  · rw [h1 c k b d, upU_c a]
  · rw [h1 4 2 (by decide) (by decide), upU_s]
theorem RI.of {i : Nat} (h : RI U V i) (hU : ∀ k, k < 5 → U' (7 + i) k = U (7 + i) k) : RI U' V i := by
  unfold RI at h ⊢
  rw [hU 0 (by decide), hU 1 (by decide), hU 2 (by decide), hU 3 (by decide), hU 4 (by decide)]
  exact h
theorem RB.of {b : Nat} (h : RB U V b) (hU : ∀ k, k < 9 → U' (15 + b) k = U (15 + b) k) : RB U' V b := by
  unfold RB at h ⊢
  rw [hU 0 (by decide), hU 1 (by decide), hU 2 (by decide), hU 3 (by decide), hU 4 (by decide), hU 5 (by decide), hU 6 (by decide), hU 7 (by decide), hU 8 (by decide)]
  exact h
theorem c_cpS (H : MI σ) (hA : isB A) (hB : isB B) (hne : A ≠ B) (hw : WF m V) (R : Rel (blk σ B) V) (hK : ∀ U', Rel U' V → Q none (bS σ A U')) : ∀ (d k : Nat) (U : Nat → Nat → Int32), k + d = 8 → U 0 4 = nI (V 1) → U 0 5 = nI (V 2) → (∀ i, i < V 1 → RI U V i) → (∀ b, b < V 2 → RB U V b) → (∀ s, s < k → U 3 s = nI (V (3 + s))) → wp E 19 80 [.ref A, .ref B, .int (nI k)] [] (bS σ A U) Q := by
  have h1 := hw.1
  unfold W1 at h1
  intro d
  induction d with
  | zero =>
    intro k U hk u4 u5 uI uB u3
    obtain rfl : k = 8 := by omega
    refine sg19_80 ⟨fun _ => ⟨shS H hA, _, rS3 H hA, shS H hB, _, rS3 H hB, shBk H hA, c_cpB H hA hB hne fun U2 p1 p2 p3 => ⟨shS H hB, shS H hA, ?_⟩⟩, fun h => absurd (nI_le (by decide) (by decide)) h⟩
    have g : ∀ X k, gI (bS σ A X) B k = blk σ B 0 k := fun X k => gS0 hA hB hne
    obtain ⟨rg, _, rk, _, _⟩ := R
    unfold RG at rg
    refine nw_e bS_put0 ⟨shS H hB, shS H hA, nw_e bS_put0 ⟨shS H hB, shS H hA, nw_e bS_put0 ⟨shS H hB, shS H hA, nw_e bS_put0 ⟨shS H hB, shS H hA, nw_e bS_put0 (hK _ ?_)⟩⟩⟩⟩
    rw [g, g, g, g, g, rg.2.2.1, rg.2.2.2.1, rg.2.2.2.2.1, rg.2.2.2.2.2.1, rg.2.2.2.2.2.2]
    refine ⟨?_, fun s hs => ?_, ⟨?_, fun a ha => ?_⟩, fun i hi => (uI i hi).of fun k hk => ?_, fun b hb => (uB b hb).of fun k hk => ?_⟩
    · unfold RG
      simp (disch := omega) only [upU_s, upU_k, upU_c]
      rw [p1 _ _ (by decide) (by decide) (by decide), p1 _ _ (by decide) (by decide) (by decide)]
      exact ⟨u4, u5, trivial, trivial, trivial, trivial, trivial⟩
    · simp (disch := omega) only [upU_s, upU_k, upU_c]
      rw [p1 _ _ (by decide) (by decide) (by decide)]
      exact u3 s hs
    · simp (disch := omega) only [upU_s, upU_k, upU_c]
      rw [p2]
      exact rk.1
    · simp (disch := omega) only [upU_s, upU_k, upU_c]
      have q1 := (p3 (V 15 - 1 - a) (by omega)).1
      have q2 := (p3 (V 15 - 1 - a) (by omega)).2
      rw [q1, q2]
      exact rk.2 a ha
    · simp (disch := omega) only [upU_s, upU_k, upU_c]
      exact p1 _ _ (by omega) (by omega) (by omega)
    · simp (disch := omega) only [upU_s, upU_k, upU_c]
      exact p1 _ _ (by omega) (by omega) (by omega)
  | succ d ih =>
    intro k U hk u4 u5 uI uB u3
    refine sg19_80 ⟨fun h => absurd h (nI_ge (by omega) (by omega)), fun _ => ⟨shS H hA, _, rS2 H hA, shS H hB, _, rS2 H hB, 8, shSe H hB, vi (by omega) (by decide), 8, shSe H hA, vi (by omega) (by decide), ?_⟩⟩
    rw [cl _ (by omega), gS hA hB hne (by decide), R.2.1 k (by omega), nI_add]
    refine nw_e (bS_put (by decide)) (ih (k + 1) _ (by omega) ?_ ?_ (fun i hi => (uI i hi).of fun k hk => ?_) (fun b hb => (uB b hb).of fun k hk => ?_) fun s hs => ?_)
    · simp (disch := omega) only [upU_s, upU_k, upU_c]
      exact u4
    · simp (disch := omega) only [upU_s, upU_k, upU_c]
      exact u5
    · simp (disch := omega) only [upU_s, upU_k, upU_c]
    · simp (disch := omega) only [upU_s, upU_k, upU_c]
    · by_cases hsk : s = k
      · subst hsk
        simp (disch := omega) only [upU_s, upU_k, upU_c]
      · simp (disch := omega) only [upU_s, upU_k, upU_c]
        exact u3 s (by omega)
theorem c_cp2 (H : MI σ) (hA : isB A) (hB : isB B) (hne : A ≠ B) (hw : WF m V) (R : Rel (blk σ B) V) (hK : ∀ U', Rel U' V → Q none (bS σ A U')) : ∀ (d k : Nat) (U : Nat → Nat → Int32), k + d = V 2 → U 0 4 = nI (V 1) → U 0 5 = nI (V 2) → (∀ i, i < V 1 → RI U V i) → (∀ b, b < k → RB U V b) → wp E 19 49 [.ref A, .ref B, .int (nI k)] [] (bS σ A U) Q := by
  have h1 := hw.1
  unfold W1 at h1
  intro d
  induction d with
  | zero =>
    intro k U hk u4 u5 uI uB
    obtain rfl : k = V 2 := by omega
    refine sg19_49 ⟨shS H hA, ?_, ?_⟩
    · intro _
      exact c_cpS H hA hB hne hw R hK 8 0 U rfl u4 u5 uI uB fun s hs => absurd hs (Nat.not_lt_zero _)
    · rw [bS_get0, u5]
      exact fun h => absurd (nI_le (Nat.le_refl _) (by omega)) h
  | succ d ih =>
    intro k U hk u4 u5 uI uB
    refine sg19_49 ⟨shS H hA, ?_, ?_⟩
    · rw [bS_get0, u5]
      exact fun h => absurd h (nI_ge (by omega) (by omega))
    · intro _
      refine ⟨shS H hA, _, rS1 H hA, 14, _, shBA H hA, vi (by omega) (by omega), rBAc H hA (by omega), shS H hB, _, rS1 H hB, 14, _, shBA H hB, vi (by omega) (by omega), rBAc H hB (by omega), shB H hA (by omega), c_cpG H hA hB hne (by omega) fun U2 p1 p2 => ?_⟩
      rw [nI_add]
      refine ih (k + 1) U2 (by omega) (by rw [p1 _ _ (by omega)]; exact u4) (by rw [p1 _ _ (by omega)]; exact u5) (fun i hi => (uI i hi).of fun j hj => p1 _ _ (by omega)) fun b hb => ?_
      by_cases hbk : b = k
      · subst hbk
        exact (R.2.2.2.2 b (by omega)).of p2
      · exact (uB b (by omega)).of fun j hj => p1 _ _ (by omega)
theorem c_cp1 (H : MI σ) (hA : isB A) (hB : isB B) (hne : A ≠ B) (hw : WF m V) (R : Rel (blk σ B) V) (hK : ∀ U', Rel U' V → Q none (bS σ A U')) : ∀ (d k : Nat) (U : Nat → Nat → Int32), k + d = V 1 → U 0 4 = nI (V 1) → (∀ i, i < k → RI U V i) → wp E 19 10 [.ref A, .ref B, .int (nI k)] [] (bS σ A U) Q := by
  have h1 := hw.1
  unfold W1 at h1
  have rg := R.1
  unfold RG at rg
  intro d
  induction d with
  | zero =>
    intro k U hk u4 uI
    obtain rfl : k = V 1 := by omega
    refine sg19_10 ⟨shS H hA, ?_, ?_⟩
    · intro _
      refine ⟨shS H hB, shS H hA, ?_⟩
      rw [gS0 hA hB hne, rg.2.1]
      refine nw_e bS_put0 (c_cp2 H hA hB hne hw R hK (V 2) 0 _ (by omega) ?_ ?_ (fun i hi => (uI i hi).of fun j hj => ?_) fun b hb => absurd hb (Nat.not_lt_zero _))
      · simp (disch := omega) only [upU_s, upU_k, upU_c]
        exact u4
      · simp (disch := omega) only [upU_s, upU_k, upU_c]
      · simp (disch := omega) only [upU_s, upU_k, upU_c]
    · rw [bS_get0, u4]
      exact fun h => absurd (nI_le (Nat.le_refl _) (by omega)) h
  | succ d ih =>
    intro k U hk u4 uI
    refine sg19_10 ⟨shS H hA, ?_, ?_⟩
    · rw [bS_get0, u4]
      exact fun h => absurd h (nI_ge (by omega) (by omega))
    · intro _
      refine ⟨shS H hA, _, rS0 H hA, 8, _, shIA H hA, vi (by omega) (by omega), rIAc H hA (by omega), shS H hB, _, rS0 H hB, 8, _, shIA H hB, vi (by omega) (by omega), rIAc H hB (by omega), shI H hA (by omega), c_cpI H hA hB hne (by omega) fun U2 p1 p2 => ?_⟩
      rw [nI_add]
      refine ih (k + 1) U2 (by omega) (by rw [p1 _ _ (by omega)]; exact u4) fun i hi => ?_
      by_cases hik : i = k
      · subst hik
        exact (R.2.2.2.1 i (by omega)).of p2
      · exact (uI i (by omega)).of fun j hj => p1 _ _ (by omega)
theorem c_cpy (H : MI σ) (hA : isB A) (hB : isB B) (hne : A ≠ B) (hw : WF m V) (R : Rel (blk σ B) V) (hK : ∀ U', Rel U' V → KV (bS σ A U')) : cV E 19 [.ref A, .ref B] (bS σ A U) KV := by
  have rg := R.1
  unfold RG at rg
  refine sg19_0 ⟨shS H hB, shS H hA, ?_⟩
  rw [gS0 hA hB hne, rg.1]
  exact nw_e bS_put0 (c_cp1 H hA hB hne hw R hK (V 1) 0 _ (by omega) upU_s fun i hi => absurd hi (Nat.not_lt_zero _))
end COM19
