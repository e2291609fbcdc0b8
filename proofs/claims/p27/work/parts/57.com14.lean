/-! the component's crews paint -/
section COM14
variable {E : AEnv} {σ τ : ASt} {B : Nat} {U U' : Nat → Nat → Int32} {V W : Nat → Nat} {m n t : Nat} {Q : Option Value → ASt → Prop} {K : Int32 → ASt → Prop} {KV : ASt → Prop}
/-- only the coins and the days differ -/
theorem Rel.coi (R : Rel U V) (hg : RG U' W) (hU : ∀ c k, c ≠ 0 → U' c k = U c k) (hW : ∀ j, j ≠ 0 → j ≠ 11 → j ≠ 12 → j ≠ 13 → j ≠ 14 → W j = V j) : Rel U' W := by
  obtain ⟨_, r2, r3, r4, r5⟩ := R
  have w15 := hW 15 (by omega) (by omega) (by omega) (by omega) (by omega)
  refine ⟨hg, fun s hs => ?_, ⟨?_, fun a ha => ?_⟩, fun i hi => ?_, fun c hc => ?_⟩
  · rw [hU 3 s (by omega), hW _ (by omega) (by omega) (by omega) (by omega) (by omega)]
    exact r2 s hs
  · rw [hU 4 2 (by omega), w15]
    exact r3.1
  · rw [w15] at ha ⊢
    rw [hU 5 _ (by omega), hU 6 _ (by omega), hW (16 + 2 * a) (by omega) (by omega) (by omega) (by omega) (by omega), hW (17 + 2 * a) (by omega) (by omega) (by omega) (by omega) (by omega)]
    exact r3.2 a ha
  · rw [hW 1 (by omega) (by omega) (by omega) (by omega) (by omega)] at hi
    have := r4 i hi
    unfold RI at this ⊢
    rw [hU _ 0 (by omega), hU _ 1 (by omega), hU _ 2 (by omega), hU _ 3 (by omega), hU _ 4 (by omega), hW (32 + 5 * i + 0) (by omega) (by omega) (by omega) (by omega) (by omega), hW (32 + 5 * i + 1) (by omega) (by omega) (by omega) (by omega) (by omega), hW (32 + 5 * i + 2) (by omega) (by omega) (by omega) (by omega) (by omega), hW (32 + 5 * i + 3) (by omega) (by omega) (by omega) (by omega) (by omega), hW (32 + 5 * i + 4) (by omega) (by omega) (by omega) (by omega) (by omega)]
    exact this
  · rw [hW 2 (by omega) (by omega) (by omega) (by omega) (by omega)] at hc
    have := r5 c hc
    have w : ∀ k, k < 8 → W (72 + 8 * c + k) = V (72 + 8 * c + k) := fun k hk => hW _ (by omega) (by omega) (by omega) (by omega) (by omega)
    have ee : endsM W c = endsM V c := by unfold endsM; rw [w 0 (by omega), w 1 (by omega)]
    have es : stOf W c = stOf V c := by unfold stOf pntd; rw [w 4 (by omega), w 3 (by omega)]
    unfold RB at this ⊢
    rw [ee, es, hU _ 0 (by omega), hU _ 1 (by omega), hU _ 2 (by omega), hU _ 3 (by omega), hU _ 4 (by omega), hU _ 5 (by omega), hU _ 6 (by omega), hU _ 7 (by omega), hU _ 8 (by omega), w 0 (by omega), w 1 (by omega), w 2 (by omega), w 3 (by omega), w 5 (by omega), w 6 (by omega), w 7 (by omega)]
    exact this
theorem upN_up {k x y : Nat} : upN (upN V k x) k y = upN V k y := by
  funext j
  unfold upN
  by_cases h : j = k
  · rw [if_pos h, if_pos h]
  · rw [if_neg h, if_neg h, if_neg h]
def dCoi (V : Nat → Nat) : Nat → Nat := upN (upN V 11 (V 11 - V 5)) 12 (V 12 + V 5)
theorem dPnt_is {b : Nat} (h : V 5 ≤ V 11) : dPnt V b = if V (72 + 8 * b + 3) + V 4 < 100 then dMid (dCoi V) b (V 5) (V (72 + 8 * b + 3) + V 4) else dRec (dMid (dCoi V) b (V 5) 100) b := by
  have e : dCoi V (72 + 8 * b + 7) = V (72 + 8 * b + 7) := by unfold dCoi; simp (disch := omega) only [upN_n, upN_s]
  unfold dPnt
  rw [if_pos h]
  dsimp only
  split
  · unfold dMid
    rw [e]
    rfl
  · unfold dRec dMid
    rw [e, upN_up]
    rfl
theorem c_paL (H : MI σ) (hB : isB B) (hw : WF m V) (hK : ∀ U', Rel U' (dPA V (V 2)) → Q none (bS σ B U')) : ∀ (d k : Nat) (U : Nat → Nat → Int32), k + d = V 2 → Rel U (dPA V k) → wp E 30 9 [.ref B, .int (nI (V 5)), .int (nI k)] [] (bS σ B U) Q := by
  have h1 := hw.1
  unfold W1 at h1
  intro d
  induction d with
  | zero =>
    intro k U hk R
    obtain rfl : k = V 2 := by omega
    refine sg30_9 ⟨shS H hB, fun _ => hK U R, fun h => absurd ?_ h⟩
    rw [bS_get0, R.1.2.1, dPA_o _ (by decide) (by decide) (by omega)]
    exact nI_le (Nat.le_refl _) (by omega)
  | succ d ih =>
    intro k U hk R
    have nx := fun U' => ih (k + 1) U' (by omega)
    have hw2 := hw.pa k (by omega)
    have e2 : dPA V k 2 = V 2 := dPA_o _ (by decide) (by decide) (by omega)
    have e4 : dPA V k 4 = V 4 := dPA_o _ (by decide) (by decide) (by omega)
    have e5 : dPA V k 5 = V 5 := dPA_o _ (by decide) (by decide) (by omega)
    rw [dPA] at nx
    generalize dPA V k = W at R nx hw2 e2 e4 e5
    have rb := R.2.2.2.2 k (by omega)
    have h3 := hw2.2.2.1 k (by omega)
    have h22 := hw2.2.1
    unfold W2 at h22
    have h55 := hw2.2.2.2.2
    unfold W5 at h55
    have hs := stOf_lt W k
    have e1 := nI_eq (a := stOf W k) (b := 1) (by omega) (by decide)
    have s1 := st1 (V := W) (b := k)
    have el := nI_ltI (a := W 11) (b := V 5) (by omega) (by omega)
    refine sg30_9 ⟨shS H hB, fun h => absurd h ?_, fun _ => ⟨shS H hB, _, rS1 H hB, 14, _, shBA H hB, vi (by omega) (by omega), rBAc H hB (by omega), shB H hB (by omega), ?_⟩⟩
    · rw [bS_get0, R.1.2.1, e2]
      exact nI_ge (by omega) (by omega)
    · rw [gB (by omega), rb.2.2.2.2.2.1]
      refine ⟨fun g => ?_, fun g => ⟨shS H hB, ?_⟩⟩
      · rw [if_neg (fun z => g (e1.mpr (s1.mpr z)))] at nx
        rw [nI_add]; exact nx U R
      · have hp := s1.mp (e1.mp (Classical.not_not.mp g))
        rw [if_pos hp] at nx
        rw [bS_get0, R.1.2.2.2.1]
        refine ⟨fun g2 => ?_, fun g2 => ⟨shS H hB, shS H hB, ?_⟩⟩
        · have := el.mp g2
          have e : dPnt W k = W := by unfold dPnt; rw [if_neg (by omega)]
          rw [e] at nx
          rw [nI_add]; exact nx U R
        · have hle : W 5 ≤ W 11 := by
            have : ¬ W 11 < V 5 := fun z => g2 (el.mpr z)
            omega
          rw [dPnt_is hle] at nx
          rw [pk_sub (by omega)]
          refine nw_e bS_put0 ⟨shS H hB, shS H hB, ?_⟩
          rw [bS_get0, upU_k (by decide), R.1.2.2.2.2.1, nI_add]
          refine nw_e bS_put0 ⟨shS H hB, _, rS1 H hB, 14, _, shBA H hB, vi (by omega) (by omega), rBAc H hB (by omega), shS H hB, _, rS2 H hB, 8, shSe H hB, vi (by decide) (by decide), shB H hB (by omega), ?_⟩
          have R2 : Rel (upU (upU U 0 7 (nI (W 11 - V 5))) 0 8 (nI (W 12 + V 5))) (dCoi W) := by
            refine R.coi ?_ (fun c k h => ?_) (fun j h0 h11 h12 h13 h14 => ?_)
            · have rg := R.1
              unfold RG at rg ⊢
              unfold dCoi
              simp (disch := omega) only [upN_n, upN_s]
              simp (disch := omega) only [upU_s, upU_k, upU_c]
              rw [e5]
              exact ⟨rg.1, rg.2.1, rg.2.2.1, rfl, rfl, rg.2.2.2.2.2.1, rg.2.2.2.2.2.2⟩
            · simp (disch := omega) only [upU_s, upU_k, upU_c]
            · unfold dCoi; simp (disch := omega) only [upN_n, upN_s]
          have hwc : WF m (dCoi W) := by
            refine hw2.brg (b := k) (fun j a b c => ?_) ?_ (fun j a b => ?_) (fun _ => ?_) (fun _ => ?_)
            · unfold dCoi; simp (disch := omega) only [upN_n, upN_s]
            · unfold dCoi; simp (disch := omega) only [upN_n, upN_s]; omega
            · unfold dCoi; simp (disch := omega) only [upN_n, upN_s]
            · unfold dCoi; simp (disch := omega) only [upN_n, upN_s]; omega
            · unfold dCoi; simp (disch := omega) only [upN_n, upN_s]; omega
          have c2 : dCoi W 2 = W 2 := by unfold dCoi; simp (disch := omega) only [upN_n, upN_s]
          have c3 : dCoi W (72 + 8 * k + 3) = W (72 + 8 * k + 3) := by unfold dCoi; simp (disch := omega) only [upN_n, upN_s]
          have c4 : dCoi W (72 + 8 * k + 4) = W (72 + 8 * k + 4) := by unfold dCoi; simp (disch := omega) only [upN_n, upN_s]
          have cs : dCoi W (3 + 1) = W 4 := by unfold dCoi; simp (disch := omega) only [upN_n, upN_s]
          rw [bS_get (by decide), R2.2.1 1 (by decide), cs, e4, nI_add]
          rw [e4, e5] at nx
          refine c_pai H hB hwc R2 (by omega) (c4.trans (beq_iff'.mp hp)) (by omega) (fun g3 U' r => ?_) (fun g3 U' r => ?_)
          · rw [c3] at g3 r
            rw [if_pos g3] at nx
            exact nx U' r
          · rw [c3] at g3
            rw [if_neg g3] at nx
            exact nx U' r
theorem c_paA (H : MI σ) (hB : isB B) (hw : WF m V) (R : Rel U V) (hK : ∀ U', Rel U' (dPA V (V 2)) → KV (bS σ B U')) : cV E 30 [.ref B] (bS σ B U) KV := by
  refine sg30_0 ⟨shS H hB, _, rS2 H hB, 8, shSe H hB, vi (by decide) (by decide), ?_⟩
  rw [bS_get (by decide), R.2.1 2 (by decide)]
  exact c_paL H hB hw hK (V 2) 0 U (by omega) R
end COM14
