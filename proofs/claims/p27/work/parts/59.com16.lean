/-! the component's islands wait -/
section COM16
variable {E : AEnv} {σ τ : ASt} {B : Nat} {U U' : Nat → Nat → Int32} {V W : Nat → Nat} {m n t : Nat} {Q : Option Value → ASt → Prop} {K : Int32 → ASt → Prop} {KV : ASt → Prop}
theorem WL.w1 {k : Nat} (hw : WL m k V) : V 1 ≤ 8 ∧ V 15 ≤ 8 := by
  have h1 := hw.1
  unfold W1 at h1
  omega
theorem c_fer (H : MI σ) (hB : isB B) {i : Nat} (hw : WL m i V) (R : Rel U V) (hi : i < V 1) (hf : V 6 = 1 ∧ V (32 + 5 * i + 0) ≤ V 11) (hK : ∀ U', Rel U' (dWai V i false) → KV (bS σ B U')) : cV E 33 [.ref B, .ref (B + 7 + i)] (bS σ B U) KV := by
  have h1 := hw.1
  unfold W1 at h1
  have ri := R.2.2.2.1 i hi
  have rg := R.1
  unfold RG at rg
  refine sg33_0 ⟨shS H hB, shI H hB (by omega), shS H hB, ?_⟩
  rw [bS_get0, gIl (by omega), rg.2.2.2.1, ri.1, pk_sub hf.2]
  refine nw_e bS_put0 ⟨shS H hB, shI H hB (by omega), shS H hB, ?_⟩
  rw [bS_get0, gIl (by omega), upU_k (by decide), upU_c (by omega), rg.2.2.2.2.2.1, ri.1, nI_add]
  refine nw_e bS_put0 ⟨shI H hB (by omega), shI H hB (by omega), ?_⟩
  rw [gIl (by omega), upU_c (by omega), upU_c (by omega), ri.2.2.2.2, nI_add]
  refine nw_e (wIl (by omega)) ⟨shI H hB (by omega), nw_e (wIl (by omega)) (hK _ ?_)⟩
  have e : dWai V i false = upN (upN (upN (upN V 11 (V 11 - V (32 + 5 * i + 0))) 13 (V 13 + V (32 + 5 * i + 0))) (32 + 5 * i + 4) (V (32 + 5 * i + 4) + 1)) (32 + 5 * i + 1) 0 := by
    unfold dWai
    rw [if_neg ff, if_pos hf]
  rw [e]
  refine R.isl (i := i) ?_ (fun c k h1 h2 => ?_) (fun j _ _ _ _ _ h => ?_) ?_ (by omega) hw.w1
  · unfold RG
    simp (disch := omega) only [upN_n, upN_s]
    simp (disch := omega) only [upU_s, upU_k, upU_c]
    exact ⟨rg.1, rg.2.1, rg.2.2.1, trivial, rg.2.2.2.2.1, trivial, rg.2.2.2.2.2.2⟩
  · simp (disch := omega) only [upU_s, upU_k, upU_c]
  · simp (disch := omega) only [upN_n, upN_s]
  · unfold RI at ri ⊢
    simp (disch := omega) only [upN_n, upN_s]
    simp (disch := omega) only [upU_s, upU_k, upU_c]
    exact ⟨ri.1, trivial, ri.2.2.1, ri.2.2.2.1, trivial⟩
theorem c_wtr (H : MI σ) (hB : isB B) {i : Nat} (hw : WL m i V) (R : Rel U V) (hi : i < V 1) (hK : ∀ U', Rel U' (dWai V i true) → KV (bS σ B U')) : nw (wrI (bS σ B U) (B + 7 + i) 1 (nI 0)) KV := by
  have h1 := hw.1
  unfold W1 at h1
  have ri := R.2.2.2.1 i hi
  refine nw_e (wIl (by omega)) (hK _ ?_)
  have e : dWai V i true = upN V (32 + 5 * i + 1) 0 := by
    unfold dWai
    rw [if_pos rfl]
  rw [e]
  refine R.isl (i := i) (R.1.keep (fun k => ?_) ?_ ?_ ?_ ?_ ?_ ?_ ?_) (fun c k h1 h2 => ?_) (fun j _ _ _ _ _ h => ?_) ?_ (by omega) hw.w1
  · simp (disch := omega) only [upU_s, upU_k, upU_c]
  · simp (disch := omega) only [upN_n, upN_s]
  · simp (disch := omega) only [upN_n, upN_s]
  · simp (disch := omega) only [upN_n, upN_s]
  · simp (disch := omega) only [upN_n, upN_s]
  · simp (disch := omega) only [upN_n, upN_s]
  · simp (disch := omega) only [upN_n, upN_s]
  · simp (disch := omega) only [upN_n, upN_s]
  · simp (disch := omega) only [upU_s, upU_k, upU_c]
  · simp (disch := omega) only [upN_n, upN_s]
  · unfold RI at ri ⊢
    simp (disch := omega) only [upN_n, upN_s]
    simp (disch := omega) only [upU_s, upU_k, upU_c]
    exact ⟨ri.1, trivial, ri.2.2.1, ri.2.2.2.1, ri.2.2.2.2⟩
theorem c_waL (H : MI σ) (hB : isB B) (hw : WF m V) {S : Nat} (hS : S < 2 ^ 31) (hK : ∀ U', Rel U' (dIA V S (V 1)) → Q (some (.int (nI (cIA V S (V 1))))) (bS σ B U')) :
    ∀ (d k : Nat) (U : Nat → Nat → Int32), 1 ≤ k → k + d = V 1 → Rel U (dIA V S k) → wp E 32 11 [.ref B, .int (nI S), .int (nI (cIA V S k)), .int (nI k)] [] (bS σ B U) Q := by
  have h1 := hw.1
  unfold W1 at h1
  intro d
  induction d with
  | zero =>
    intro k U hk0 hk R
    obtain rfl : k = V 1 := by omega
    refine sg32_11 ⟨shS H hB, fun _ => hK U R, fun h => absurd ?_ h⟩
    rw [bS_get0, R.1.1, dIA_o _ (by decide) (by decide) (by omega)]
    exact nI_le (Nat.le_refl _) (by omega)
  | succ d ih =>
    intro k U hk0 hk R
    have nx := fun U' => ih (k + 1) U' (by omega) (by omega)
    rw [dIA, cIA, if_neg (by omega), if_neg (by omega)] at nx
    have hL := hw.ia S k (by omega)
    have e1 : dIA V S k 1 = V 1 := dIA_o k (by decide) (by decide) (by omega)
    generalize dIA V S k = W at R nx hL e1
    generalize cIA V S k = c at nx ⊢
    have h2 := hL.2.1
    unfold W2 at h2
    have h5 := hL.2.2.2.2
    unfold W5 at h5
    have h4 := hL.2.2.2.1 k (by omega)
    have ri := R.2.2.2.1 k (by omega)
    have e6 := nI_eq (a := W 6) (b := 1) (by omega) (by decide)
    have ep := nI_ltI (a := W 11) (b := W (32 + 5 * k + 0)) (by omega) (by omega)
    have alone : bt S k = false → ¬ (W 6 = 1 ∧ W (32 + 5 * k + 0) ≤ W 11) → (sh (bS σ B U) B 3 11 ∧ ∃ r8, rf (bS σ B U) B 2 r8 ∧ ∃ n9, sh (bS σ B U) r8 10 n9 ∧ vp_in (nI 4) n9 ∧ sh (bS σ B U) (B + 7 + k) 2 5 ∧ cI E 17 [.ref (B + 7 + k), .int (gI (bS σ B U) r8 4)] (bS σ B U) (fun x11 s10 =>
        (x11 = (nI 0) → wp E 32 11 [.ref B, .int (nI S), .int (nI c), .int (nI k + (nI 1))] [] s10 Q) ∧
        (¬ x11 = (nI 0) → wp E 32 11 [.ref B, .int (nI S), .int (nI c + (nI 1)), .int (nI k + (nI 1))] [] s10 Q))) := by
      intro hb hno
      rw [hb] at nx
      refine ⟨shS H hB, _, rS2 H hB, 8, shSe H hB, vi (by decide) (by decide), shI H hB (by omega), ?_⟩
      rw [bS_get (by decide), R.2.1 4 (by decide)]
      have hc : cWai W k false = 0 ∨ cWai W k false = 1 := by
        unfold cWai
        repeat' split
        all_goals omega
      refine c_wta H hB hL R (by omega) hno fun U' r => ⟨fun g => ?_, fun g => ?_⟩
      · have hc0 : cWai W k false = 0 := (nI_eq (by omega) (by decide)).mp g
        rw [hc0] at nx
        rw [nI_add]; exact nx U' r
      · have hc1 : cWai W k false = 1 := by
          rcases hc with hc | hc
          · exact absurd (congrArg nI hc) g
          · exact hc
        rw [hc1] at nx
        rw [nI_add, nI_add]; exact nx U' r
    refine sg32_11 ⟨shS H hB, fun h => absurd h ?_, fun _ => ⟨shS H hB, _, rS0 H hB, 8, _, shIA H hB, vi (by omega) (by omega), rIAc H hB (by omega), c_hol hS (by omega) ⟨fun g => ⟨shS H hB, _, rS2 H hB, 8, shSe H hB, vi (by decide) (by decide), ?_⟩, fun g => ⟨shI H hB (by omega), ?_⟩⟩⟩⟩
    · rw [bS_get0, R.1.1, e1]
      exact nI_ge (by omega) (by omega)
    · have hb := (bI_0 _).mp g
      rw [bS_get (by decide), R.2.1 3 (by decide)]
      refine ⟨fun g2 => alone hb fun z => g2 (e6.mpr z.1), fun g2 => ⟨shS H hB, shI H hB (by omega), ?_⟩⟩
      rw [bS_get0, gIl (by omega), R.1.2.2.2.1, ri.1]
      refine ⟨fun g3 => alone hb fun z => ?_, fun g3 => ⟨shS H hB, ?_⟩⟩
      · have := ep.mp g3
        omega
      · have hf : W 6 = 1 ∧ W (32 + 5 * k + 0) ≤ W 11 := ⟨e6.mp (Classical.not_not.mp g2), by
          have : ¬ W 11 < W (32 + 5 * k + 0) := fun z => g3 (ep.mpr z)
          omega⟩
        have hc : cWai W k false = 0 := by
          unfold cWai
          rw [if_neg ff, if_pos hf]
        rw [hb, hc] at nx
        refine c_fer H hB hL R (by omega) hf fun U' r => ?_
        rw [nI_add]; exact nx U' r
    · have hb := bI_1 g
      have hc : cWai W k true = 0 := by
        unfold cWai
        rw [if_pos rfl]
      rw [hb, hc] at nx
      refine c_wtr H hB hL R (by omega) fun U' r => ?_
      rw [nI_add]; exact nx U' r
theorem c_waA (H : MI σ) (hB : isB B) (hw : WF m V) (R : Rel U V) (hK : ∀ U', Rel U' (dIA V (reachV V 0 99) (V 1)) → K (nI (cIA V (reachV V 0 99) (V 1))) (bS σ B U')) : cI E 32 [.ref B] (bS σ B U) K := by
  have h1 := hw.1
  unfold W1 at h1
  have hr := reach_lt hw.ends (i := 0) (wo := 99) (by decide)
  exact sg32_0 ⟨shS H hB, c_rea H hB hw R (by decide) woI_m (c_waL H hB hw (by omega) hK (V 1 - 1) 1 U (by omega) (by omega) R)⟩
end COM16
