/-! the component's reasons and its best -/
section COM5
variable {E : AEnv} {σ τ : ASt} {B : Nat} {U : Nat → Nat → Int32} {V : Nat → Nat} {m n t : Nat} {Q : Option Value → ASt → Prop} {K : Int32 → ASt → Prop} {KV : ASt → Prop}
theorem st1 {b : Nat} : stOf V b = 1 ↔ pntd V b = true := by
  unfold stOf
  by_cases h : pntd V b = true
  · rw [if_pos h]; exact ⟨fun _ => h, fun _ => rfl⟩
  · rw [if_neg h]
    refine ⟨fun z => ?_, fun z => absurd z h⟩
    split at z <;> omega
theorem c_rsn (H : MI σ) (hB : isB B) (hw : WF m V) (R : Rel U V) {b : Nat} (hb : b < V 2) (hK : K (nI (rsn V b)) (bS σ B U)) : cI E 36 [.ref B, .int (nI b)] (bS σ B U) K := by
  have h1 := hw.1
  unfold W1 at h1
  have h2 := hw.2.1
  unfold W2 at h2
  have h3 := hw.2.2.1 b hb
  have rb := R.2.2.2.2 b hb
  have hs := stOf_lt V b
  have e1 := nI_eq (a := stOf V b) (b := 1) (by omega) (by decide)
  have e2 := nI_eq (a := V (72 + 8 * b + 3)) (b := 100) (by omega) (by decide)
  have e3 := nI_eq (a := V 3 - pcV V) (b := 0) (by omega) (by decide)
  have hc := cutV_lt hw b
  have e4 := nI_eq (a := cutV V b) (b := 0) (by omega) (by decide)
  have s1 := st1 (V := V) (b := b)
  unfold rsn at hK
  refine sg36_0 ⟨shS H hB, _, rS1 H hB, 14, _, shBA H hB, vi (by omega) (by omega), rBAc H hB (by omega), shB H hB (by omega), ?_⟩
  rw [gB (by omega), rb.2.2.2.2.2.1]
  refine ⟨fun g => ⟨shS H hB, _, rS1 H hB, 14, _, shBA H hB, vi (by omega) (by omega), rBAc H hB (by omega), shB H hB (by omega), ?_⟩, fun g => ?_⟩
  · rw [if_neg (fun z => g (e1.mpr (s1.mpr z)))] at hK
    rw [gB (by omega), rb.2.2.2.2.1]
    refine ⟨fun g2 => ⟨shS H hB, c_fc H hB hw R ⟨fun g3 => ⟨shS H hB, c_los H hB hw R (by omega) ⟨fun g4 => ?_, fun g4 => ?_⟩⟩, fun g3 => ?_⟩⟩, fun g2 => ?_⟩
    · rw [if_neg (fun z => g2 (e2.mpr z)), if_neg (fun z => g3 (e3.mpr (by omega))), if_neg (fun z => g4 (e4.mpr z))] at hK
      exact hK
    · rw [if_neg (fun z => g2 (e2.mpr z)), if_neg (fun z => g3 (e3.mpr (by omega))), if_pos (e4.mp (Classical.not_not.mp g4))] at hK
      exact hK
    · rw [if_neg (fun z => g2 (e2.mpr z)), if_pos (by have := e3.mp (Classical.not_not.mp g3); omega)] at hK
      exact hK
    · rw [if_pos (e2.mp (Classical.not_not.mp g2))] at hK
      exact hK
  · rw [if_pos (s1.mp (e1.mp (Classical.not_not.mp g)))] at hK
    exact hK
theorem rsn0 {b : Nat} : rsn V b = 0 ↔ ¬ pntd V b = true ∧ V (72 + 8 * b + 3) ≠ 100 ∧ ¬ V 3 ≤ pcV V ∧ cutV V b = 0 := by
  unfold rsn
  by_cases h1 : pntd V b = true
  · rw [if_pos h1]; exact ⟨fun z => by omega, fun z => absurd h1 z.1⟩
  rw [if_neg h1]
  by_cases h2 : V (72 + 8 * b + 3) = 100
  · rw [if_pos h2]; exact ⟨fun z => by omega, fun z => absurd h2 z.2.1⟩
  rw [if_neg h2]
  by_cases h3 : V 3 ≤ pcV V
  · rw [if_pos h3]; exact ⟨fun z => by omega, fun z => absurd h3 z.2.2.1⟩
  rw [if_neg h3]
  by_cases h4 : cutV V b = 0
  · rw [if_pos h4]; exact ⟨fun _ => ⟨h1, h2, h3, h4⟩, fun _ => rfl⟩
  · rw [if_neg h4]; exact ⟨fun z => by omega, fun z => absurd z.2.2.2 h4⟩
def lst (V : Nat → Nat) (k : Nat) : Nat := if bsN V k = 99 then V 10 + 1 else V (72 + 8 * bsN V k + 3)
theorem bsN_co : ∀ n, bsN V n ≠ 99 → V (72 + 8 * bsN V n + 3) ≤ V 10
  | 0, h => absurd rfl h
  | n + 1, h => by
    rw [bsN] at h ⊢
    split
    · rename_i h2
      exact h2.1
    · rename_i h2
      rw [if_neg h2] at h
      exact bsN_co n h
theorem bs_cond (hw : WF m V) (hf : pcV V < V 3) {k : Nat} : (V (72 + 8 * k + 3) ≤ V 10 ∧ rsn V k = 0 ∧ (bsN V k = 99 ∨ V (72 + 8 * k + 3) < V (72 + 8 * bsN V k + 3))) ↔ (¬ pntd V k = true ∧ V (72 + 8 * k + 3) < lst V k ∧ cutV V k = 0) := by
  have h2 := hw.2.1
  unfold W2 at h2
  rw [rsn0]
  unfold lst
  by_cases h : bsN V k = 99
  · rw [if_pos h]
    exact ⟨fun z => ⟨z.2.1.1, by omega, z.2.1.2.2.2⟩, fun z => ⟨by omega, ⟨z.1, by omega, by omega, z.2.2⟩, Or.inl h⟩⟩
  · rw [if_neg h]
    have := bsN_co k h
    exact ⟨fun z => ⟨z.2.1.1, z.2.2.elim (fun y => absurd y h) id, z.2.1.2.2.2⟩, fun z => ⟨by omega, ⟨z.1, by omega, by omega, z.2.2⟩, Or.inr z.2.1⟩⟩
theorem c_bsL (H : MI σ) (hB : isB B) (hw : WF m V) (R : Rel U V) (hf : pcV V < V 3) (hK : Q (some (.int (bsI (bsV V)))) (bS σ B U)) : ∀ d k : Nat, k + d = V 2 → wp E 37 33 [.ref B, .int (nI (reachV V 0 99)), .int (bsI (bsN V k)), .int (nI (lst V k)), .int (nI k)] [] (bS σ B U) Q := by
  have h1 := hw.1
  unfold W1 at h1
  have h2 := hw.2.1
  unfold W2 at h2
  intro d
  induction d with
  | zero =>
    intro k hk
    obtain rfl : k = V 2 := by omega
    refine sg37_33 ⟨shS H hB, fun _ => hK, fun h => absurd ?_ h⟩
    rw [bS_get0, R.1.2.1]
    exact nI_le (Nat.le_refl _) (by omega)
  | succ d ih =>
    intro k hk
    have nx := ih (k + 1) (by omega)
    have h3 := hw.2.2.1 k (by omega)
    have rb := R.2.2.2.2 k (by omega)
    have hs := stOf_lt V k
    have e1 := nI_eq (a := stOf V k) (b := 1) (by omega) (by decide)
    have s1 := st1 (V := V) (b := k)
    have bc := bs_cond hw hf (k := k)
    have hlst : lst V k < 2 ^ 31 := by
      unfold lst
      split
      · omega
      · have hl := bsN_lt V k
        have := hw.2.2.1 (bsN V k) (by omega)
        omega
    have el := nI_leI (a := lst V k) (b := V (72 + 8 * k + 3)) hlst (by omega)
    have r1 := reach_lt hw.ends (i := 0) (wo := 99) (by decide)
    have r2 := reach_lt hw.ends (i := 0) (wo := k) (by decide)
    have er := nI_eq (a := reachV V 0 k) (b := reachV V 0 99) (by omega) (by omega)
    have ec := cut0 hw (b := k)
    have keep : ¬ (¬ pntd V k = true ∧ V (72 + 8 * k + 3) < lst V k ∧ cutV V k = 0) → wp E 37 33 [.ref B, .int (nI (reachV V 0 99)), .int (bsI (bsN V k)), .int (nI (lst V k)), .int (nI k + nI 1)] [] (bS σ B U) Q := fun h => by
      have e : bsN V (k + 1) = bsN V k := by rw [bsN, if_neg (fun z => h (bc.mp z))]
      have e2 : lst V (k + 1) = lst V k := by unfold lst; rw [e]
      rw [e, e2] at nx
      rw [nI_add]; exact nx
    refine sg37_33 ⟨shS H hB, fun h => absurd h ?_, fun _ => ⟨shS H hB, _, rS1 H hB, 14, _, shBA H hB, vi (by omega) (by omega), rBAc H hB (by omega), shB H hB (by omega), ?_⟩⟩
    · rw [bS_get0, R.1.2.1]
      exact nI_ge (by omega) (by omega)
    · rw [gB (by omega), rb.2.2.2.2.2.1]
      refine ⟨fun g => keep fun z => z.1 (s1.mp (e1.mp g)), fun g => ⟨shB H hB (by omega), ?_⟩⟩
      rw [gB (by omega), rb.2.2.2.2.1]
      refine ⟨fun g2 => keep fun z => ?_, fun g2 => ⟨shS H hB, c_rea H hB hw R (by decide) (woI_b (by omega)) ⟨fun g3 => keep fun z => g3 (er.mpr (ec.mp z.2.2)), fun g3 => ⟨shB H hB (by omega), ?_⟩⟩⟩⟩
      · have := el.mp g2
        omega
      · have e : bsN V (k + 1) = k := by
          rw [bsN, if_pos (bc.mpr ⟨fun z => g (e1.mpr (s1.mpr z)), ?_, ec.mpr (er.mp (Classical.not_not.mp g3))⟩)]
          have : ¬ lst V k ≤ V (72 + 8 * k + 3) := fun z => g2 (el.mpr z)
          omega
        have e2 : lst V (k + 1) = V (72 + 8 * k + 3) := by
          unfold lst
          rw [e, if_neg (by omega)]
        rw [e, e2] at nx
        unfold bsI at nx
        rw [if_neg (by omega)] at nx
        rw [gB (by omega), rb.2.2.2.2.1, nI_add]
        exact nx
theorem c_bs (H : MI σ) (hB : isB B) (hw : WF m V) (R : Rel U V) (hK : K (bsI (bsV V)) (bS σ B U)) : cI E 37 [.ref B] (bS σ B U) K := by
  have h2 := hw.2.1
  unfold W2 at h2
  have e3 := nI_eq (a := V 3 - pcV V) (b := 0) (by omega) (by decide)
  refine sg37_0 ⟨shS H hB, c_fc H hB hw R ⟨fun g => ⟨shS H hB, c_rea H hB hw R (by decide) woI_m ⟨shS H hB, _, rS2 H hB, 8, shSe H hB, vi (by decide) (by decide), ?_⟩⟩, fun g => ?_⟩⟩
  · rw [bS_get (by decide), R.2.1 7 (by decide), nI_add]
    refine c_bsL H hB hw R ?_ hK (V 2) 0 (by omega)
    have : V 3 - pcV V ≠ 0 := fun z => g (e3.mpr z)
    omega
  · have hz := e3.mp (Classical.not_not.mp g)
    have e : bsV V = 99 := Classical.byContradiction fun h => by
      have := bs_free h
      omega
    rw [e] at hK
    exact hK
end COM5
