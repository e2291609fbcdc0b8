/-! the component's questions about islands -/
section COM2
variable {E : AEnv} {σ τ : ASt} {B : Nat} {U : Nat → Nat → Int32} {V : Nat → Nat} {m n t : Nat} {Q : Option Value → ASt → Prop} {K : Int32 → ASt → Prop} {KV : ASt → Prop}
theorem cut0 (hw : WF m V) {b : Nat} : cutV V b = 0 ↔ reachV V 0 b = reachV V 0 99 := by
  have h1 := hw.1
  unfold W1 at h1
  unfold cutV
  constructor
  · intro h
    refine subM.anti (reach_wo hw.ends (by decide) fun c hc => by omega) fun i hi => ?_
    have h2 : (reachV V 0 99 ^^^ (reachV V 0 99 &&& reachV V 0 b)).testBit i = (0 : Nat).testBit i := by rw [h]
    rw [Nat.testBit_xor, Nat.testBit_and, hi, Nat.zero_testBit] at h2
    cases hq : (reachV V 0 b).testBit i with
    | true => rfl
    | false => rw [hq] at h2; exact absurd h2 (by decide)
  · intro h
    rw [h, Nat.and_self, Nat.xor_self]
theorem c_ndL (H : MI σ) (hB : isB B) (hw : WF m V) (R : Rel U V) (hK : Q (some (.int (nI (setN (isNd V) (V 2))))) (bS σ B U)) : ∀ d k : Nat, k + d = V 2 → wp E 42 11 [.ref B, .int (nI (reachV V 0 99)), .int (nI (setN (isNd V) k)), .int (nI k)] [] (bS σ B U) Q := by
  have h1 := hw.1
  unfold W1 at h1
  intro d
  induction d with
  | zero =>
    intro k hk
    obtain rfl : k = V 2 := by omega
    refine sg42_11 ⟨shS H hB, fun _ => hK, fun h => absurd ?_ h⟩
    rw [bS_get0, R.1.2.1]
    exact nI_le (Nat.le_refl _) (by omega)
  | succ d ih =>
    intro k hk
    have nx := ih (k + 1) (by omega)
    have hs := setN_lt' (isNd V) (n := k) (by omega)
    have h3 := stOf_lt V k
    have hp : 2 ^ k < 2 ^ 14 := Nat.pow_lt_pow_right (by decide) (by omega)
    have e0 := nI_eq (a := stOf V k) (b := 0) (by omega) (by decide)
    have s0 := st0 hw (b := k) (by omega)
    have rb := R.2.2.2.2 k (by omega)
    have r1 := reach_lt hw.ends (i := 0) (wo := 99) (by decide)
    have r2 := reach_lt hw.ends (i := 0) (wo := k) (by decide)
    have er := nI_eq (a := reachV V 0 k) (b := reachV V 0 99) (by omega) (by omega)
    have ec := cut0 hw (b := k)
    rw [setN] at nx
    refine sg42_11 ⟨shS H hB, fun h => absurd h ?_, fun _ => ⟨shS H hB, _, rS1 H hB, 14, _, shBA H hB, vi (by omega) (by omega), rBAc H hB (by omega), shB H hB (by omega), ?_⟩⟩
    · rw [bS_get0, R.1.2.1]
      exact nI_ge (by omega) (by omega)
    · rw [gB (by omega), rb.2.2.2.2.2.1]
      refine ⟨fun h => ?_, fun h => ⟨shS H hB, c_rea H hB hw R (by decide) (woI_b (by omega)) ⟨fun h2 => ?_, fun h2 => ?_⟩⟩⟩
      · have e : opn V k = false := by
          cases hq : opn V k with
          | false => rfl
          | true => exact absurd (e0.mpr (s0.mpr hq)) h
        rw [if_neg (by unfold isNd; rw [e]; exact ff)] at nx
        rw [nI_add]; exact nx
      · rw [if_neg (by unfold isNd; rw [ec.mpr (er.mp h2)]; cases opn V k <;> exact ff)] at nx
        rw [nI_add]; exact nx
      · rw [if_pos (by
          unfold isNd
          rw [s0.mp (e0.mp (Classical.not_not.mp h))]
          cases hq : Nat.beq (cutV V k) 0 with
          | false => rfl
          | true => exact absurd (er.mpr (ec.mp (beq_iff'.mp hq))) h2)] at nx
        rw [nI_shl (by omega), nI_or (by omega) (by omega), nI_add]; exact nx
theorem c_nd (H : MI σ) (hB : isB B) (hw : WF m V) (R : Rel U V) (hK : K (nI (setN (isNd V) (V 2))) (bS σ B U)) : cI E 42 [.ref B] (bS σ B U) K := sg42_0 ⟨shS H hB, c_rea H hB hw R (by decide) woI_m (c_ndL H hB hw R hK (V 2) 0 (by omega))⟩
def fwC (V : Nat → Nat) (i : Nat) : Nat → Nat → Nat → Int32
  | 0, _, _ => (-1000004 : Int32)
  | d + 1, S, k => if bt S i = true then nI k else fwC V i d (jac V 99 S (V 2)) (k + 1)
theorem fw_eq (hw : WF m V) {i : Nat} : ∀ d k : Nat, k + d = 8 → (k ≠ 0 → bt (itJ V 99 1 (k - 1)) i = false) → fwD V i d (itJ V 99 1 k) k = fwC V i d (itJ V 99 1 k) k := by
  intro d
  induction d with
  | zero =>
    intro k hk h
    obtain rfl : k = 8 := by omega
    rw [fwD, fwC]
    have g : itJ V 99 1 8 = itJ V 99 1 7 ∨ cntM 1 8 + 7 < cntM (itJ V 99 1 8) 8 := itJ_grow hw.ends (wo := 99) (S := 1) (by decide) 7
    have c1 : cntM 1 8 = 1 := by decide
    have c2 := cnt_le (itJ V 99 1 8) 8
    have e : itJ V 99 1 8 = itJ V 99 1 7 := by
      rcases g with g | g
      · exact g
      · omega
    rw [e, h (by decide), if_neg ff]
  | succ d ih =>
    intro k hk h
    rw [fwD, fwC]
    split
    · rfl
    · rename_i hb
      have hb' : bt (itJ V 99 1 k) i = false := by
        cases hq : bt (itJ V 99 1 k) i with
        | false => rfl
        | true => exact absurd hq hb
      exact ih (k + 1) (by omega) fun _ => hb'
theorem fw_is (hw : WF m V) {i : Nat} : fwD V i 8 1 0 = fwC V i 8 1 0 := fw_eq hw 8 0 (by decide) fun h => absurd rfl h
theorem c_btL (H : MI σ) (hB : isB B) (hw : WF m V) (R : Rel U V) {i : Nat} (hi : i < 8) : ∀ d k S : Nat, k + d = 8 → S < 2 ^ 8 → Q (some (.int (fwC V i d S k))) (bS σ B U) → wp E 43 4 [.ref B, .int (nI i), .int (nI S), .int (nI k)] [] (bS σ B U) Q := by
  intro d
  induction d with
  | zero =>
    intro k S hk hS hK
    obtain rfl : k = 8 := by omega
    exact sg43_4 ⟨fun _ => hK, fun h => absurd (nI_le (Nat.le_refl _) (by decide)) h⟩
  | succ d ih =>
    intro k S hk hS hK
    rw [fwC] at hK
    refine sg43_4 ⟨fun h => absurd h (nI_ge (by omega) (by omega)), fun _ => c_hol (by omega) (by omega) ⟨fun g => ⟨shS H hB, c_one H hB hw R woI_m hS ?_⟩, fun g => ?_⟩⟩
    · rw [if_neg (bI_3 g)] at hK
      rw [nI_add]
      exact ih (k + 1) _ (by omega) (jac_lt hw.ends hS _ (Nat.le_refl _)) hK
    · rw [if_pos (bI_1 g)] at hK
      exact hK
theorem c_bt (H : MI σ) (hB : isB B) (hw : WF m V) (R : Rel U V) {i : Nat} (hi : i < 8) (hK : K (fwD V i 8 1 0) (bS σ B U)) : cI E 43 [.ref B, .int (nI i)] (bS σ B U) K := by
  rw [fw_is hw] at hK
  exact sg43_0 (c_btL H hB hw R hi 8 0 1 (by omega) (by decide) hK)
theorem ends_b {b i : Nat} : bt (endsM V b) i = true ↔ V (72 + 8 * b + 0) = i ∨ V (72 + 8 * b + 1) = i := by
  rw [bt_tb]
  unfold endsM
  rw [Nat.testBit_or, Nat.testBit_two_pow, Nat.testBit_two_pow, Bool.or_eq_true, decide_eq_true_iff, decide_eq_true_iff]
theorem c_oaL (H : MI σ) (hB : isB B) (hw : WF m V) (R : Rel U V) {i : Nat} (hi : i < 8) (hK : Q (some (.int (nI (oaN V i (V 2))))) (bS σ B U)) : ∀ d k : Nat, k + d = V 2 → wp E 44 4 [.ref B, .int (nI i), .int (nI (oaN V i k)), .int (nI k)] [] (bS σ B U) Q := by
  have h1 := hw.1
  unfold W1 at h1
  intro d
  induction d with
  | zero =>
    intro k hk
    obtain rfl : k = V 2 := by omega
    refine sg44_4 ⟨shS H hB, fun _ => hK, fun h => absurd ?_ h⟩
    rw [bS_get0, R.1.2.1]
    exact nI_le (Nat.le_refl _) (by omega)
  | succ d ih =>
    intro k hk
    have nx := ih (k + 1) (by omega)
    have h3 := stOf_lt V k
    have e0 := nI_eq (a := stOf V k) (b := 0) (by omega) (by decide)
    have s0 := st0 hw (b := k) (by omega)
    have rb := R.2.2.2.2 k (by omega)
    have he := ends_lt hw.ends (b := k) (by omega)
    have eb := ends_b (V := V) (b := k) (i := i)
    rw [oaN] at nx
    refine sg44_4 ⟨shS H hB, fun h => absurd h ?_, fun _ => ⟨shS H hB, _, rS1 H hB, 14, _, shBA H hB, vi (by omega) (by omega), rBAc H hB (by omega), shB H hB (by omega), ?_⟩⟩
    · rw [bS_get0, R.1.2.1]
      exact nI_ge (by omega) (by omega)
    · rw [gB (by omega), rb.2.2.2.2.2.1]
      refine ⟨fun h => ?_, fun h => ⟨shS H hB, _, rS1 H hB, 14, _, shBA H hB, vi (by omega) (by omega), rBAc H hB (by omega), shB H hB (by omega), ?_⟩⟩
      · rw [if_neg (fun z => h (e0.mpr (s0.mpr z.1)))] at nx
        rw [nI_add]; exact nx
      · rw [gB (by omega), rb.2.2.1]
        have ho := s0.mp (e0.mp (Classical.not_not.mp h))
        refine c_hol (by omega) (by omega) ⟨fun g => ?_, fun g => ?_⟩
        · rw [if_neg (fun z => bI_3 g (eb.mpr z.2))] at nx
          rw [nI_add]; exact nx
        · rw [if_pos ⟨ho, eb.mp (bI_1 g)⟩] at nx
          rw [nI_add, nI_add]; exact nx
theorem c_oa (H : MI σ) (hB : isB B) (hw : WF m V) (R : Rel U V) {i : Nat} (hi : i < 8) (hK : K (nI (oaN V i (V 2))) (bS σ B U)) : cI E 44 [.ref B, .int (nI i)] (bS σ B U) K := sg44_0 (c_oaL H hB hw R hi hK (V 2) 0 (by omega))
end COM2
