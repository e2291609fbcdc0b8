/-! the component's state: what it holds of the vector; who is reached -/
def RG (U : Nat → Nat → Int32) (V : Nat → Nat) : Prop := U 0 4 = nI (V 1) ∧ U 0 5 = nI (V 2) ∧ U 0 6 = nI (V 0) ∧ U 0 7 = nI (V 11) ∧ U 0 8 = nI (V 12) ∧ U 0 9 = nI (V 13) ∧ U 0 10 = nI (V 14)
def RS (U : Nat → Nat → Int32) (V : Nat → Nat) : Prop := ∀ s, s < 8 → U 3 s = nI (V (3 + s))
def RK (U : Nat → Nat → Int32) (V : Nat → Nat) : Prop := U 4 2 = nI (V 15) ∧ ∀ a, a < V 15 → U 5 (V 15 - 1 - a) = nI (V (16 + 2 * a)) ∧ U 6 (V 15 - 1 - a) = nI (V (17 + 2 * a))
def RI (U : Nat → Nat → Int32) (V : Nat → Nat) (i : Nat) : Prop := U (7 + i) 0 = nI (V (32 + 5 * i + 0)) ∧ U (7 + i) 1 = nI (V (32 + 5 * i + 1)) ∧ U (7 + i) 2 = nI (V (32 + 5 * i + 3)) ∧ U (7 + i) 3 = nI (V (32 + 5 * i + 2)) ∧ U (7 + i) 4 = nI (V (32 + 5 * i + 4))
def RB (U : Nat → Nat → Int32) (V : Nat → Nat) (b : Nat) : Prop := U (15 + b) 0 = nI (V (72 + 8 * b + 0)) ∧ U (15 + b) 1 = nI (V (72 + 8 * b + 1)) ∧ U (15 + b) 2 = nI (endsM V b) ∧ U (15 + b) 3 = nI (V (72 + 8 * b + 2)) ∧ U (15 + b) 4 = nI (V (72 + 8 * b + 3)) ∧ U (15 + b) 5 = nI (stOf V b) ∧ U (15 + b) 6 = nI (V (72 + 8 * b + 5)) ∧ U (15 + b) 7 = nI (V (72 + 8 * b + 6)) ∧ U (15 + b) 8 = nI (V (72 + 8 * b + 7))
def Rel (U : Nat → Nat → Int32) (V : Nat → Nat) : Prop := RG U V ∧ RS U V ∧ RK U V ∧ (∀ i, i < V 1 → RI U V i) ∧ ∀ b, b < V 2 → RB U V b
section COM1
variable {E : AEnv} {σ τ : ASt} {B : Nat} {U : Nat → Nat → Int32} {V : Nat → Nat} {m n t : Nat} {Q : Option Value → ASt → Prop} {K : Int32 → ASt → Prop} {KV : ASt → Prop}
theorem gB {b k : Nat} (h : b < 14) : gI (bS σ B U) (B + 15 + b) k = U (15 + b) k := by
  rw [Nat.add_assoc]; exact bS_get (by omega)
theorem gIl {b k : Nat} (h : b < 8) : gI (bS σ B U) (B + 7 + b) k = U (7 + b) k := by
  rw [Nat.add_assoc]; exact bS_get (by omega)
theorem wB {b k : Nat} {x : Int32} (h : b < 14) : wrI (bS σ B U) (B + 15 + b) k x = bS σ B (upU U (15 + b) k x) := by
  rw [Nat.add_assoc]; exact bS_put (by omega)
theorem wIl {b k : Nat} {x : Int32} (h : b < 8) : wrI (bS σ B U) (B + 7 + b) k x = bS σ B (upU U (7 + b) k x) := by
  rw [Nat.add_assoc]; exact bS_put (by omega)
theorem c_isI (H : MI σ) (hB : isB B) (hw : WF m V) (R : Rel U V) {x : Int32} (hK : K (bI (inIs V x)) (bS σ B U)) : cI E 20 [.ref B, .int x] (bS σ B U) K := by
  have h1 := hw.1
  unfold W1 at h1
  have ii := inIs_i (x := x) hw
  have no : ¬ inIs V x = true → K (nI 0) (bS σ B U) := fun h => by
    have h' : inIs V x = false := by
      cases hq : inIs V x with
      | false => rfl
      | true => exact absurd hq h
    rw [h'] at hK
    exact hK
  refine sg20_0 ⟨fun g => ⟨fb0, no fun z => ?_⟩, fun g => ⟨shS H hB, ?_⟩⟩
  · obtain ⟨j, hj, rfl⟩ := ii.mp z
    rw [nI_ltI (by omega) (by decide)] at g
    omega
  · obtain ⟨j, hj, rfl⟩ := nI_of g
    rw [bS_get0, R.1.1]
    have e := nI_leI (a := V 1) (b := j) (by omega) hj
    refine ⟨fun g2 => ⟨fb0, no fun z => ?_⟩, fun g2 => ⟨fb1, ?_⟩⟩
    · obtain ⟨i, hi, ei⟩ := ii.mp z
      have := (nI_eq hj (by omega)).mp ei
      have := e.mp g2
      omega
    · have : inIs V (nI j) = true := ii.mpr ⟨j, by have : ¬ V 1 ≤ j := fun z => g2 (e.mpr z); omega, rfl⟩
      rw [this] at hK
      exact hK
theorem c_isB (H : MI σ) (hB : isB B) (hw : WF m V) (R : Rel U V) {x : Int32} (hK : K (bI (inBr V x)) (bS σ B U)) : cI E 21 [.ref B, .int x] (bS σ B U) K := by
  have h1 := hw.1
  unfold W1 at h1
  have ii := inBr_i (x := x) hw
  have no : ¬ inBr V x = true → K (nI 0) (bS σ B U) := fun h => by
    have h' : inBr V x = false := by
      cases hq : inBr V x with
      | false => rfl
      | true => exact absurd hq h
    rw [h'] at hK
    exact hK
  refine sg21_0 ⟨fun g => ⟨fb0, no fun z => ?_⟩, fun g => ⟨shS H hB, ?_⟩⟩
  · obtain ⟨j, hj, rfl⟩ := ii.mp z
    rw [nI_ltI (by omega) (by decide)] at g
    omega
  · obtain ⟨j, hj, rfl⟩ := nI_of g
    rw [bS_get0, R.1.2.1]
    have e := nI_leI (a := V 2) (b := j) (by omega) hj
    refine ⟨fun g2 => ⟨fb0, no fun z => ?_⟩, fun g2 => ⟨fb1, ?_⟩⟩
    · obtain ⟨i, hi, ei⟩ := ii.mp z
      have := (nI_eq hj (by omega)).mp ei
      have := e.mp g2
      omega
    · have : inBr V (nI j) = true := ii.mpr ⟨j, by have : ¬ V 2 ≤ j := fun z => g2 (e.mpr z); omega, rfl⟩
      rw [this] at hK
      exact hK
theorem c_hol {s : ASt} {S i : Nat} (hS : S < 2 ^ 31) (hi : i < 32) (hK : K (bI (bt S i)) s) : cI E 88 [.int (nI S), .int (nI i)] s K := by
  have e := bt_1 hS hi
  refine sg88_0 ⟨fun g => ⟨fb0, ?_⟩, fun g => ⟨fb1, ?_⟩⟩
  · have : bt S i = false := by
      cases hq : bt S i with
      | false => rfl
      | true => exact absurd (e.mpr hq) g
    rw [this] at hK; exact hK
  · rw [e.mp (Classical.not_not.mp g)] at hK; exact hK
theorem c_stL (H : MI σ) (hB : isB B) (hw : WF m V) (R : Rel U V) {c : Nat} (hc : c < 3) (hK : Q (some (.int (nI (setN (isSt V c) (V 2))))) (bS σ B U)) : ∀ d k : Nat, k + d = V 2 → wp E 38 4 [.ref B, .int (nI c), .int (nI (setN (isSt V c) k)), .int (nI k)] [] (bS σ B U) Q := by
  have h1 := hw.1
  unfold W1 at h1
  intro d
  induction d with
  | zero =>
    intro k hk
    obtain rfl : k = V 2 := by omega
    refine sg38_4 ⟨shS H hB, fun _ => hK, fun h => absurd ?_ h⟩
    rw [bS_get0, R.1.2.1]
    exact nI_le (Nat.le_refl _) (by omega)
  | succ d ih =>
    intro k hk
    have nx := ih (k + 1) (by omega)
    have hs := setN_lt' (isSt V c) (n := k) (by omega)
    have h3 := stOf_lt V k
    have hp : 2 ^ k < 2 ^ 14 := Nat.pow_lt_pow_right (by decide) (by omega)
    have e := nI_eq (a := stOf V k) (b := c) (by omega) (by omega)
    have rb := R.2.2.2.2 k (by omega)
    rw [setN] at nx
    refine sg38_4 ⟨shS H hB, fun h => absurd h ?_, fun _ => ⟨shS H hB, _, rS1 H hB, 14, _, shBA H hB, vi (by omega) (by omega), rBAc H hB (by omega), shB H hB (by omega), ?_⟩⟩
    · rw [bS_get0, R.1.2.1]
      exact nI_ge (by omega) (by omega)
    · rw [gB (by omega), rb.2.2.2.2.2.1]
      refine ⟨fun h => ?_, fun h => ?_⟩
      · rw [if_neg (show ¬ isSt V c k = true from fun z => h (e.mpr (beq_iff'.mp z)))] at nx
        rw [nI_add]; exact nx
      · rw [if_pos (show isSt V c k = true from beq_iff'.mpr (e.mp (Classical.not_not.mp h)))] at nx
        rw [nI_shl (by omega), nI_or (by omega) (by omega), nI_add]; exact nx
theorem c_st (H : MI σ) (hB : isB B) (hw : WF m V) (R : Rel U V) {c : Nat} (hc : c < 3) (hK : K (nI (setN (isSt V c) (V 2))) (bS σ B U)) : cI E 38 [.ref B, .int (nI c)] (bS σ B U) K := sg38_0 (c_stL H hB hw R hc hK (V 2) 0 (by omega))
theorem st0 (hw : WF m V) {b : Nat} (hb : b < V 2) : stOf V b = 0 ↔ opn V b = true := by
  have h3 := hw.2.2.1 b hb
  have e : opn V b = true ↔ V (72 + 8 * b + 4) = 0 ∧ 0 < V (72 + 8 * b + 3) := by
    unfold opn
    rw [Bool.and_eq_true, beq_iff', Nat.blt_eq]
  rw [e]
  unfold stOf pntd
  by_cases h : V (72 + 8 * b + 4) = 1
  · rw [if_pos (beq_iff'.mpr h)]; omega
  · rw [if_neg (fun z => h (beq_iff'.mp z))]
    split <;> omega
theorem c_oneL (H : MI σ) (hB : isB B) (hw : WF m V) (R : Rel U V) {x : Int32} {wo S : Nat} (hx : woI x wo) (hS : S < 2 ^ 8) (hK : Q (some (.int (nI (jac V wo S (V 2))))) (bS σ B U)) : ∀ d k : Nat, k + d = V 2 → wp E 40 5 [.ref B, .int (nI S), .int x, .int (nI (jac V wo S k)), .int (nI k)] [] (bS σ B U) Q := by
  have h1 := hw.1
  unfold W1 at h1
  intro d
  induction d with
  | zero =>
    intro k hk
    obtain rfl : k = V 2 := by omega
    refine sg40_5 ⟨shS H hB, fun _ => hK, fun h => absurd ?_ h⟩
    rw [bS_get0, R.1.2.1]
    exact nI_le (Nat.le_refl _) (by omega)
  | succ d ih =>
    intro k hk
    have nx := ih (k + 1) (by omega)
    have rb := R.2.2.2.2 k (by omega)
    have hj := jac_lt hw.ends (wo := wo) hS k (by omega)
    have he := ends_lt hw.ends (b := k) (by omega)
    have h3 := stOf_lt V k
    have e0 := nI_eq (a := stOf V k) (b := 0) (by omega) (by decide)
    have s0 := st0 hw (b := k) (by omega)
    rw [jac] at nx
    refine sg40_5 ⟨shS H hB, fun h => absurd h ?_, fun _ => ⟨shS H hB, _, rS1 H hB, 14, _, shBA H hB, vi (by omega) (by omega), rBAc H hB (by omega), shB H hB (by omega), ?_⟩⟩
    · rw [bS_get0, R.1.2.1]
      exact nI_ge (by omega) (by omega)
    · rw [gB (by omega), rb.2.2.2.2.2.1, gB (by omega), rb.2.2.1, nI_and (by omega) (by omega)]
      refine ⟨fun h => ?_, fun h => ⟨fun h2 => ?_, fun h2 => ⟨shB H hB (by omega), fun h4 => ?_, fun h4 => ⟨shB H hB (by omega), ?_⟩⟩⟩⟩
      · have e : opn V k = false := by
          cases hq : opn V k with
          | false => rfl
          | true => exact absurd (e0.mpr (s0.mpr hq)) h
        rw [if_neg (by unfold useB; rw [e]; exact ff)] at nx
        rw [nI_add]; exact nx
      · have e : Nat.beq k wo = true := beq_iff'.mpr ((hx k (by omega)).mp h2)
        rw [if_neg (by unfold useB; rw [e]; cases opn V k <;> exact ff)] at nx
        rw [nI_add]; exact nx
      · have h5 : S &&& endsM V k = 0 := (nI_eq (Nat.lt_of_le_of_lt Nat.and_le_left (by omega)) (by decide)).mp h4
        rw [if_neg (by unfold hit; rw [h5]; cases useB V wo k <;> exact ff)] at nx
        rw [nI_add]; exact nx
      · have h5 : S &&& endsM V k ≠ 0 := fun z => h4 (congrArg nI z)
        have e1 := s0.mp (e0.mp (Classical.not_not.mp h))
        have e2 : Nat.beq k wo = false := by
          cases hq : Nat.beq k wo with
          | false => rfl
          | true => exact absurd ((hx k (by omega)).mpr (beq_iff'.mp hq)) h2
        have e3 : Nat.beq (S &&& endsM V k) 0 = false := by
          cases hq : Nat.beq (S &&& endsM V k) 0 with
          | false => rfl
          | true => exact absurd (beq_iff'.mp hq) h5
        rw [if_pos (by unfold useB hit; rw [e1, e2, e3]; rfl)] at nx
        rw [nI_or (by omega) (by omega), nI_add]; exact nx
theorem c_one (H : MI σ) (hB : isB B) (hw : WF m V) (R : Rel U V) {x : Int32} {wo S : Nat} (hx : woI x wo) (hS : S < 2 ^ 8) (hK : K (nI (jac V wo S (V 2))) (bS σ B U)) : cI E 40 [.ref B, .int (nI S), .int x] (bS σ B U) K := sg40_0 (c_oneL H hB hw R hx hS hK (V 2) 0 (by omega))
theorem c_reaL (H : MI σ) (hB : isB B) (hw : WF m V) (R : Rel U V) {x : Int32} {i wo : Nat} (hi : i < 8) (hx : woI x wo) (hK : Q (some (.int (nI (reachV V i wo)))) (bS σ B U)) : ∀ d k : Nat, k + d = 8 → wp E 39 7 [.ref B, .int (nI i), .int x, .int (nI (itJ V wo (2 ^ i) k)), .int (nI k)] [] (bS σ B U) Q := by
  have hp : 2 ^ i < 2 ^ 8 := Nat.pow_lt_pow_right (by decide) hi
  intro d
  induction d with
  | zero =>
    intro k hk
    obtain rfl : k = 8 := by omega
    exact sg39_7 ⟨fun _ => hK, fun h => absurd (nI_le (Nat.le_refl _) (by decide)) h⟩
  | succ d ih =>
    intro k hk
    have nx := ih (k + 1) (by omega)
    have hS := itJ_lt hw.ends (wo := wo) hp k
    have hJ := jac_lt hw.ends (wo := wo) hS _ (Nat.le_refl _)
    rw [itJ] at nx
    refine sg39_7 ⟨fun h => absurd h (nI_ge (by omega) (by omega)), fun _ => ⟨shS H hB, c_one H hB hw R hx hS ⟨fun g => ?_, fun g => ?_⟩⟩⟩
    · rw [nI_add]; exact nx
    · have he := (nI_eq (by omega) (by omega)).mp (Classical.not_not.mp g)
      have e : itJ V wo (2 ^ i) k = reachV V i wo := (itJ_le (reach_closed hw.ends hi) (reach_ge V i wo) k).anti (reach_le (jac_fix he) (itJ_ge V wo _ k))
      rw [e]; exact hK
theorem c_rea (H : MI σ) (hB : isB B) (hw : WF m V) (R : Rel U V) {x : Int32} {i wo : Nat} (hi : i < 8) (hx : woI x wo) (hK : K (nI (reachV V i wo)) (bS σ B U)) : cI E 39 [.ref B, .int (nI i), .int x] (bS σ B U) K := by
  refine sg39_0 ?_
  rw [nI_shl (by omega)]
  exact c_reaL H hB hw R hi hx hK 8 0 (by omega)
theorem c_los (H : MI σ) (hB : isB B) (hw : WF m V) (R : Rel U V) {b : Nat} (hb : b < 14) (hK : K (nI (cutV V b)) (bS σ B U)) : cI E 41 [.ref B, .int (nI b)] (bS σ B U) K := by
  refine sg41_0 ⟨shS H hB, c_rea H hB hw R (by decide) woI_m ⟨shS H hB, c_rea H hB hw R (by decide) (woI_b hb) ?_⟩⟩
  have h1 := reach_lt hw.ends (i := 0) (wo := 99) (by decide)
  have h2 := reach_lt hw.ends (i := 0) (wo := b) (by decide)
  rw [nI_andn (by omega) (by omega)]
  exact hK
end COM1
