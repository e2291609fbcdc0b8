/-! the reference's reads -/
def W1 (V : Nat → Nat) : Prop := 1 ≤ V 1 ∧ V 1 ≤ 8 ∧ V 2 ≤ 14 ∧ V 15 ≤ 8
def W2 (V : Nat → Nat) : Prop := V 3 ≤ 4 ∧ 1 ≤ V 4 ∧ V 4 ≤ 100 ∧ V 5 ≤ 99 ∧ V 6 ≤ 1 ∧ V 7 ≤ 30 ∧ V 8 ≤ 99 ∧ V 9 ≤ 1 ∧ V 10 ≤ 99
def W3 (V : Nat → Nat) : Prop := ∀ b, b < V 2 → V (72 + 8 * b + 0) < V 1 ∧ V (72 + 8 * b + 1) < V 1 ∧ 1 ≤ V (72 + 8 * b + 2) ∧ V (72 + 8 * b + 2) ≤ 9 ∧ V (72 + 8 * b + 3) ≤ 100 ∧ V (72 + 8 * b + 4) ≤ 1
def W4 (V : Nat → Nat) : Prop := ∀ i, i < V 1 → V (32 + 5 * i + 0) ≤ 99 ∧ V (32 + 5 * i + 1) ≤ V 0 ∧ V (32 + 5 * i + 3) ≤ V 0
def W5 (m : Nat) (V : Nat → Nat) : Prop := V 0 ≤ m ∧ m ≤ 100000 ∧ V 11 ≤ 999999 + 99 * V 0
def WF (m : Nat) (V : Nat → Nat) : Prop := W1 V ∧ W2 V ∧ W3 V ∧ W4 V ∧ W5 m V
def bI (b : Bool) : Int32 := match b with
  | true => nI 1
  | false => nI 0
def pntd (V : Nat → Nat) (b : Nat) : Bool := Nat.beq (V (72 + 8 * b + 4)) 1
theorem fb0 : fN .boolean (nI 0) = true := by decide
theorem fb1 : fN .boolean (nI 1) = true := by decide
theorem fbI (b : Bool) : fN .boolean (bI b) = true := by cases b <;> decide
theorem bI_0 (b : Bool) : bI b = nI 0 ↔ b = false := by cases b <;> simp [bI] <;> decide
theorem beq_iff' {a b : Nat} : Nat.beq a b = true ↔ a = b := ⟨Nat.eq_of_beq_eq_true, fun h => by rw [h]; exact Nat.beq_refl b⟩
section REF
variable {E : AEnv} {σ : ASt} {V : Nat → Nat} {m : Nat} {Q : Option Value → ASt → Prop} {K : Int32 → ASt → Prop} {KV : ASt → Prop}
theorem WF.ends (h : WF m V) : endsOK V := fun b hb => by
  have h3 := h.2.2.1 b hb
  have h1 := h.1
  unfold W1 at h1
  omega
theorem ixB {b w : Nat} : (nI 72 + nI 8 * nI b) + nI w = nI (72 + 8 * b + w) := by rw [pk_mul, nI_add, nI_add]
theorem ixI {i w : Nat} : (nI 32 + nI 5 * nI i) + nI w = nI (32 + 5 * i + w) := by rw [pk_mul, nI_add, nI_add]
theorem r_of (H : MI σ) {b w : Nat} (hb : b < 14) (hw : w < 8) (hK : K (nI (V (72 + 8 * b + w))) (mS σ V)) : cI E 97 [.ref 179, .int (nI b), .int (nI w)] (mS σ V) K := by
  refine sg97_0 ⟨shM H, _, rM0 H, 184, shV H, ?_, ?_⟩
  · rw [ixB]; exact vi (by omega) (by omega)
  · rw [ixB, cl _ (by omega), mS_get (by omega)]; exact hK
theorem r_lays (H : MI σ) {b w x : Nat} (hb : b < 14) (hw : w < 8) (hK : KV (mS σ (upN V (72 + 8 * b + w) x))) : cV E 98 [.ref 179, .int (nI b), .int (nI w), .int (nI x)] (mS σ V) KV := by
  refine sg98_0 ⟨shM H, _, rM0 H, 184, shV H, ?_, ?_⟩
  · rw [ixB]; exact vi (by omega) (by omega)
  · rw [ixB, cl _ (by omega)]
    exact nw_e (mS_put (by omega)) hK
theorem r_adds (H : MI σ) {b w x : Nat} (hb : b < 14) (hw : w < 8) (hK : KV (mS σ (upN V (72 + 8 * b + w) (V (72 + 8 * b + w) + x)))) : cV E 99 [.ref 179, .int (nI b), .int (nI w), .int (nI x)] (mS σ V) KV := by
  refine sg99_0 ⟨shM H, _, rM0 H, 184, shV H, ?_, 184, shV H, ?_, ?_⟩
  · rw [ixB]; exact vi (by omega) (by omega)
  · rw [ixB]; exact vi (by omega) (by omega)
  · rw [ixB, cl _ (by omega), mS_get (by omega), nI_add]
    exact nw_e (mS_put (by omega)) hK
theorem r_ofI (H : MI σ) {i w : Nat} (hi : i < 8) (hw : w < 5) (hK : K (nI (V (32 + 5 * i + w))) (mS σ V)) : cI E 100 [.ref 179, .int (nI i), .int (nI w)] (mS σ V) K := by
  refine sg100_0 ⟨shM H, _, rM0 H, 184, shV H, ?_, ?_⟩
  · rw [ixI]; exact vi (by omega) (by omega)
  · rw [ixI, cl _ (by omega), mS_get (by omega)]; exact hK
theorem r_laysI (H : MI σ) {i w x : Nat} (hi : i < 8) (hw : w < 5) (hK : KV (mS σ (upN V (32 + 5 * i + w) x))) : cV E 101 [.ref 179, .int (nI i), .int (nI w), .int (nI x)] (mS σ V) KV := by
  refine sg101_0 ⟨shM H, _, rM0 H, 184, shV H, ?_, ?_⟩
  · rw [ixI]; exact vi (by omega) (by omega)
  · rw [ixI, cl _ (by omega)]
    exact nw_e (mS_put (by omega)) hK
theorem r_addsI (H : MI σ) {i w : Nat} (hi : i < 8) (hw : w < 5) (hK : KV (mS σ (upN V (32 + 5 * i + w) (V (32 + 5 * i + w) + 1)))) : cV E 102 [.ref 179, .int (nI i), .int (nI w)] (mS σ V) KV := by
  refine sg102_0 ⟨shM H, _, rM0 H, 184, shV H, ?_, 184, shV H, ?_, ?_⟩
  · rw [ixI]; exact vi (by omega) (by omega)
  · rw [ixI]; exact vi (by omega) (by omega)
  · rw [ixI, cl _ (by omega), mS_get (by omega), nI_add]
    exact nw_e (mS_put (by omega)) hK
theorem r_isP (H : MI σ) {b : Nat} (hb : b < 14) (hp : V (72 + 8 * b + 4) < 2 ^ 31) (hK : K (bI (pntd V b)) (mS σ V)) : cI E 103 [.ref 179, .int (nI b)] (mS σ V) K := by
  refine sg103_0 ⟨shM H, r_of H hb (by decide) ⟨fun h => ⟨fb0, ?_⟩, fun h => ⟨fb1, ?_⟩⟩⟩
  · have e : pntd V b = false := by
      cases hq : pntd V b with
      | false => rfl
      | true => exact absurd (congrArg nI (beq_iff'.mp hq)) h
    rw [e] at hK
    exact hK
  · have e : pntd V b = true := beq_iff'.mpr ((nI_eq hp (by decide)).mp (Classical.not_not.mp h))
    rw [e] at hK
    exact hK
theorem r_isO (H : MI σ) {b : Nat} (hb : b < 14) (hp : V (72 + 8 * b + 4) < 2 ^ 31) (hc : V (72 + 8 * b + 3) < 2 ^ 31) (hK : K (bI (opn V b)) (mS σ V)) : cI E 104 [.ref 179, .int (nI b)] (mS σ V) K := by
  refine sg104_0 ⟨shM H, r_of H hb (by decide) ⟨fun h => ⟨fb0, ?_⟩, fun h => ⟨shM H, r_of H hb (by decide) ⟨fun h2 => ⟨fb0, ?_⟩, fun h2 => ⟨fb1, ?_⟩⟩⟩⟩⟩
  · have e : opn V b = false := by
      cases hq : Nat.beq (V (72 + 8 * b + 4)) 0 with
      | false => unfold opn; rw [hq]; rfl
      | true => exact absurd (congrArg nI (beq_iff'.mp hq)) h
    rw [e] at hK
    exact hK
  · have e : opn V b = false := by
      have h3 := (nI_leI hc (by decide)).mp h2
      unfold opn
      have h4 : V (72 + 8 * b + 3) = 0 := by omega
      rw [h4]
      cases Nat.beq (V (72 + 8 * b + 4)) 0 <;> rfl
    rw [e] at hK
    exact hK
  · have e : opn V b = true := by
      have h3 : ¬ V (72 + 8 * b + 3) ≤ 0 := fun z => h2 ((nI_leI hc (by decide)).mpr z)
      have h4 : V (72 + 8 * b + 4) = 0 := (nI_eq hp (by decide)).mp (Classical.not_not.mp h)
      unfold opn
      rw [beq_iff'.mpr h4, show Nat.blt 0 (V (72 + 8 * b + 3)) = true from by simp only [Nat.blt_eq]; omega]
      rfl
    rw [e] at hK
    exact hK
def stOf (V : Nat → Nat) (b : Nat) : Nat := if pntd V b = true then 1 else if 0 < V (72 + 8 * b + 3) then 0 else 2
theorem r_stO (H : MI σ) {b : Nat} (hb : b < 14) (hp : V (72 + 8 * b + 4) < 2 ^ 31) (hc : V (72 + 8 * b + 3) < 2 ^ 31) (hK : K (nI (stOf V b)) (mS σ V)) : cI E 105 [.ref 179, .int (nI b)] (mS σ V) K := by
  refine sg105_0 ⟨shM H, r_isP H hb hp ⟨fun h => ⟨shM H, r_of H hb (by decide) ⟨fun h2 => ?_, fun h2 => ?_⟩⟩, fun h => ?_⟩⟩
  · have h3 := (nI_leI hc (by decide)).mp h2
    have e : stOf V b = 2 := by
      unfold stOf
      rw [if_neg (by rw [(bI_0 _).mp h]; decide), if_neg (by omega)]
    rw [e] at hK
    exact hK
  · have h3 : ¬ V (72 + 8 * b + 3) ≤ 0 := fun z => h2 ((nI_leI hc (by decide)).mpr z)
    have e : stOf V b = 0 := by
      unfold stOf
      rw [if_neg (by rw [(bI_0 _).mp h]; decide), if_pos (by omega)]
    rw [e] at hK
    exact hK
  · have e : stOf V b = 1 := by
      unfold stOf
      rw [if_pos]
      cases hq : pntd V b with
      | true => rfl
      | false => exact absurd ((bI_0 _).mpr hq) h
    rw [e] at hK
    exact hK
/-- in(v, 0, n - 1) of any int -/
def inRg (x : Int32) (lo hi : Int32) : Bool := !(decide (x < lo)) && !(decide (hi < x))
theorem r_in {s : ASt} {x lo hi : Int32} (hK : K (bI (inRg x lo hi)) s) : cI E 92 [.int x, .int lo, .int hi] s K := by
  refine sg92_0 ⟨fun h => ⟨fb0, ?_⟩, fun h => ⟨fun h2 => ⟨fb0, ?_⟩, fun h2 => ⟨fb1, ?_⟩⟩⟩
  · have e : inRg x lo hi = false := by unfold inRg; simp [h]
    rw [e] at hK; exact hK
  · have e : inRg x lo hi = false := by unfold inRg; simp [h2]
    rw [e] at hK; exact hK
  · have e : inRg x lo hi = true := by unfold inRg; simp only [h, h2]; rfl
    rw [e] at hK; exact hK
theorem inRg_iff {x : Int32} {n : Nat} (hn : n < 2 ^ 31) : inRg x (nI 0) (nI n - nI 1) = true ↔ ∃ j, j < n ∧ x = nI j := by
  unfold inRg
  simp only [Bool.and_eq_true, Bool.not_eq_true', decide_eq_false_iff_not]
  constructor
  · rintro ⟨h1, h2⟩
    obtain ⟨j, hj, rfl⟩ := nI_of h1
    refine ⟨j, ?_, rfl⟩
    rcases Nat.eq_zero_or_pos n with h0 | h0
    · exfalso
      apply h2
      subst h0
      rw [Int32.lt_iff_toInt_lt, nI_toInt hj]
      have : (nI 0 - nI 1).toInt = -1 := by decide
      omega
    · rw [pk_sub (by omega), nI_ltI (by omega) hj] at h2
      omega
  · rintro ⟨j, hj, rfl⟩
    refine ⟨nI_pos (by omega), ?_⟩
    rw [pk_sub (by omega), nI_ltI (by omega) (by omega)]
    omega
theorem r_isI (H : MI σ) {x : Int32} (hK : K (bI (inRg x (nI 0) (nI (V 1) - nI 1))) (mS σ V)) : cI E 95 [.ref 179, .int x] (mS σ V) K := by
  refine sg95_0 ⟨shM H, _, rM0 H, 184, shV H, vi (by decide) (by decide), ?_⟩
  rw [mS_get (by decide)]
  exact r_in ⟨fbI _, hK⟩
theorem r_isB (H : MI σ) {x : Int32} (hK : K (bI (inRg x (nI 0) (nI (V 2) - nI 1))) (mS σ V)) : cI E 96 [.ref 179, .int x] (mS σ V) K := by
  refine sg96_0 ⟨shM H, _, rM0 H, 184, shV H, vi (by decide) (by decide), ?_⟩
  rw [mS_get (by decide)]
  exact r_in ⟨fbI _, hK⟩
end REF
