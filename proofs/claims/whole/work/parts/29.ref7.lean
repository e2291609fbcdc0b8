/-! the reference's errors -/
section REF7
variable {E : AEnv} {σ : ASt} {V : Nat → Nat} {m : Nat} {Q : Option Value → ASt → Prop} {K : Int32 → ASt → Prop} {KV : ASt → Prop}
theorem bI_2 {b : Bool} (h : ¬ bI b ≠ nI 0) : b = false := (bI_0 _).mp (Classical.not_not.mp h)
theorem bI_3 {b : Bool} (h : bI b = nI 0) : ¬ b = true := by rw [(bI_0 _).mp h]; decide
def toN (x : Int32) : Nat := x.toNatClampNeg
theorem toN_nI {j : Nat} (h : j < 2 ^ 31) : toN (nI j) = j := cl j h
theorem inRg_nn {x : Int32} {a b : Nat} (ha : a < 2 ^ 31) (hb : b < 2 ^ 31) : inRg x (nI a) (nI b) = true ↔ ∃ j, a ≤ j ∧ j ≤ b ∧ x = nI j := by
  unfold inRg
  simp only [Bool.and_eq_true, Bool.not_eq_true', decide_eq_false_iff_not]
  constructor
  · rintro ⟨h1, h2⟩
    have h3 : ¬ x < nI 0 := fun z => h1 (by
      rw [Int32.lt_iff_toInt_lt] at z ⊢
      rw [nI_toInt ha]
      rw [nI_toInt (by decide)] at z
      omega)
    obtain ⟨j, hj, rfl⟩ := nI_of h3
    rw [nI_ltI hj ha] at h1
    rw [nI_ltI hb hj] at h2
    exact ⟨j, by omega, by omega, rfl⟩
  · rintro ⟨j, h1, h2, rfl⟩
    rw [nI_ltI (by omega) ha, nI_ltI hb (by omega)]
    omega
def inIs (V : Nat → Nat) (x : Int32) : Bool := inRg x (nI 0) (nI (V 1) - nI 1)
def inBr (V : Nat → Nat) (x : Int32) : Bool := inRg x (nI 0) (nI (V 2) - nI 1)
theorem inIs_i (hw : WF m V) {x : Int32} : inIs V x = true ↔ ∃ j, j < V 1 ∧ x = nI j := inRg_iff (by have h1 := hw.1; unfold W1 at h1; omega)
theorem inBr_i (hw : WF m V) {x : Int32} : inBr V x = true ↔ ∃ j, j < V 2 ∧ x = nI j := inRg_iff (by have h1 := hw.1; unfold W1 at h1; omega)
theorem inIs_n (hw : WF m V) {x : Int32} (h : inIs V x = true) : toN x < V 1 ∧ x = nI (toN x) := by
  have h1 := hw.1
  unfold W1 at h1
  obtain ⟨j, hj, rfl⟩ := (inIs_i hw).mp h
  rw [toN_nI (by omega)]
  exact ⟨hj, rfl⟩
theorem inBr_n (hw : WF m V) {x : Int32} (h : inBr V x = true) : toN x < V 2 ∧ x = nI (toN x) := by
  have h1 := hw.1
  unfold W1 at h1
  obtain ⟨j, hj, rfl⟩ := (inBr_i hw).mp h
  rw [toN_nI (by omega)]
  exact ⟨hj, rfl⟩
theorem inRg_n {x : Int32} {a b : Nat} (ha : a < 2 ^ 31) (hb : b < 2 ^ 31) (h : inRg x (nI a) (nI b) = true) : a ≤ toN x ∧ toN x ≤ b ∧ x = nI (toN x) := by
  obtain ⟨j, h1, h2, rfl⟩ := (inRg_nn ha hb).mp h
  rw [toN_nI (by omega)]
  exact ⟨h1, h2, rfl⟩
def eIsl (V : Nat → Nat) (x : Int32) : Int32 := if inRg x (nI 0) (nI 99) = true then (if V 1 = 8 then (-1000003 : Int32) else nI 0) else (-1000001 : Int32)
def eBrg (V : Nat → Nat) (x y w : Int32) : Int32 := if inIs V x = true ∧ inIs V y = true ∧ x ≠ y ∧ inRg w (nI 1) (nI 9) = true then (if V 2 = 14 then (-1000003 : Int32) else nI 0) else (-1000001 : Int32)
def eSnd (V : Nat → Nat) (x f : Int32) : Int32 := if inBr V x = true ∧ inRg f (nI 0) (nI 1) = true then (if rsn V (toN x) = 0 ∨ (rsn V (toN x) = 4 ∧ f = nI 1) then nI 0 else (-1000002 : Int32)) else (-1000001 : Int32)
def eRec (V : Nat → Nat) (x : Int32) : Int32 := if inBr V x = true then (if pntd V (toN x) = true then nI 0 else (-1000002 : Int32)) else (-1000001 : Int32)
def ePay (V : Nat → Nat) (x : Int32) : Int32 := if inRg x (nI 1) (nI 999) = true then (if V 11 + toN x ≤ 999999 then nI 0 else (-1000003 : Int32)) else (-1000001 : Int32)
def eDys (V : Nat → Nat) (x : Int32) : Int32 := if inRg x (nI 1) (nI 99) = true then (if V 0 + toN x ≤ 9999 then nI 0 else (-1000003 : Int32)) else (-1000001 : Int32)
theorem r_eI (H : MI σ) (hw : WF m V) {x : Int32} (hK : K (eIsl V x) (mS σ V)) : cI E 122 [.ref 179, .int x] (mS σ V) K := by
  have h1 := hw.1
  unfold W1 at h1
  unfold eIsl at hK
  refine sg122_0 (r_in ⟨fun h => ⟨shM H, _, rM0 H, 184, shV H, vi (by decide) (by decide), fun h2 => ?_, fun h2 => ?_⟩, fun h => ?_⟩)
  · rw [mS_get (by decide)] at h2
    rw [if_pos (bI_1 h), if_neg (fun z => h2 (congrArg nI z))] at hK
    exact hK
  · rw [mS_get (by decide)] at h2
    rw [if_pos (bI_1 h), if_pos ((nI_eq (by omega) (by decide)).mp (Classical.not_not.mp h2))] at hK
    exact hK
  · rw [if_neg (by rw [bI_2 h]; decide)] at hK
    exact hK
theorem r_eB (H : MI σ) (hw : WF m V) {x y w : Int32} (hK : K (eBrg V x y w) (mS σ V)) : cI E 123 [.ref 179, .int x, .int y, .int w] (mS σ V) K := by
  have h1 := hw.1
  unfold W1 at h1
  unfold eBrg at hK
  refine sg123_0 ⟨shM H, r_isI H ⟨fun h => ⟨fun z => absurd rfl z, fun _ => ?_⟩, fun h => ⟨shM H, r_isI H ⟨fun h2 => ⟨fun z => absurd rfl z, fun _ => ?_⟩, fun h2 => ⟨fun h3 => ⟨fun z => absurd rfl z, fun _ => ?_⟩, fun h3 => r_in ⟨fun h4 => ⟨fun z => absurd rfl z, fun _ => ?_⟩, fun h4 => ⟨fun _ => ⟨shM H, _, rM0 H, 184, shV H, vi (by decide) (by decide), fun h5 => ?_, fun h5 => ?_⟩, fun z => absurd (by decide) z⟩⟩⟩⟩⟩⟩⟩
  · rw [if_neg (fun z => bI_3 h z.1)] at hK
    exact hK
  · rw [if_neg (fun z => bI_3 h2 z.2.1)] at hK
    exact hK
  · rw [if_neg (fun z => z.2.2.1 h3)] at hK
    exact hK
  · rw [if_neg (fun z => bI_3 h4 z.2.2.2)] at hK
    exact hK
  · rw [mS_get (by decide)] at h5
    rw [if_pos ⟨bI_1 h, bI_1 h2, h3, bI_1 h4⟩, if_neg (fun z => h5 (congrArg nI z))] at hK
    exact hK
  · rw [mS_get (by decide)] at h5
    rw [if_pos ⟨bI_1 h, bI_1 h2, h3, bI_1 h4⟩, if_pos ((nI_eq (by omega) (by decide)).mp (Classical.not_not.mp h5))] at hK
    exact hK
theorem r_eS (H : MI σ) (hw : WF m V) {x f : Int32} (hK : K (eSnd V x f) (mS σ V)) : cI E 124 [.ref 179, .int x, .int f] (mS σ V) K := by
  unfold eSnd at hK
  refine sg124_0 ⟨shM H, r_isB H ⟨fun h => ?_, fun h => r_in ⟨fun h2 => ⟨shM H, ?_⟩, fun h2 => ?_⟩⟩⟩
  · rw [if_neg (fun z => bI_3 h z.1)] at hK
    exact hK
  · rw [if_pos ⟨bI_1 h, bI_1 h2⟩] at hK
    obtain ⟨hx, ex⟩ := inBr_n hw (bI_1 h)
    have h5 := rsn_lt V (toN x)
    have r0 := nI_eq (a := rsn V (toN x)) (b := 0) (by omega) (by decide)
    have r4 := nI_eq (a := rsn V (toN x)) (b := 4) (by omega) (by decide)
    rw [ex]
    refine r_rsn H hw hx ⟨fun h3 => ?_, fun h3 => ⟨fun h4 => ?_, fun h4 => ⟨fun h6 => ?_, fun h6 => ?_⟩⟩⟩
    · rw [if_pos (Or.inl (r0.mp h3))] at hK
      exact hK
    · rw [if_neg (fun z => z.elim (fun y => h3 (r0.mpr y)) (fun y => h4 (r4.mpr y.1)))] at hK
      exact hK
    · rw [if_neg (fun z => z.elim (fun y => h3 (r0.mpr y)) (fun y => h6 y.2))] at hK
      exact hK
    · rw [if_pos (Or.inr ⟨r4.mp (Classical.not_not.mp h4), Classical.not_not.mp h6⟩)] at hK
      exact hK
  · rw [if_neg (fun z => by have := z.2; rw [bI_2 h2] at this; exact absurd this (by decide))] at hK
    exact hK
theorem r_eR (H : MI σ) (hw : WF m V) {x : Int32} (hK : K (eRec V x) (mS σ V)) : cI E 125 [.ref 179, .int x] (mS σ V) K := by
  have h1 := hw.1
  unfold W1 at h1
  unfold eRec at hK
  refine sg125_0 ⟨shM H, r_isB H ⟨fun h => ⟨shM H, ?_⟩, fun h => ?_⟩⟩
  · rw [if_pos (show inBr V x = true from bI_1 h)] at hK
    obtain ⟨hx, ex⟩ := inBr_n hw (bI_1 h)
    have hb := hw.b hx
    rw [ex]
    refine r_isP H (by omega) hb.2.2.1 ⟨fun h2 => ?_, fun h2 => ?_⟩
    · rw [if_neg (bI_3 h2)] at hK
      exact hK
    · rw [if_pos (bI_1 h2)] at hK
      exact hK
  · rw [if_neg (fun z => by have := z; rw [show inBr V x = false from bI_2 h] at this; exact absurd this (by decide))] at hK
    exact hK
theorem r_eP (H : MI σ) (hw : WF m V) {x : Int32} (hK : K (ePay V x) (mS σ V)) : cI E 126 [.ref 179, .int x] (mS σ V) K := by
  have h5 := hw.2.2.2.2
  unfold W5 at h5
  unfold ePay at hK
  refine sg126_0 (r_in ⟨fun h => ⟨shM H, _, rM0 H, 184, shV H, vi (by decide) (by decide), ?_⟩, fun h => ?_⟩)
  · rw [if_pos (bI_1 h)] at hK
    obtain ⟨ha, hb, ex⟩ := inRg_n (by decide) (by decide) (bI_1 h)
    rw [mS_get (by decide)]
    rw [ex, nI_add]
    have e := nI_leI (a := V 11 + toN x) (b := 999999) (by omega) (by decide)
    refine ⟨fun h2 => ?_, fun h2 => ?_⟩
    · rw [if_pos (e.mp h2)] at hK
      exact hK
    · rw [if_neg (fun z => h2 (e.mpr z))] at hK
      exact hK
  · rw [if_neg (by rw [bI_2 h]; decide)] at hK
    exact hK
theorem r_eD (H : MI σ) (hw : WF m V) {x : Int32} (hK : K (eDys V x) (mS σ V)) : cI E 127 [.ref 179, .int x] (mS σ V) K := by
  have h5 := hw.2.2.2.2
  unfold W5 at h5
  unfold eDys at hK
  refine sg127_0 (r_in ⟨fun h => ⟨shM H, _, rM0 H, 184, shV H, vi (by decide) (by decide), ?_⟩, fun h => ?_⟩)
  · rw [if_pos (bI_1 h)] at hK
    obtain ⟨ha, hb, ex⟩ := inRg_n (by decide) (by decide) (bI_1 h)
    rw [mS_get (by decide)]
    rw [ex, nI_add]
    have e := nI_leI (a := V 0 + toN x) (b := 9999) (by omega) (by decide)
    refine ⟨fun h2 => ?_, fun h2 => ?_⟩
    · rw [if_pos (e.mp h2)] at hK
      exact hK
    · rw [if_neg (fun z => h2 (e.mpr z))] at hK
      exact hK
  · rw [if_neg (by rw [bI_2 h]; decide)] at hK
    exact hK
end REF7
