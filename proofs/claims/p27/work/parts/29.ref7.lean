/-! the reference's errors -/
section REF7
variable {E : AEnv} {σ : ASt} {V : Nat → Nat} {m : Nat} {Q : Option Value → ASt → Prop} {K : Int32 → ASt → Prop} {KV : ASt → Prop}
theorem bI_2 {b : Bool} (h : ¬ bI b ≠ nI 0) : b = false := (bI_0 _).mp (Classical.not_not.mp h)
theorem bI_3 {b : Bool} (h : bI b = nI 0) : ¬ b = true := by rw [(bI_0 _).mp h]; decide
def toN (x : Int32) : Nat := x.toNatClampNeg
theorem toN_nI {j : Nat} (h : j < 2 ^ 31) : toN (nI j) = j := cl j h
theorem inRg_nn {x : Int32} {a b : Nat} (ha : a < 2 ^ 31) (hb : b < 2 ^ 31) : inRg x (nI a) (nI b) = true ↔ ∃ j, a ≤ j ∧ j ≤ b ∧ x = nI j := by
  unfold inRg
  simp only [Bool.and_eq_true, Bool.not_eq_true', decide_eq_false_iff_not]
  constructor
  · rintro ⟨h1, h2⟩
    have h3 : ¬ x < nI 0 := fun z => h1 (by
      rw [Int32.lt_iff_toInt_lt] at z ⊢
      rw [nI_toInt ha]
      rw [nI_toInt (by decide)] at z
      omega)
    obtain ⟨j, hj, rfl⟩ := nI_of h3
    rw [nI_ltI hj ha] at h1
    rw [nI_ltI hb hj] at h2
    exact ⟨j, by omega, by omega, rfl⟩
  · rintro ⟨j, h1, h2, rfl⟩
    rw [nI_ltI (by omega) ha, nI_ltI hb (by omega)]
    omega
def inIs (V : Nat → Nat) (x : Int32) : Bool := inRg x (nI 0) (nI (V 1) - nI 1)
def inBr (V : Nat → Nat) (x : Int32) : Bool := inRg x (nI 0) (nI (V 2) - nI 1)
theorem inIs_i (hw : WF m V) {x : Int32} : inIs V x = true ↔ ∃ j, j < V 1 ∧ x = nI j := inRg_iff (by have h1 := hw.1; unfold W1 at h1; omega)
theorem inBr_i (hw : WF m V) {x : Int32} : inBr V x = true ↔ ∃ j, j < V 2 ∧ x = nI j := inRg_iff (by have h1 := hw.1; unfold W1 at h1; omega)
theorem inIs_n (hw : WF m V) {x : Int32} (h : inIs V x = true) : toN x < V 1 ∧ x = nI (toN x) := by
  have h1 := hw.1
  unfold W1 at h1
  obtain ⟨j, hj, rfl⟩ := (inIs_i hw).mp h
  rw [toN_nI (by omega)]
  exact ⟨hj, rfl⟩
theorem inBr_n (hw : WF m V) {x : Int32} (h : inBr V x = true) : toN x < V 2 ∧ x = nI (toN x) := by
  have h1 := hw.1
  unfold W1 at h1
  obtain ⟨j, hj, rfl⟩ := (inBr_i hw).mp h
  rw [toN_nI (by omega)]
  exact ⟨hj, rfl⟩
theorem inRg_n {x : Int32} {a b : Nat} (ha : a < 2 ^ 31) (hb : b < 2 ^ 31) (h : inRg x (nI a) (nI b) = true) : a ≤ toN x ∧ toN x ≤ b ∧ x = nI (toN x) := by
  obtain ⟨j, h1, h2, rfl⟩ := (inRg_nn ha hb).mp h
  rw [toN_nI (by omega)]
  exact ⟨h1, h2, rfl⟩
def eIsl (V : Nat → Nat) (x : Int32) : Int32 := if inRg x (nI 0) (nI 99) = true then (if V 1 = 8 then (-1000003 : Int32) else nI 0) else (-1000001 : Int32)
def eBrg (V : Nat → Nat) (x y w : Int32) : Int32 := if inIs V x = true ∧ inIs V y = true ∧ x ≠ y ∧ inRg w (nI 1) (nI 9) = true then (if V 2 = 14 then (-1000003 : Int32) else nI 0) else (-1000001 : Int32)
def eSnd (V : Nat → Nat) (x f : Int32) : Int32 := if inBr V x = true ∧ inRg f (nI 0) (nI 1) = true then (if rsn V (toN x) = 0 ∨ (rsn V (toN x) = 4 ∧ f = nI 1) then nI 0 else (-1000002 : Int32)) else (-1000001 : Int32)
def eRec (V : Nat → Nat) (x : Int32) : Int32 := if inBr V x = true then (if pntd V (toN x) = true then nI 0 else (-1000002 : Int32)) else (-1000001 : Int32)
def ePay (V : Nat → Nat) (x : Int32) : Int32 := if inRg x (nI 1) (nI 999) = true then (if V 11 + toN x ≤ 999999 then nI 0 else (-1000003 : Int32)) else (-1000001 : Int32)
def eDys (V : Nat → Nat) (x : Int32) : Int32 := if inRg x (nI 1) (nI 99) = true then (if V 0 + toN x ≤ 9999 then nI 0 else (-1000003 : Int32)) else (-1000001 : Int32)
end REF7
