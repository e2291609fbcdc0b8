/-! mean: the quotient's bits -/
def frc {α : Type} (x : UInt32) (f : UInt32 → α) : α := match x.toNat with
  | 0 => f 0
  | k + 1 => f (UInt32.ofNat (k + 1))
theorem frc_e {α : Type} (x : UInt32) (f : UInt32 → α) : frc x f = f x := by
  unfold frc
  split
  · rename_i h
    have : x = 0 := by
      have h2 : UInt32.ofNat x.toNat = x := UInt32.ofNat_toNat
      rw [← h2, h]; rfl
    rw [this]
  · rename_i k h
    have h2 : UInt32.ofNat x.toNat = x := UInt32.ofNat_toNat
    have h3 : x.toNat = k + 1 := h
    rw [← h3, h2]
def nzB (x : UInt32) : Bool := decide (x &&& 0x7fffffff ≤ 0x7f800000)
def fe42 (e : Int32) (y : UInt32) : Option Int32 := frc (FP.fsub y 1065353216) fun z => frc (FP.fmul z 1258291200) fun w => if nzB z && nzB w then some ((e <<< ((nI 23) &&& 31)) ||| (FP.f2i w)) else none
def fl42 : Nat → Int32 → UInt32 → Option Int32
  | 0, _, _ => none
  | d + 1, e, y => if nI 0 ≤ Op.cmpValue (FP.fcmp y 1065353216) .g then fe42 e y else frc (FP.fmul y 1073741824) fun z => if nzB z = true then fl42 d (e + (-1)) z else none
def fl15 : Nat → Int32 → UInt32 → Option Int32
  | 0, _, _ => none
  | d + 1, e, y => if Op.cmpValue (FP.fcmp y 1073741824) .l < nI 0 then fl42 8 e y else frc (FP.fdiv y 1073741824) fun z => if nzB z = true then fl15 d (e + nI 1) z else none
def bitM (x : UInt32) : Option Int32 := if nI 0 < Op.cmpValue (FP.fcmp x 0) .l then fl15 10 (nI 127) x else some (nI 0)
def qM (s n : Nat) : UInt32 := FP.fdiv (FP.i2f (nI s)) (FP.i2f (nI n))
def chkX (x : UInt32) : Bool := nzB x && decide (Op.cmpValue (FP.fcmp x x) .l = nI 0) && decide (bitM x = some x.toInt32)
def chkR (a b n : Nat) : Bool := (List.range b).all (fun s => frc (qM (a + s) n) chkX)
theorem chk_u {a b n : Nat} (h : chkR a b n = true) {s : Nat} (h1 : a ≤ s) (h2 : s < a + b) : chkX (qM s n) = true := by
  have := List.all_eq_true.mp h (s - a) (List.mem_range.mpr (by omega))
  rw [frc_e, show a + (s - a) = s by omega] at this
  exact this
theorem ck1_0 : chkR 0 101 1 = true := by decide +kernel
theorem ck2_0 : chkR 0 201 2 = true := by decide +kernel
theorem ck3_0 : chkR 0 301 3 = true := by decide +kernel
theorem ck4_0 : chkR 0 350 4 = true := by decide +kernel
theorem ck4_350 : chkR 350 51 4 = true := by decide +kernel
theorem ck5_0 : chkR 0 350 5 = true := by decide +kernel
theorem ck5_350 : chkR 350 151 5 = true := by decide +kernel
theorem ck6_0 : chkR 0 350 6 = true := by decide +kernel
theorem ck6_350 : chkR 350 251 6 = true := by decide +kernel
theorem ck7_0 : chkR 0 350 7 = true := by decide +kernel
theorem ck7_350 : chkR 350 350 7 = true := by decide +kernel
theorem ck7_700 : chkR 700 1 7 = true := by decide +kernel
theorem ck8_0 : chkR 0 350 8 = true := by decide +kernel
theorem ck8_350 : chkR 350 350 8 = true := by decide +kernel
theorem ck8_700 : chkR 700 101 8 = true := by decide +kernel
theorem ck9_0 : chkR 0 350 9 = true := by decide +kernel
theorem ck9_350 : chkR 350 350 9 = true := by decide +kernel
theorem ck9_700 : chkR 700 201 9 = true := by decide +kernel
theorem ck10_0 : chkR 0 350 10 = true := by decide +kernel
theorem ck10_350 : chkR 350 350 10 = true := by decide +kernel
theorem ck10_700 : chkR 700 301 10 = true := by decide +kernel
theorem ck11_0 : chkR 0 350 11 = true := by decide +kernel
theorem ck11_350 : chkR 350 350 11 = true := by decide +kernel
theorem ck11_700 : chkR 700 350 11 = true := by decide +kernel
theorem ck11_1050 : chkR 1050 51 11 = true := by decide +kernel
theorem ck12_0 : chkR 0 350 12 = true := by decide +kernel
theorem ck12_350 : chkR 350 350 12 = true := by decide +kernel
theorem ck12_700 : chkR 700 350 12 = true := by decide +kernel
theorem ck12_1050 : chkR 1050 151 12 = true := by decide +kernel
theorem ck13_0 : chkR 0 350 13 = true := by decide +kernel
theorem ck13_350 : chkR 350 350 13 = true := by decide +kernel
theorem ck13_700 : chkR 700 350 13 = true := by decide +kernel
theorem ck13_1050 : chkR 1050 251 13 = true := by decide +kernel
theorem ck14_0 : chkR 0 350 14 = true := by decide +kernel
theorem ck14_350 : chkR 350 350 14 = true := by decide +kernel
theorem ck14_700 : chkR 700 350 14 = true := by decide +kernel
theorem ck14_1050 : chkR 1050 350 14 = true := by decide +kernel
theorem ck14_1400 : chkR 1400 1 14 = true := by decide +kernel
theorem chk_all {n s : Nat} (h1 : 1 ≤ n) (h2 : n ≤ 14) (hs : s ≤ 100 * n) : chkX (qM s n) = true := by
  have hc : n = 1 ∨ n = 2 ∨ n = 3 ∨ n = 4 ∨ n = 5 ∨ n = 6 ∨ n = 7 ∨ n = 8 ∨ n = 9 ∨ n = 10 ∨ n = 11 ∨ n = 12 ∨ n = 13 ∨ n = 14 := by omega
  rcases hc with rfl | rfl | rfl | rfl | rfl | rfl | rfl | rfl | rfl | rfl | rfl | rfl | rfl | rfl
  · exact chk_u ck1_0 (by omega) (by omega)
  · exact chk_u ck2_0 (by omega) (by omega)
  · exact chk_u ck3_0 (by omega) (by omega)
  · by_cases g0 : s < 350
    · exact chk_u ck4_0 (by omega) (by omega)
    exact chk_u ck4_350 (by omega) (by omega)
  · by_cases g0 : s < 350
    · exact chk_u ck5_0 (by omega) (by omega)
    exact chk_u ck5_350 (by omega) (by omega)
  · by_cases g0 : s < 350
    · exact chk_u ck6_0 (by omega) (by omega)
    exact chk_u ck6_350 (by omega) (by omega)
  · by_cases g0 : s < 350
    · exact chk_u ck7_0 (by omega) (by omega)
    by_cases g350 : s < 700
    · exact chk_u ck7_350 (by omega) (by omega)
    exact chk_u ck7_700 (by omega) (by omega)
  · by_cases g0 : s < 350
    · exact chk_u ck8_0 (by omega) (by omega)
    by_cases g350 : s < 700
    · exact chk_u ck8_350 (by omega) (by omega)
    exact chk_u ck8_700 (by omega) (by omega)
  · by_cases g0 : s < 350
    · exact chk_u ck9_0 (by omega) (by omega)
    by_cases g350 : s < 700
    · exact chk_u ck9_350 (by omega) (by omega)
    exact chk_u ck9_700 (by omega) (by omega)
  · by_cases g0 : s < 350
    · exact chk_u ck10_0 (by omega) (by omega)
    by_cases g350 : s < 700
    · exact chk_u ck10_350 (by omega) (by omega)
    exact chk_u ck10_700 (by omega) (by omega)
  · by_cases g0 : s < 350
    · exact chk_u ck11_0 (by omega) (by omega)
    by_cases g350 : s < 700
    · exact chk_u ck11_350 (by omega) (by omega)
    by_cases g700 : s < 1050
    · exact chk_u ck11_700 (by omega) (by omega)
    exact chk_u ck11_1050 (by omega) (by omega)
  · by_cases g0 : s < 350
    · exact chk_u ck12_0 (by omega) (by omega)
    by_cases g350 : s < 700
    · exact chk_u ck12_350 (by omega) (by omega)
    by_cases g700 : s < 1050
    · exact chk_u ck12_700 (by omega) (by omega)
    exact chk_u ck12_1050 (by omega) (by omega)
  · by_cases g0 : s < 350
    · exact chk_u ck13_0 (by omega) (by omega)
    by_cases g350 : s < 700
    · exact chk_u ck13_350 (by omega) (by omega)
    by_cases g700 : s < 1050
    · exact chk_u ck13_700 (by omega) (by omega)
    exact chk_u ck13_1050 (by omega) (by omega)
  · by_cases g0 : s < 350
    · exact chk_u ck14_0 (by omega) (by omega)
    by_cases g350 : s < 700
    · exact chk_u ck14_350 (by omega) (by omega)
    by_cases g700 : s < 1050
    · exact chk_u ck14_700 (by omega) (by omega)
    by_cases g1050 : s < 1400
    · exact chk_u ck14_1050 (by omega) (by omega)
    exact chk_u ck14_1400 (by omega) (by omega)
