/-! words for the memory and for small naturals -/
def upN (V : Nat → Nat) (k x : Nat) : Nat → Nat := fun j => if j = k then x else V j
theorem upN_s (V : Nat → Nat) (k x : Nat) : upN V k x k = x := if_pos rfl
theorem upN_n {V : Nat → Nat} {k j x : Nat} (h : j ≠ k) : upN V k x j = V j := if_neg h
/-- a block of 29 cells from B on holds U -/
def bS (σ : ASt) (B : Nat) (U : Nat → Nat → Int32) : ASt := (σ.1, (fun q => if B ≤ q ∧ q < B + 29 then U (q - B) else σ.2.1 q), σ.2.2)
def upU (U : Nat → Nat → Int32) (c k : Nat) (x : Int32) : Nat → Nat → Int32 := fun q => if q = c then upd (U c) k x else U q
theorem bS_get {σ : ASt} {B c k : Nat} {U : Nat → Nat → Int32} (h : c < 29) : gI (bS σ B U) (B + c) k = U c k := by
  show (if B ≤ B + c ∧ B + c < B + 29 then U (B + c - B) else σ.2.1 (B + c)) k = _
  rw [if_pos ⟨by omega, by omega⟩, Nat.add_sub_cancel_left]
theorem bS_get0 {σ : ASt} {B k : Nat} {U : Nat → Nat → Int32} : gI (bS σ B U) B k = U 0 k := bS_get (c := 0) (by decide)
theorem bS_ne {σ : ASt} {B c k : Nat} {U : Nat → Nat → Int32} (h : ¬ (B ≤ c ∧ c < B + 29)) : gI (bS σ B U) c k = gI σ c k := by
  show (if B ≤ c ∧ c < B + 29 then U (c - B) else σ.2.1 c) k = _
  rw [if_neg h]
  rfl
theorem bS_put {σ : ASt} {B c k : Nat} {U : Nat → Nat → Int32} {x : Int32} (h : c < 29) : wrI (bS σ B U) (B + c) k x = bS σ B (upU U c k x) := by
  unfold wrI bS
  dsimp only
  congr 2
  funext q
  by_cases hq : q = B + c
  · subst hq
    rw [if_pos rfl, if_pos ⟨by omega, by omega⟩, if_pos ⟨by omega, by omega⟩, Nat.add_sub_cancel_left]
    unfold upU
    rw [if_pos rfl]
  · rw [if_neg hq]
    by_cases hr : B ≤ q ∧ q < B + 29
    · rw [if_pos hr, if_pos hr]
      unfold upU
      rw [if_neg (by omega)]
    · rw [if_neg hr, if_neg hr]
theorem bS_put0 {σ : ASt} {B k : Nat} {U : Nat → Nat → Int32} {x : Int32} : wrI (bS σ B U) B k x = bS σ B (upU U 0 k x) := bS_put (c := 0) (by decide)
theorem upU_s {U : Nat → Nat → Int32} {c k : Nat} {x : Int32} : upU U c k x c k = x := by
  unfold upU
  rw [if_pos rfl]
  exact if_pos rfl
theorem upU_k {U : Nat → Nat → Int32} {c k j : Nat} {x : Int32} (h : j ≠ k) : upU U c k x c j = U c j := by
  unfold upU
  rw [if_pos rfl]
  exact if_neg h
theorem upU_c {U : Nat → Nat → Int32} {c k d j : Nat} {x : Int32} (h : d ≠ c) : upU U c k x d j = U d j := by
  unfold upU
  rw [if_neg h]
/-! the places that never change -/
section MEM
variable {σ : ASt} {B : Nat}
theorem MI.sh (H : MI σ) {c k n : Nat} (h : SHP[c]? = some (k, n)) : sh σ c k n := by
  show σ.1[c]? = _
  rw [H.1]; exact h
theorem MI.rf (H : MI σ) {c k r : Nat} (h : RFX.any (fun q => Nat.beq q.1 c && Nat.beq q.2.1 k && Nat.beq q.2.2 r) = true) : rf σ c k r := by
  obtain ⟨q, hq, hb⟩ := List.any_eq_true.mp h
  simp only [Bool.and_eq_true] at hb
  obtain ⟨⟨h1, h2⟩, h3⟩ := hb
  have h4 := H.2 q hq
  rw [Nat.eq_of_beq_eq_true h1, Nat.eq_of_beq_eq_true h2, Nat.eq_of_beq_eq_true h3] at h4
  exact h4
def bsL : List Nat := [1, 30, 63, 92, 121, 150]
theorem isB_mem (hB : isB B) : B ∈ bsL := by
  rcases hB with rfl | rfl | rfl | rfl | rfl | rfl <;> decide
theorem shS (H : MI σ) (hB : isB B) : sh σ B 3 11 := by
  rcases hB with rfl | rfl | rfl | rfl | rfl | rfl <;> exact H.sh rfl
theorem shIA (H : MI σ) (hB : isB B) : sh σ (B + 1) 13 8 := by
  rcases hB with rfl | rfl | rfl | rfl | rfl | rfl <;> exact H.sh rfl
theorem shBA (H : MI σ) (hB : isB B) : sh σ (B + 2) 14 14 := by
  rcases hB with rfl | rfl | rfl | rfl | rfl | rfl <;> exact H.sh rfl
theorem shSe (H : MI σ) (hB : isB B) : sh σ (B + 3) 10 8 := by
  rcases hB with rfl | rfl | rfl | rfl | rfl | rfl <;> exact H.sh rfl
theorem shBk (H : MI σ) (hB : isB B) : sh σ (B + 4) 0 3 := by
  rcases hB with rfl | rfl | rfl | rfl | rfl | rfl <;> exact H.sh rfl
theorem shD (H : MI σ) (hB : isB B) : sh σ (B + 5) 10 8 := by
  rcases hB with rfl | rfl | rfl | rfl | rfl | rfl <;> exact H.sh rfl
theorem shC (H : MI σ) (hB : isB B) : sh σ (B + 6) 10 8 := by
  rcases hB with rfl | rfl | rfl | rfl | rfl | rfl <;> exact H.sh rfl
theorem shI_all : bsL.all (fun B => (List.range 8).all (fun i => decide (SHP[B + 7 + i]? = some (2, 5)))) = true := by decide +kernel
theorem shB_all : bsL.all (fun B => (List.range 14).all (fun i => decide (SHP[B + 15 + i]? = some (1, 9)))) = true := by decide +kernel
theorem shI (H : MI σ) (hB : isB B) {i : Nat} (hi : i < 8) : sh σ (B + 7 + i) 2 5 :=
  H.sh (of_decide_eq_true (List.all_eq_true.mp (List.all_eq_true.mp shI_all B (isB_mem hB)) i (List.mem_range.mpr hi)))
theorem shB (H : MI σ) (hB : isB B) {i : Nat} (hi : i < 14) : sh σ (B + 15 + i) 1 9 :=
  H.sh (of_decide_eq_true (List.all_eq_true.mp (List.all_eq_true.mp shB_all B (isB_mem hB)) i (List.mem_range.mpr hi)))
theorem rf_all : bsL.all (fun B => [(B, 0, B + 1), (B, 1, B + 2), (B, 2, B + 3), (B, 3, B + 4), (B + 4, 0, B + 5), (B + 4, 1, B + 6)].all (fun e => RFX.any (fun q => Nat.beq q.1 e.1 && Nat.beq q.2.1 e.2.1 && Nat.beq q.2.2 e.2.2))) = true := by decide +kernel
theorem rfI_all : bsL.all (fun B => (List.range 8).all (fun i => RFX.any (fun q => Nat.beq q.1 (B + 1) && Nat.beq q.2.1 i && Nat.beq q.2.2 (B + 7 + i)))) = true := by decide +kernel
theorem rfB_all : bsL.all (fun B => (List.range 14).all (fun i => RFX.any (fun q => Nat.beq q.1 (B + 2) && Nat.beq q.2.1 i && Nat.beq q.2.2 (B + 15 + i)))) = true := by decide +kernel
theorem rS (H : MI σ) (hB : isB B) {e : Nat × Nat × Nat} (he : e ∈ [(B, 0, B + 1), (B, 1, B + 2), (B, 2, B + 3), (B, 3, B + 4), (B + 4, 0, B + 5), (B + 4, 1, B + 6)]) : rf σ e.1 e.2.1 e.2.2 :=
  H.rf (List.all_eq_true.mp (List.all_eq_true.mp rf_all B (isB_mem hB)) e he)
theorem rS0 (H : MI σ) (hB : isB B) : rf σ B 0 (B + 1) := rS H hB (e := (B, 0, B + 1)) (by simp)
theorem rS1 (H : MI σ) (hB : isB B) : rf σ B 1 (B + 2) := rS H hB (e := (B, 1, B + 2)) (by simp)
theorem rS2 (H : MI σ) (hB : isB B) : rf σ B 2 (B + 3) := rS H hB (e := (B, 2, B + 3)) (by simp)
theorem rS3 (H : MI σ) (hB : isB B) : rf σ B 3 (B + 4) := rS H hB (e := (B, 3, B + 4)) (by simp)
theorem rK0 (H : MI σ) (hB : isB B) : rf σ (B + 4) 0 (B + 5) := rS H hB (e := (B + 4, 0, B + 5)) (by simp)
theorem rK1 (H : MI σ) (hB : isB B) : rf σ (B + 4) 1 (B + 6) := rS H hB (e := (B + 4, 1, B + 6)) (by simp)
theorem rIA (H : MI σ) (hB : isB B) {i : Nat} (hi : i < 8) : rf σ (B + 1) i (B + 7 + i) := H.rf (List.all_eq_true.mp (List.all_eq_true.mp rfI_all B (isB_mem hB)) i (List.mem_range.mpr hi))
theorem rBA (H : MI σ) (hB : isB B) {i : Nat} (hi : i < 14) : rf σ (B + 2) i (B + 15 + i) := H.rf (List.all_eq_true.mp (List.all_eq_true.mp rfB_all B (isB_mem hB)) i (List.mem_range.mpr hi))
theorem rIAc (H : MI σ) (hB : isB B) {i : Nat} (hi : i < 8) : rf σ (B + 1) (nI i).toNatClampNeg (B + 7 + i) := by rw [nI_clamp (by omega)]; exact rIA H hB hi
theorem rBAc (H : MI σ) (hB : isB B) {i : Nat} (hi : i < 14) : rf σ (B + 2) (nI i).toNatClampNeg (B + 15 + i) := by rw [nI_clamp (by omega)]; exact rBA H hB hi
end MEM
/-! small naturals -/
theorem vi {i n : Nat} (h : i < n) (hn : n < 2 ^ 31) : vp_in (nI i) n := vp_in_nI h hn
theorem cl (i : Nat) (h : i < 2 ^ 31) : (nI i).toNatClampNeg = i := nI_clamp h
theorem nI_and31 {k : Nat} (h : k < 32) : nI k &&& 31 = nI k := by
  have h1 := pk_andN (n := k) (m := 31) (by omega) 5 (by decide)
  rw [h1, Nat.mod_eq_of_lt (by omega)]
theorem smod_nI {k : Nat} (h : k < 32) : ((nI k).toBitVec.smod 32).toNat = k := by
  have h1 : ∀ k, k < 32 → ((nI k).toBitVec.smod 32).toNat = k := by decide
  exact h1 k h
theorem nI_shl {k : Nat} (h : k < 31) : nI 1 <<< (nI k &&& 31) = nI (2 ^ k) := by
  rw [nI_and31 (by omega), pk_shlN (n := 1) (nI k) k (smod_nI (by omega)) (by
    have : 2 ^ k < 2 ^ 31 := Nat.pow_lt_pow_right (by decide) h
    omega), Nat.one_mul]
theorem nI_shr {m k : Nat} (hm : m < 2 ^ 31) (h : k < 32) : nI m >>> (nI k &&& 31) = nI (m / 2 ^ k) := by
  rw [nI_and31 h, pk_shrN hm (nI k) k (smod_nI h)]
theorem nI_of_bv {x : Int32} {n : Nat} (h : n < 2 ^ 32) (hx : x.toBitVec.toNat = n) : x = nI n := by
  apply Int32.toBitVec_inj.mp
  apply BitVec.eq_of_toNat_eq
  rw [pk_tn h, hx]
theorem nI_or {a b : Nat} (ha : a < 2 ^ 31) (hb : b < 2 ^ 31) : nI a ||| nI b = nI (a ||| b) := by
  apply nI_of_bv
  · exact Nat.or_lt_two_pow (by omega) (by omega)
  · rw [Int32.toBitVec_or, BitVec.toNat_or, pk_tn (by omega), pk_tn (by omega)]
theorem nI_and {a b : Nat} (ha : a < 2 ^ 31) (hb : b < 2 ^ 31) : nI a &&& nI b = nI (a &&& b) := by
  apply nI_of_bv
  · exact Nat.and_lt_two_pow _ (by omega)
  · rw [Int32.toBitVec_and, BitVec.toNat_and, pk_tn (by omega), pk_tn (by omega)]
theorem nI_andn {a b : Nat} (ha : a < 2 ^ 31) (hb : b < 2 ^ 31) : nI a &&& (nI b ^^^ (-1)) = nI (a ^^^ (a &&& b)) := by
  apply nI_of_bv
  · exact Nat.xor_lt_two_pow (by omega) (Nat.and_lt_two_pow _ (by omega))
  · rw [Int32.toBitVec_and, Int32.toBitVec_xor]
    apply Nat.eq_of_testBit_eq
    intro i
    rw [Nat.testBit_xor, Nat.testBit_and]
    by_cases hi : i < 32
    · rw [← BitVec.getLsbD, BitVec.getLsbD_and, BitVec.getLsbD_xor, BitVec.getLsbD, BitVec.getLsbD, BitVec.getLsbD, pk_tn (by omega), pk_tn (by omega)]
      have h1 : ((-1 : Int32).toBitVec.toNat).testBit i = true := by
        have : (-1 : Int32).toBitVec.toNat = 2 ^ 32 - 1 := by decide
        rw [this, Nat.testBit_two_pow_sub_one]
        simpa using hi
      rw [h1]
      cases a.testBit i <;> cases b.testBit i <;> rfl
    · have e1 : a.testBit i = false := Nat.testBit_lt_two_pow (Nat.lt_of_lt_of_le ha (Nat.pow_le_pow_right (by decide) (by omega)))
      rw [e1]
      rw [← BitVec.getLsbD, BitVec.getLsbD_of_ge _ _ (by omega)]
      rfl
