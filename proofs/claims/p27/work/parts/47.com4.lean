/-! free crews, reasons -/
section COM4
variable {E : AEnv} {σ τ : ASt} {B : Nat} {U : Nat → Nat → Int32} {V : Nat → Nat} {m n t : Nat} {Q : Option Value → ASt → Prop} {K : Int32 → ASt → Prop} {KV : ASt → Prop}
theorem ush {x : Nat} (hx : x < 2 ^ 31) {k : Nat} (hk : k < 31) : ((nI x).toUInt32 >>> ((nI k).toUInt32 &&& Int32.toUInt32 31)).toInt32 = nI (x / 2 ^ k) := by
  have h1 : ∀ k, k < 31 → (((nI k).toUInt32 &&& Int32.toUInt32 31).toBitVec % 32).toNat = k := by decide
  exact pk_ushrN (by omega) (nI k) k (h1 k hk)
theorem bc_is {S : Nat} (h : S < 16384) : bcN S = cntM S 14 := Nat.eq_of_beq_eq_true (List.all_eq_true.mp bc_all S (List.mem_range.mpr h))
theorem c_bc {s : ASt} {S : Nat} (h : S < 16384) (hK : K (nI (cntM S 14)) s) : cI E 92 [.int (nI S)] s K := by
  have d1 : S / 2 ^ 1 &&& 1431655765 ≤ S / 2 ^ 1 := Nat.and_le_left
  have h0 : S / 2 ^ 1 < 16384 := by omega
  have h1 : bc1 S < 16384 := by unfold bc1; omega
  have a1 : bc1 S &&& 858993459 ≤ bc1 S := Nat.and_le_left
  have a2 : bc1 S / 2 ^ 2 &&& 858993459 ≤ bc1 S / 2 ^ 2 := Nat.and_le_left
  have h2 : bc2 (bc1 S) < 32768 := by unfold bc2; omega
  have a3 : (bc2 (bc1 S) + bc2 (bc1 S) / 2 ^ 4) &&& 252645135 ≤ bc2 (bc1 S) + bc2 (bc1 S) / 2 ^ 4 := Nat.and_le_left
  have h3 : bc3 (bc2 (bc1 S)) < 65536 := by unfold bc3; omega
  have h4 : bc4 (bc3 (bc2 (bc1 S))) < 131072 := by unfold bc4; omega
  have h5 : bc5 (bc4 (bc3 (bc2 (bc1 S)))) < 262144 := by unfold bc5; omega
  rw [← bc_is h] at hK
  refine sg92_0 ?_
  rw [ush (x := S) (k := 1) (by omega) (by decide), nI_and (a := S / 2 ^ 1) (b := 1431655765) (by omega) (by decide), show nI S - nI (S / 2 ^ 1 &&& 1431655765) = nI (bc1 S) from pk_sub (by omega)]
  rw [nI_and (a := bc1 S) (b := 858993459) (by omega) (by decide), ush (x := bc1 S) (k := 2) (by omega) (by decide), nI_and (a := bc1 S / 2 ^ 2) (b := 858993459) (by omega) (by decide), show nI (bc1 S &&& 858993459) + nI (bc1 S / 2 ^ 2 &&& 858993459) = nI (bc2 (bc1 S)) from nI_add _ _]
  rw [ush (x := bc2 (bc1 S)) (k := 4) (by omega) (by decide), nI_add, nI_and (a := bc2 (bc1 S) + bc2 (bc1 S) / 2 ^ 4) (b := 252645135) (by omega) (by decide), show nI (bc2 (bc1 S) + bc2 (bc1 S) / 2 ^ 4 &&& 252645135) = nI (bc3 (bc2 (bc1 S))) from rfl]
  rw [ush (x := bc3 (bc2 (bc1 S))) (k := 8) (by omega) (by decide), nI_add, show nI (bc3 (bc2 (bc1 S)) + bc3 (bc2 (bc1 S)) / 2 ^ 8) = nI (bc4 (bc3 (bc2 (bc1 S)))) from rfl]
  rw [ush (x := bc4 (bc3 (bc2 (bc1 S)))) (k := 16) (by omega) (by decide), nI_add, show nI (bc4 (bc3 (bc2 (bc1 S))) + bc4 (bc3 (bc2 (bc1 S))) / 2 ^ 16) = nI (bc5 (bc4 (bc3 (bc2 (bc1 S))))) from rfl, nI_and (a := bc5 (bc4 (bc3 (bc2 (bc1 S))))) (b := 63) (by omega) (by decide)]
  exact hK
theorem c_max {s : ASt} {x y : Int32} (h1 : x < y → K y s) (h2 : ¬ x < y → K x s) : cI E 93 [.int x, .int y] s K := sg93_0 ⟨h1, h2⟩
theorem cnt_set (p : Nat → Bool) {N : Nat} : ∀ k, k ≤ N → cntM (setN p N) k = cntM (setN p k) k
  | 0, _ => rfl
  | k + 1, h => by
    have e : ∀ j, j ≤ k → cntM (setN p N) j = cntM (setN p (k + 1)) j := by
      intro j
      induction j with
      | zero => intro _; rfl
      | succ j ih =>
        intro hj
        rw [cntM, cntM, ih (by omega), setN_b, setN_b, decide_eq_true (by omega : j < N), decide_eq_true (by omega : j < k + 1)]
    rw [cntM, cntM, e k (Nat.le_refl _), setN_b, setN_b, decide_eq_true (by omega : k < N), decide_eq_true (by omega : k < k + 1)]
theorem cnt_pc (hw : WF m V) : ∀ k N, k ≤ N → k ≤ V 2 → cntM (setN (isSt V 1) N) k = pcN V k
  | 0, _, _, _ => rfl
  | k + 1, N, hN, hk => by
    have h3 := hw.2.2.1 k (by omega)
    rw [cntM, pcN, cnt_pc hw k N (by omega) (by omega), setN_b, decide_eq_true (by omega : k < N), Bool.true_and]
    congr 1
    have e : isSt V 1 k = true ↔ V (72 + 8 * k + 4) = 1 := by
      unfold isSt stOf
      rw [beq_iff']
      by_cases h : V (72 + 8 * k + 4) = 1
      · rw [if_pos (show pntd V k = true from beq_iff'.mpr h)]
        exact ⟨fun _ => h, fun _ => rfl⟩
      · rw [if_neg (show ¬ pntd V k = true from fun z => h (beq_iff'.mp z))]
        split <;> omega
    by_cases h : V (72 + 8 * k + 4) = 1
    · rw [if_pos (e.mpr h), h]
    · rw [if_neg (fun z => h (e.mp z))]; omega
theorem cnt_up {S : Nat} {k : Nat} (h : S < 2 ^ k) : ∀ n, k ≤ n → cntM S n = cntM S k := by
  intro n
  induction n with
  | zero => intro hk; rw [show k = 0 by omega]
  | succ n ih =>
    intro hk
    by_cases hkn : k = n + 1
    · rw [hkn]
    · have hz : S.testBit n = false := Nat.testBit_lt_two_pow (Nat.lt_of_lt_of_le h (Nat.pow_le_pow_right (by decide) (by omega)))
      rw [cntM, ih (by omega), hz, if_neg ff]
      rfl
theorem c_fc (H : MI σ) (hB : isB B) (hw : WF m V) (R : Rel U V) (hK : K (nI (V 3 - pcV V)) (bS σ B U)) : cI E 35 [.ref B] (bS σ B U) K := by
  have h1 := hw.1
  unfold W1 at h1
  have h2 := hw.2.1
  unfold W2 at h2
  have hp := pcV_le hw
  have hs := setN_lt' (isSt V 1) (n := V 2) (by omega)
  refine sg35_0 ⟨shS H hB, _, rS2 H hB, 8, shSe H hB, vi (by decide) (by decide), shS H hB, c_st H hB hw R (by decide) (c_bc hs ?_)⟩
  rw [cnt_up (setN_lt (isSt V 1) (V 2)) 14 (by omega), cnt_pc hw (V 2) (V 2) (Nat.le_refl _) (Nat.le_refl _), bS_get (by decide), R.2.1 0 (by decide)]
  show cI E 93 [.int (nI 0), .int (nI (V 3) - nI (pcV V))] (bS σ B U) _
  by_cases h : pcV V ≤ V 3
  · rw [pk_sub h]
    have e := nI_ltI (a := 0) (b := V 3 - pcV V) (by decide) (by omega)
    refine c_max (fun _ => hK) fun g => ?_
    have : V 3 - pcV V = 0 := by
      have : ¬ 0 < V 3 - pcV V := fun z => g (e.mpr z)
      omega
    rw [this] at hK
    exact hK
  · refine c_max (fun g => ?_) fun g => ?_
    · exfalso
      refine h (nI_subT (by omega) (by omega) ?_)
      rw [Int32.lt_iff_toInt_lt] at g
      rw [Int32.le_iff_toInt_le]
      omega
    · rw [show V 3 - pcV V = 0 by omega] at hK
      exact hK
end COM4
