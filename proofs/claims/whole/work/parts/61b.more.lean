theorem tb_ac_int : Cond.arrayClass .int ∈ TB := tb_of 119 (by decide +kernel) rfl
theorem tb_ac_char : Cond.arrayClass .char ∈ TB := tb_of 268 (by decide +kernel) rfl
theorem tb_ac_boolean : Cond.arrayClass .boolean ∈ TB := tb_of 727 (by decide +kernel) rfl
theorem tb_same : Cond.sameMethod "[I" "java/lang/Object" "clone" "()Ljava/lang/Object;" ∈ TB := tb_of 96 (by decide +kernel) rfl
theorem tb_cnat : Cond.native ⟨"java/lang/Object", "clone", "()Ljava/lang/Object;"⟩ ∈ TB := tb_of 97 (by decide +kernel) rfl
theorem tb_cins : Cond.instanceMethod ⟨"java/lang/Object", "clone", "()Ljava/lang/Object;"⟩ ∈ TB := tb_of 98 (by decide +kernel) rfl
theorem tb_csel : Cond.selects "[I" ⟨"[I", "clone", "()Ljava/lang/Object;"⟩ ⟨"java/lang/Object", "clone", "()Ljava/lang/Object;"⟩ ∈ TB := tb_of 99 (by decide +kernel) rfl
theorem tb_fnat : Cond.native ⟨"java/lang/Float", "floatToRawIntBits", "(F)I"⟩ ∈ TB := tb_of 974 (by decide +kernel) rfl
theorem tb_fst : Cond.static ⟨"java/lang/Float", "floatToRawIntBits", "(F)I"⟩ ∈ TB := tb_of 973 (by decide +kernel) rfl
theorem tb_fin : Cond.initialized "java/lang/Float" ∈ TB := tb_of 74 (by decide +kernel) rfl
theorem tb_oin : Cond.instanceMethod Lib.objectInit ∈ TB := tb_of 81 (by decide +kernel) rfl
theorem tb_oco : Cond.code Lib.objectInit ⟨#[0xb1]⟩ 1 none ∈ TB := tb_of 82 (by decide +kernel) rfl
theorem tb_inst {ci : Nat} (h : ci < 7) : Cond.instantiable (rN ci) (nFl ci) ∈ TB := match ci, h with
  | 0, _ => tb_of 103 (by decide +kernel) rfl
  | 1, _ => tb_of 151 (by decide +kernel) rfl
  | 2, _ => tb_of 120 (by decide +kernel) rfl
  | 3, _ => tb_of 84 (by decide +kernel) rfl
  | 4, _ => tb_of 243 (by decide +kernel) rfl
  | 5, _ => tb_of 76 (by decide +kernel) rfl
  | 6, _ => tb_of 676 (by decide +kernel) rfl
  | k + 7, h => absurd h (by omega)
theorem lw_at {w : Cond} (i : Nat) (h : lw_tbl[i]? = some w) : w ∈ lw_tbl := List.mem_of_getElem? h
theorem nst_in : ∀ w ∈ nstW, w ∈ lw_tbl := by
  have h : nstW = nstP.filterMap (fun i => lw_tbl[i]?) := by decide +kernel
  intro w hw
  rw [h] at hw
  obtain ⟨i, -, hi⟩ := List.mem_filterMap.mp hw
  exact List.mem_of_getElem? hi
theorem ov_13 : Cond.arrayOver (.object (rN (aCl 13))) ∈ lw_tbl := lw_at 90 (by decide +kernel)
theorem ov_14 : Cond.arrayOver (.object (rN (aCl 14))) ∈ lw_tbl := lw_at 92 (by decide +kernel)
theorem ov_15 : Cond.arrayOver (.object (rN (aCl 15))) ∈ lw_tbl := lw_at 241 (by decide +kernel)
theorem cst_in : Cond.castable "[I" "java/lang/Cloneable" ∈ lw_tbl := lw_at 100 (by decide +kernel)
theorem lst_0 : Cond.laysStatic sCl (sNm 0) "[I" ∈ lw_tbl := lw_at 94 (by decide +kernel)
theorem lst_1 : Cond.laysStatic sCl (sNm 1) "[I" ∈ lw_tbl := lw_at 498 (by decide +kernel)
theorem lst_2 : Cond.laysStatic sCl (sNm 2) "[I" ∈ lw_tbl := lw_at 500 (by decide +kernel)
theorem ini_in : Cond.initialized sCl ∈ lw_tbl := lw_at 65 (by decide +kernel)
