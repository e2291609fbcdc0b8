theorem tb_ac_int : Cond.arrayClass .int ∈ TB := tb_of 69 (by decide +kernel) rfl
theorem tb_ac_char : Cond.arrayClass .char ∈ TB := tb_of 218 (by decide +kernel) rfl
theorem tb_same : Cond.sameMethod "[I" "java/lang/Object" "clone" "()Ljava/lang/Object;" ∈ TB := tb_of 46 (by decide +kernel) rfl
theorem tb_cnat : Cond.native ⟨"java/lang/Object", "clone", "()Ljava/lang/Object;"⟩ ∈ TB := tb_of 47 (by decide +kernel) rfl
theorem tb_cins : Cond.instanceMethod ⟨"java/lang/Object", "clone", "()Ljava/lang/Object;"⟩ ∈ TB := tb_of 48 (by decide +kernel) rfl
theorem tb_csel : Cond.selects "[I" ⟨"[I", "clone", "()Ljava/lang/Object;"⟩ ⟨"java/lang/Object", "clone", "()Ljava/lang/Object;"⟩ ∈ TB := tb_of 49 (by decide +kernel) rfl
theorem tb_oin : Cond.instanceMethod Lib.objectInit ∈ TB := tb_of 31 (by decide +kernel) rfl
theorem tb_oco : Cond.code Lib.objectInit ⟨#[0xb1]⟩ 1 none ∈ TB := tb_of 32 (by decide +kernel) rfl
theorem tb_inst {ci : Nat} (h : ci < 6) : Cond.instantiable (rN ci) (nFl ci) ∈ TB := match ci, h with
  | 0, _ => tb_of 53 (by decide +kernel) rfl
  | 1, _ => tb_of 101 (by decide +kernel) rfl
  | 2, _ => tb_of 70 (by decide +kernel) rfl
  | 3, _ => tb_of 34 (by decide +kernel) rfl
  | 4, _ => tb_of 193 (by decide +kernel) rfl
  | 5, _ => tb_of 26 (by decide +kernel) rfl
  | k + 6, h => absurd h (by omega)
theorem lw_at {w : Cond} (i : Nat) (h : lw_tbl[i]? = some w) : w ∈ lw_tbl := List.mem_of_getElem? h
theorem nst_in : ∀ w ∈ nstW, w ∈ lw_tbl := by
  have h : nstW = nstP.filterMap (fun i => lw_tbl[i]?) := by decide +kernel
  intro w hw
  rw [h] at hw
  obtain ⟨i, -, hi⟩ := List.mem_filterMap.mp hw
  exact List.mem_of_getElem? hi
theorem ov_13 : Cond.arrayOver (.object (rN (aCl 13))) ∈ lw_tbl := lw_at 40 (by decide +kernel)
theorem ov_14 : Cond.arrayOver (.object (rN (aCl 14))) ∈ lw_tbl := lw_at 42 (by decide +kernel)
theorem ov_15 : Cond.arrayOver (.object (rN (aCl 15))) ∈ lw_tbl := lw_at 191 (by decide +kernel)
theorem cst_in : Cond.castable "[I" "java/lang/Cloneable" ∈ lw_tbl := lw_at 50 (by decide +kernel)
theorem lst_0 : Cond.laysStatic sCl (sNm 0) "[I" ∈ lw_tbl := lw_at 44 (by decide +kernel)
theorem lst_1 : Cond.laysStatic sCl (sNm 1) "[I" ∈ lw_tbl := lw_at 600 (by decide +kernel)
theorem lst_2 : Cond.laysStatic sCl (sNm 2) "[I" ∈ lw_tbl := lw_at 602 (by decide +kernel)
theorem ini_in : Cond.initialized sCl ∈ lw_tbl := lw_at 17 (by decide +kernel)
