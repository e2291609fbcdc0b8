theorem tb_ac_int : Cond.arrayClass .int ∈ TB := tb_of 119 (by decide +kernel) rfl
theorem tb_ac_char : Cond.arrayClass .char ∈ TB := tb_of 268 (by decide +kernel) rfl
theorem tb_ac_boolean : Cond.arrayClass .boolean ∈ TB := tb_of 730 (by decide +kernel) rfl
theorem tb_same : Cond.sameMethod "[I" "java/lang/Object" "clone" "()Ljava/lang/Object;" ∈ TB := tb_of 96 (by decide +kernel) rfl
theorem tb_cnat : Cond.native ⟨"java/lang/Object", "clone", "()Ljava/lang/Object;"⟩ ∈ TB := tb_of 97 (by decide +kernel) rfl
theorem tb_cins : Cond.instanceMethod ⟨"java/lang/Object", "clone", "()Ljava/lang/Object;"⟩ ∈ TB := tb_of 98 (by decide +kernel) rfl
theorem tb_csel : Cond.selects "[I" ⟨"[I", "clone", "()Ljava/lang/Object;"⟩ ⟨"java/lang/Object", "clone", "()Ljava/lang/Object;"⟩ ∈ TB := tb_of 99 (by decide +kernel) rfl
theorem tb_fnat : Cond.native ⟨"java/lang/Float", "floatToRawIntBits", "(F)I"⟩ ∈ TB := tb_of 977 (by decide +kernel) rfl
theorem tb_fst : Cond.static ⟨"java/lang/Float", "floatToRawIntBits", "(F)I"⟩ ∈ TB := tb_of 976 (by decide +kernel) rfl
theorem tb_fin : Cond.initialized "java/lang/Float" ∈ TB := tb_of 74 (by decide +kernel) rfl
theorem tb_oin : Cond.instanceMethod Lib.objectInit ∈ TB := tb_of 81 (by decide +kernel) rfl
theorem tb_oco : Cond.code Lib.objectInit ⟨#[0xb1]⟩ 1 none ∈ TB := tb_of 82 (by decide +kernel) rfl
theorem lkM_vc : lkM.all (fun e => match e.2.2.2.1 with | 0 => Nat.blt (mCls e.2.2.1) 7 | 3 => Nat.blt (mCls e.2.2.1) 7 | _ => true) = true := by decide +kernel
