/-! the normalised code is the code; the links are the tables' words. All by the kernel. -/
def TB : List Cond := lw_tbl.filter goodWord
theorem tb_of {w : Cond} (i : Nat) (h : lw_tbl[i]? = some w) (hg : goodWord w = true) : w ∈ TB := List.mem_filter.mpr ⟨List.mem_of_getElem? h, hg⟩
theorem tb_lw {w : Cond} (h : w ∈ TB) : w ∈ lw_tbl := (List.mem_filter.mp h).1
theorem tb_good (ws : List Cond) (h : ∀ w ∈ ws, w ∈ TB) : GoodIn TB ws := fun w hw => ⟨h w hw, good_of_word (List.mem_filter.mp (h w hw)).2⟩
theorem good_word {w : Cond} (h : (w.onTables && w.keeps) = true ∨ ∃ ty, w = .arrayClass ty) : goodWord w = true := by
  rcases h with h | ⟨ty, rfl⟩
  · cases w <;> first | rfl | exact h
  · rfl
def ln (nx pc k : Nat) : Bool := Nat.beq nx (pc + k)
def k_int (o n : Nat) (v : Int) (nx pc : Nat) (a : Instr) : Bool := match a with
  | .iconst m => decide (ic v = Int32.ofInt m) && ln nx pc 1
  | .bipush m => decide (ic v = (Int8.ofInt m).toInt32) && ln nx pc 2
  | .sipush m => decide (ic v = (Int16.ofInt m).toInt32) && ln nx pc 3
  | .ldc c => lkK.any (fun e => Nat.beq e.1 o && Nat.beq e.2.1 c && decide (e.2.2.1 = v)) && ln nx pc 2
  | .ldc_w c => lkK.any (fun e => Nat.beq e.1 o && Nat.beq e.2.1 c && decide (e.2.2.1 = v)) && ln nx pc 3
  | _ => false
def k_flt (o b nx pc : Nat) (a : Instr) : Bool := match a with
  | .fconst f => decide (UInt32.ofNat b = (match f with | 0 => FP.fconst0 | 1 => FP.fconst1 | 2 => FP.fconst2)) && ln nx pc 1
  | .ldc c => lkFK.any (fun e => Nat.beq e.1 o && Nat.beq e.2.1 c && Nat.beq e.2.2.1 b) && ln nx pc 2
  | .ldc_w c => lkFK.any (fun e => Nat.beq e.1 o && Nat.beq e.2.1 c && Nat.beq e.2.2.1 b) && ln nx pc 3
  | _ => false
def k_il (i nx pc : Nat) (a : Instr) : Bool := match a with
  | .iload_n k => Nat.beq k.val i && ln nx pc 1
  | .iload j => Nat.beq j i && ln nx pc 2
  | _ => false
def k_al (i nx pc : Nat) (a : Instr) : Bool := match a with
  | .aload_n k => Nat.beq k.val i && ln nx pc 1
  | .aload j => Nat.beq j i && ln nx pc 2
  | _ => false
def k_fl (i nx pc : Nat) (a : Instr) : Bool := match a with
  | .fload_n k => Nat.beq k.val i && ln nx pc 1
  | .fload j => Nat.beq j i && ln nx pc 2
  | _ => false
def k_is (mx i nx pc : Nat) (a : Instr) : Bool := match a with
  | .istore_n k => Nat.beq k.val i && ln nx pc 1 && Nat.blt i mx
  | .istore j => Nat.beq j i && ln nx pc 2 && Nat.blt i mx
  | _ => false
def k_as (mx i nx pc : Nat) (a : Instr) : Bool := match a with
  | .astore_n k => Nat.beq k.val i && ln nx pc 1 && Nat.blt i mx
  | .astore j => Nat.beq j i && ln nx pc 2 && Nat.blt i mx
  | _ => false
def k_fs (mx i nx pc : Nat) (a : Instr) : Bool := match a with
  | .fstore_n k => Nat.beq k.val i && ln nx pc 1 && Nat.blt i mx
  | .fstore j => Nat.beq j i && ln nx pc 2 && Nat.blt i mx
  | _ => false
def k_ldl (o b nx pc : Nat) (a : Instr) : Bool := match a with
  | .ldc2_w c => lkLK.any (fun e => Nat.beq e.1 o && Nat.beq e.2.1 c && Nat.beq e.2.2.1 b) && ln nx pc 3
  | _ => false
def k_ll (i nx pc : Nat) (a : Instr) : Bool := match a with
  | .lload_n k => Nat.beq k.val i && ln nx pc 1
  | .lload j => Nat.beq j i && ln nx pc 2
  | _ => false
def k_lst (mx i nx pc : Nat) (a : Instr) : Bool := match a with
  | .lstore_n k => Nat.beq k.val i && ln nx pc 1 && Nat.blt (i + 1) mx
  | .lstore j => Nat.beq j i && ln nx pc 2 && Nat.blt (i + 1) mx
  | _ => false
def k_inc (mx i : Nat) (n : Int) (nx pc : Nat) (a : Instr) : Bool := match a with
  | .iinc j q => Nat.beq j i && decide (ic n = Int32.ofInt q) && ln nx pc 3 && Nat.blt i mx
  | _ => false
def k_same (o : Instr) (nx pc : Nat) (a : Instr) : Bool := decide (a = o) && ln nx pc 1
def tgB (pc : Nat) (off t : Int) : Bool := decide ((pc : Int) + off = t) && decide (0 ≤ t)
def k_goto (t : Int) (nx pc : Nat) (a : Instr) : Bool := match a with
  | .goto off => tgB pc off t && ln nx pc 3
  | _ => false
def k_if (c : Jvm.ClassFile.Cond) (t : Int) (nx pc : Nat) (a : Instr) : Bool := match a with
  | .ifCond c' off => decide (c' = c) && tgB pc off t && ln nx pc 3
  | _ => false
def k_icmp (c : Jvm.ClassFile.Cond) (t : Int) (nx pc : Nat) (a : Instr) : Bool := match a with
  | .if_icmp c' off => decide (c' = c) && tgB pc off t && ln nx pc 3
  | _ => false
def k_ts (d lo hi : Int) (ts : Array Int) (pc : Nat) (a : Instr) : Bool := match a with
  | .tableswitch d' lo' hi' offs => decide (lo' = lo) && decide (hi' = hi) && tgB pc d' d && decide (offs.toList.map (fun q => (pc : Int) + q) = ts.toList) && ts.toList.all (fun q => decide (0 ≤ q)) && decide (hi - lo + 1 = (ts.toList.length : Int))
  | _ => false
def k_ls (d : Int) (ps : Array (Int × Int)) (pc : Nat) (a : Instr) : Bool := match a with
  | .lookupswitch d' ps' => tgB pc d' d && decide (ps'.toList.map (fun q => (q.1, (pc : Int) + q.2)) = ps.toList) && ps.toList.all (fun q => decide (0 ≤ q.2)) && (ps'.toList.zip (ps'.toList.drop 1)).all (fun (a, next) => a.1 < next.1)
  | _ => false
def k_gf (o i nx pc : Nat) (a : Instr) : Bool := match a with
  | .getfield c => lkF.any (fun e => Nat.beq e.1 o && Nat.beq e.2.1 c && Nat.beq e.2.2.1 i) && ln nx pc 3
  | _ => false
def k_pf (o : Nat) (nm : String) (i nx pc : Nat) (a : Instr) : Bool := match a with
  | .putfield c => lkF.any (fun e => Nat.beq e.1 o && Nat.beq e.2.1 c && Nat.beq e.2.2.1 i) && ln nx pc 3 && (((cTT (i / 100) (i % 100)).2.2.2 == false) || (decide (nm = "<init>") && decide ((cTT (i / 100) (i % 100)).1 = rN o)))
  | _ => false
def k_gs (o j nx pc : Nat) (a : Instr) : Bool := match a with
  | .getstatic c => lkS.any (fun e => Nat.beq e.1 o && Nat.beq e.2.1 c && Nat.beq e.2.2 j) && ln nx pc 3
  | _ => false
def k_aal (k nx pc : Nat) (a : Instr) : Bool := match a with
  | .aaload => ln nx pc 1 && Nat.ble 13 k && Nat.blt k 16
  | _ => false
def k_aas (k nx pc : Nat) (a : Instr) : Bool := match a with
  | .aastore => ln nx pc 1 && Nat.ble 13 k && Nat.blt k 16
  | _ => false
def k_kal (nx pc : Nat) (a : Instr) : Bool := match a with
  | .iaload => ln nx pc 1
  | _ => false
def k_na (t : ArrayType) (nx pc : Nat) (a : Instr) : Bool := match a with
  | .newarray u => decide (u = t) && ln nx pc 2 && (decide (t = .int) || decide (t = .char))
  | _ => false
def k_ana (o k nx pc : Nat) (a : Instr) : Bool := match a with
  | .anewarray c => lkA.any (fun e => Nat.beq e.1 o && Nat.beq e.2.1 c && Nat.beq e.2.2.1 k) && ln nx pc 3
  | _ => false
def k_new (o ci nx pc : Nat) (a : Instr) : Bool := match a with
  | .new c => lkN.any (fun e => Nat.beq e.1 o && Nat.beq e.2.1 c && Nat.beq e.2.2.1 ci) && ln nx pc 3
  | _ => false
def k_oi (o dp nx pc : Nat) (a : Instr) : Bool := match a with
  | .invokespecial c => lkO.any (fun e => Nat.beq e.1 o && Nat.beq e.2.1 c) && ln nx pc 3 && Nat.ble 1 dp
  | _ => false
def k_cl (o dp nx pc : Nat) (a : Instr) : Bool := match a with
  | .invokevirtual c => lkC.any (fun e => Nat.beq e.1 o && Nat.beq e.2.1 c) && ln nx pc 3 && Nat.ble 1 dp
  | _ => false
def k_cc (o nx pc : Nat) (a : Instr) : Bool := match a with
  | .checkcast c => lkX.any (fun e => Nat.beq e.1 o && Nat.beq e.2.1 c) && ln nx pc 3
  | _ => false
def mAny (o c t k : Nat) : Bool := lkM.any (fun e => Nat.beq e.1 o && Nat.beq e.2.1 c && Nat.beq e.2.2.1 t && Nat.beq e.2.2.2.1 k)
def k_iv (o dp t nx pc : Nat) (a : Instr) : Bool := match a with
  | .invokevirtual c => (mAny o c t 0 || mAny o c t 3) && ln nx pc 3 && Nat.blt (mDep t) dp
  | .invokespecial c => (mAny o c t 2 || mAny o c t 5) && ln nx pc 3 && Nat.blt (mDep t) dp
  | _ => false
def k_st (o dp t nx pc : Nat) (a : Instr) : Bool := match a with
  | .invokestatic c => (mAny o c t 1 || mAny o c t 4) && ln nx pc 3 && Nat.blt (mDep t) dp
  | _ => false
def isObjT (t : Option FieldType) : Bool := match t with
  | some (.object _) => true
  | _ => false
/-- the normalised instruction 'op' (next: nx) of method mi at pc stands for the real one, a -/
def lkOK (mi pc : Nat) (op : Instr) (nx : Nat) (a : Instr) : Bool := match op with
  | .iconst n => k_int (mCls mi) 0 n nx pc a
  | .ldc n => k_flt (mCls mi) n nx pc a
  | .iload i => k_il i nx pc a
  | .aload i => k_al i nx pc a
  | .fload i => k_fl i nx pc a
  | .istore i => k_is (mMax mi) i nx pc a
  | .astore i => k_as (mMax mi) i nx pc a
  | .fstore i => k_fs (mMax mi) i nx pc a
  | .iinc i n => k_inc (mMax mi) i n nx pc a
  | .ldc2_w n => k_ldl (mCls mi) n nx pc a
  | .lload i => k_ll i nx pc a
  | .lstore i => k_lst (mMax mi) i nx pc a
  | .goto t => k_goto t nx pc a
  | .ifCond c t => k_if c t nx pc a
  | .if_icmp c t => k_icmp c t nx pc a
  | .tableswitch d lo hi ts => k_ts d lo hi ts pc a
  | .lookupswitch d ps => k_ls d ps pc a
  | .getfield i => k_gf (mCls mi) i nx pc a && Nat.blt (i / 100) 6 && Nat.blt (i % 100) (nFl (i / 100))
  | .putfield i => k_pf (mCls mi) (mNam mi).name i nx pc a && Nat.blt (i / 100) 6 && Nat.blt (i % 100) (nFl (i / 100))
  | .getstatic j => k_gs (mCls mi) j nx pc a
  | .laload => k_kal nx pc a
  | .instanceof k => k_aal k nx pc a
  | .multianewarray k _ => k_aas k nx pc a
  | .newarray t => k_na t nx pc a
  | .anewarray k => k_ana (mCls mi) k nx pc a
  | .new ci => k_new (mCls mi) ci nx pc a && Nat.blt ci 6
  | .nop => k_oi (mCls mi) (mDep mi) nx pc a
  | .invokedynamic 0 => k_cl (mCls mi) (mDep mi) nx pc a
  | .invokedynamic 1 => false
  | .baload => false
  | .bastore => false
  | .checkcast _ => k_cc (mCls mi) nx pc a
  | .invokevirtual t => k_iv (mCls mi) (mDep mi) t nx pc a
  | .invokestatic t => k_st (mCls mi) (mDep mi) t nx pc a
  | .ireturn => k_same .ireturn nx pc a && decide (mRet mi = some .int)
  | .freturn => k_same .ireturn nx pc a && decide (mRet mi = some .boolean)
  | .areturn => k_same .areturn nx pc a && isObjT (mRet mi)
  | .lreturn => k_same .lreturn nx pc a && decide (mRet mi = some .long)
  | .return_ => k_same .return_ nx pc a && decide (mRet mi = none)
  | o => k_same o nx pc a
def ckE (mi : Nat) (q : AEnt × Instr) : Bool := decide (decode (mByt mi) q.1.1 = .ok (q.2, q.1.2.2.1 - q.1.1)) && lkOK mi q.1.1 q.1.2.1 q.1.2.2.1 q.2

theorem ck0 : (pg0.zip ac0).all (ckE 0) = true := by decide +kernel
theorem ck1 : (pg1.zip ac1).all (ckE 1) = true := by decide +kernel
theorem ck2 : (pg2.zip ac2).all (ckE 2) = true := by decide +kernel
theorem ck3 : (pg3.zip ac3).all (ckE 3) = true := by decide +kernel
theorem ck4 : (pg4.zip ac4).all (ckE 4) = true := by decide +kernel
theorem ck5 : (pg5.zip ac5).all (ckE 5) = true := by decide +kernel
theorem ck6 : (pg6.zip ac6).all (ckE 6) = true := by decide +kernel
theorem ck7 : (pg7.zip ac7).all (ckE 7) = true := by decide +kernel
theorem ck8 : (pg8.zip ac8).all (ckE 8) = true := by decide +kernel
theorem ck9 : (pg9.zip ac9).all (ckE 9) = true := by decide +kernel
theorem ck10 : (pg10.zip ac10).all (ckE 10) = true := by decide +kernel
theorem ck11 : (pg11.zip ac11).all (ckE 11) = true := by decide +kernel
theorem ck12 : (pg12.zip ac12).all (ckE 12) = true := by decide +kernel
theorem ck13 : (pg13.zip ac13).all (ckE 13) = true := by decide +kernel
theorem ck14 : (pg14.zip ac14).all (ckE 14) = true := by decide +kernel
theorem ck15 : (pg15.zip ac15).all (ckE 15) = true := by decide +kernel
theorem ck16 : (pg16.zip ac16).all (ckE 16) = true := by decide +kernel
theorem ck17 : (pg17.zip ac17).all (ckE 17) = true := by decide +kernel
theorem ck18_0 : (pg18_0.zip ac18_0).all (ckE 18) = true := by decide +kernel
theorem ck18_1 : (pg18_1.zip ac18_1).all (ckE 18) = true := by decide +kernel
theorem ck19_0 : (pg19_0.zip ac19_0).all (ckE 19) = true := by decide +kernel
theorem ck19_1 : (pg19_1.zip ac19_1).all (ckE 19) = true := by decide +kernel
theorem ck19_2 : (pg19_2.zip ac19_2).all (ckE 19) = true := by decide +kernel
theorem ck20 : (pg20.zip ac20).all (ckE 20) = true := by decide +kernel
theorem ck21 : (pg21.zip ac21).all (ckE 21) = true := by decide +kernel
theorem ck22 : (pg22.zip ac22).all (ckE 22) = true := by decide +kernel
theorem ck23_0 : (pg23_0.zip ac23_0).all (ckE 23) = true := by decide +kernel
theorem ck23_1 : (pg23_1.zip ac23_1).all (ckE 23) = true := by decide +kernel
theorem ck24_0 : (pg24_0.zip ac24_0).all (ckE 24) = true := by decide +kernel
theorem ck24_1 : (pg24_1.zip ac24_1).all (ckE 24) = true := by decide +kernel
theorem ck25 : (pg25.zip ac25).all (ckE 25) = true := by decide +kernel
theorem ck26 : (pg26.zip ac26).all (ckE 26) = true := by decide +kernel
theorem ck27 : (pg27.zip ac27).all (ckE 27) = true := by decide +kernel
theorem ck28 : (pg28.zip ac28).all (ckE 28) = true := by decide +kernel
theorem ck29_0 : (pg29_0.zip ac29_0).all (ckE 29) = true := by decide +kernel
theorem ck29_1 : (pg29_1.zip ac29_1).all (ckE 29) = true := by decide +kernel
theorem ck30_0 : (pg30_0.zip ac30_0).all (ckE 30) = true := by decide +kernel
theorem ck30_1 : (pg30_1.zip ac30_1).all (ckE 30) = true := by decide +kernel
theorem ck31 : (pg31.zip ac31).all (ckE 31) = true := by decide +kernel
theorem ck32_0 : (pg32_0.zip ac32_0).all (ckE 32) = true := by decide +kernel
theorem ck32_1 : (pg32_1.zip ac32_1).all (ckE 32) = true := by decide +kernel
theorem ck33 : (pg33.zip ac33).all (ckE 33) = true := by decide +kernel
theorem ck34 : (pg34.zip ac34).all (ckE 34) = true := by decide +kernel
theorem ck35 : (pg35.zip ac35).all (ckE 35) = true := by decide +kernel
theorem ck36 : (pg36.zip ac36).all (ckE 36) = true := by decide +kernel
theorem ck37_0 : (pg37_0.zip ac37_0).all (ckE 37) = true := by decide +kernel
theorem ck37_1 : (pg37_1.zip ac37_1).all (ckE 37) = true := by decide +kernel
theorem ck38 : (pg38.zip ac38).all (ckE 38) = true := by decide +kernel
theorem ck39 : (pg39.zip ac39).all (ckE 39) = true := by decide +kernel
theorem ck40 : (pg40.zip ac40).all (ckE 40) = true := by decide +kernel
theorem ck41 : (pg41.zip ac41).all (ckE 41) = true := by decide +kernel
theorem ck42 : (pg42.zip ac42).all (ckE 42) = true := by decide +kernel
theorem ck43 : (pg43.zip ac43).all (ckE 43) = true := by decide +kernel
theorem ck44 : (pg44.zip ac44).all (ckE 44) = true := by decide +kernel
theorem ck45 : (pg45.zip ac45).all (ckE 45) = true := by decide +kernel
theorem ck46 : (pg46.zip ac46).all (ckE 46) = true := by decide +kernel
theorem ck47 : (pg47.zip ac47).all (ckE 47) = true := by decide +kernel
theorem ck48 : (pg48.zip ac48).all (ckE 48) = true := by decide +kernel
theorem ck49 : (pg49.zip ac49).all (ckE 49) = true := by decide +kernel
theorem ck50 : (pg50.zip ac50).all (ckE 50) = true := by decide +kernel
theorem ck51 : (pg51.zip ac51).all (ckE 51) = true := by decide +kernel
theorem ck52_0 : (pg52_0.zip ac52_0).all (ckE 52) = true := by decide +kernel
theorem ck52_1 : (pg52_1.zip ac52_1).all (ckE 52) = true := by decide +kernel
theorem ck53 : (pg53.zip ac53).all (ckE 53) = true := by decide +kernel
theorem ck54 : (pg54.zip ac54).all (ckE 54) = true := by decide +kernel
theorem ck55_0 : (pg55_0.zip ac55_0).all (ckE 55) = true := by decide +kernel
theorem ck55_1 : (pg55_1.zip ac55_1).all (ckE 55) = true := by decide +kernel
theorem ck56 : (pg56.zip ac56).all (ckE 56) = true := by decide +kernel
theorem ck57 : (pg57.zip ac57).all (ckE 57) = true := by decide +kernel
theorem ck58 : (pg58.zip ac58).all (ckE 58) = true := by decide +kernel
theorem ck59 : (pg59.zip ac59).all (ckE 59) = true := by decide +kernel
theorem ck60 : (pg60.zip ac60).all (ckE 60) = true := by decide +kernel
theorem ck61 : (pg61.zip ac61).all (ckE 61) = true := by decide +kernel
theorem ck62 : (pg62.zip ac62).all (ckE 62) = true := by decide +kernel
theorem ck63 : (pg63.zip ac63).all (ckE 63) = true := by decide +kernel
theorem ck64 : (pg64.zip ac64).all (ckE 64) = true := by decide +kernel
theorem ck65_0 : (pg65_0.zip ac65_0).all (ckE 65) = true := by decide +kernel
theorem ck65_1 : (pg65_1.zip ac65_1).all (ckE 65) = true := by decide +kernel
theorem ck66_0 : (pg66_0.zip ac66_0).all (ckE 66) = true := by decide +kernel
theorem ck66_1 : (pg66_1.zip ac66_1).all (ckE 66) = true := by decide +kernel
theorem ck67 : (pg67.zip ac67).all (ckE 67) = true := by decide +kernel
theorem ck68 : (pg68.zip ac68).all (ckE 68) = true := by decide +kernel
theorem ck69 : (pg69.zip ac69).all (ckE 69) = true := by decide +kernel
theorem ck70 : (pg70.zip ac70).all (ckE 70) = true := by decide +kernel
theorem ck71 : (pg71.zip ac71).all (ckE 71) = true := by decide +kernel
theorem ck72 : (pg72.zip ac72).all (ckE 72) = true := by decide +kernel
theorem ck73 : (pg73.zip ac73).all (ckE 73) = true := by decide +kernel
theorem ck74 : (pg74.zip ac74).all (ckE 74) = true := by decide +kernel
theorem ck75 : (pg75.zip ac75).all (ckE 75) = true := by decide +kernel
theorem ck76_0 : (pg76_0.zip ac76_0).all (ckE 76) = true := by decide +kernel
theorem ck76_1 : (pg76_1.zip ac76_1).all (ckE 76) = true := by decide +kernel
theorem ck76_2 : (pg76_2.zip ac76_2).all (ckE 76) = true := by decide +kernel
theorem ck77 : (pg77.zip ac77).all (ckE 77) = true := by decide +kernel
theorem ck78 : (pg78.zip ac78).all (ckE 78) = true := by decide +kernel
theorem ck79 : (pg79.zip ac79).all (ckE 79) = true := by decide +kernel
theorem ck80 : (pg80.zip ac80).all (ckE 80) = true := by decide +kernel
theorem ck81 : (pg81.zip ac81).all (ckE 81) = true := by decide +kernel
theorem ck82 : (pg82.zip ac82).all (ckE 82) = true := by decide +kernel
theorem ck83 : (pg83.zip ac83).all (ckE 83) = true := by decide +kernel
theorem ck84 : (pg84.zip ac84).all (ckE 84) = true := by decide +kernel
theorem ck85_0 : (pg85_0.zip ac85_0).all (ckE 85) = true := by decide +kernel
theorem ck85_1 : (pg85_1.zip ac85_1).all (ckE 85) = true := by decide +kernel
theorem ck86 : (pg86.zip ac86).all (ckE 86) = true := by decide +kernel
theorem ck87_0 : (pg87_0.zip ac87_0).all (ckE 87) = true := by decide +kernel
theorem ck87_1 : (pg87_1.zip ac87_1).all (ckE 87) = true := by decide +kernel
theorem ck88 : (pg88.zip ac88).all (ckE 88) = true := by decide +kernel
theorem ck89 : (pg89.zip ac89).all (ckE 89) = true := by decide +kernel
theorem ck90_0 : (pg90_0.zip ac90_0).all (ckE 90) = true := by decide +kernel
theorem ck90_1 : (pg90_1.zip ac90_1).all (ckE 90) = true := by decide +kernel
theorem ck91_0 : (pg91_0.zip ac91_0).all (ckE 91) = true := by decide +kernel
theorem ck91_1 : (pg91_1.zip ac91_1).all (ckE 91) = true := by decide +kernel
theorem ck92_0 : (pg92_0.zip ac92_0).all (ckE 92) = true := by decide +kernel
theorem ck92_1 : (pg92_1.zip ac92_1).all (ckE 92) = true := by decide +kernel
theorem ck93 : (pg93.zip ac93).all (ckE 93) = true := by decide +kernel
theorem ck94 : (pg94.zip ac94).all (ckE 94) = true := by decide +kernel
theorem ck95 : (pg95.zip ac95).all (ckE 95) = true := by decide +kernel
theorem ck96 : (pg96.zip ac96).all (ckE 96) = true := by decide +kernel
theorem ck97_0 : (pg97_0.zip ac97_0).all (ckE 97) = true := by decide +kernel
theorem ck97_1 : (pg97_1.zip ac97_1).all (ckE 97) = true := by decide +kernel
theorem ck97_2 : (pg97_2.zip ac97_2).all (ckE 97) = true := by decide +kernel
theorem ck98_0 : (pg98_0.zip ac98_0).all (ckE 98) = true := by decide +kernel
theorem ck98_1 : (pg98_1.zip ac98_1).all (ckE 98) = true := by decide +kernel
theorem ck98_2 : (pg98_2.zip ac98_2).all (ckE 98) = true := by decide +kernel
theorem ck98_3 : (pg98_3.zip ac98_3).all (ckE 98) = true := by decide +kernel
theorem ck98_4 : (pg98_4.zip ac98_4).all (ckE 98) = true := by decide +kernel
theorem ck98_5 : (pg98_5.zip ac98_5).all (ckE 98) = true := by decide +kernel
theorem ck98_6 : (pg98_6.zip ac98_6).all (ckE 98) = true := by decide +kernel
theorem ck98_7 : (pg98_7.zip ac98_7).all (ckE 98) = true := by decide +kernel
theorem ck98_8 : (pg98_8.zip ac98_8).all (ckE 98) = true := by decide +kernel
theorem ck98_9 : (pg98_9.zip ac98_9).all (ckE 98) = true := by decide +kernel
theorem ck98_10 : (pg98_10.zip ac98_10).all (ckE 98) = true := by decide +kernel
theorem ck99_0 : (pg99_0.zip ac99_0).all (ckE 99) = true := by decide +kernel
theorem ck99_1 : (pg99_1.zip ac99_1).all (ckE 99) = true := by decide +kernel
theorem ck99_2 : (pg99_2.zip ac99_2).all (ckE 99) = true := by decide +kernel
theorem ck99_3 : (pg99_3.zip ac99_3).all (ckE 99) = true := by decide +kernel
theorem ck99_4 : (pg99_4.zip ac99_4).all (ckE 99) = true := by decide +kernel
theorem ck100 : (pg100.zip ac100).all (ckE 100) = true := by decide +kernel
theorem ck101_0 : (pg101_0.zip ac101_0).all (ckE 101) = true := by decide +kernel
theorem ck101_1 : (pg101_1.zip ac101_1).all (ckE 101) = true := by decide +kernel
theorem ck101_2 : (pg101_2.zip ac101_2).all (ckE 101) = true := by decide +kernel
theorem ck101_3 : (pg101_3.zip ac101_3).all (ckE 101) = true := by decide +kernel
theorem ck101_4 : (pg101_4.zip ac101_4).all (ckE 101) = true := by decide +kernel
theorem ck101_5 : (pg101_5.zip ac101_5).all (ckE 101) = true := by decide +kernel
theorem ck102_0 : (pg102_0.zip ac102_0).all (ckE 102) = true := by decide +kernel
theorem ck102_1 : (pg102_1.zip ac102_1).all (ckE 102) = true := by decide +kernel
theorem ck102_2 : (pg102_2.zip ac102_2).all (ckE 102) = true := by decide +kernel
theorem ck102_3 : (pg102_3.zip ac102_3).all (ckE 102) = true := by decide +kernel
theorem ck103_0 : (pg103_0.zip ac103_0).all (ckE 103) = true := by decide +kernel
theorem ck103_1 : (pg103_1.zip ac103_1).all (ckE 103) = true := by decide +kernel
theorem ck103_2 : (pg103_2.zip ac103_2).all (ckE 103) = true := by decide +kernel
theorem ck103_3 : (pg103_3.zip ac103_3).all (ckE 103) = true := by decide +kernel
theorem ck103_4 : (pg103_4.zip ac103_4).all (ckE 103) = true := by decide +kernel
theorem ck104_0 : (pg104_0.zip ac104_0).all (ckE 104) = true := by decide +kernel
theorem ck104_1 : (pg104_1.zip ac104_1).all (ckE 104) = true := by decide +kernel
theorem ck104_2 : (pg104_2.zip ac104_2).all (ckE 104) = true := by decide +kernel
theorem ck104_3 : (pg104_3.zip ac104_3).all (ckE 104) = true := by decide +kernel
theorem ck104_4 : (pg104_4.zip ac104_4).all (ckE 104) = true := by decide +kernel
theorem ck104_5 : (pg104_5.zip ac104_5).all (ckE 104) = true := by decide +kernel
theorem ck104_6 : (pg104_6.zip ac104_6).all (ckE 104) = true := by decide +kernel
theorem ck104_7 : (pg104_7.zip ac104_7).all (ckE 104) = true := by decide +kernel
theorem ck104_8 : (pg104_8.zip ac104_8).all (ckE 104) = true := by decide +kernel
theorem ck104_9 : (pg104_9.zip ac104_9).all (ckE 104) = true := by decide +kernel
theorem ck104_10 : (pg104_10.zip ac104_10).all (ckE 104) = true := by decide +kernel
theorem ck105_0 : (pg105_0.zip ac105_0).all (ckE 105) = true := by decide +kernel
theorem ck105_1 : (pg105_1.zip ac105_1).all (ckE 105) = true := by decide +kernel
theorem ck105_2 : (pg105_2.zip ac105_2).all (ckE 105) = true := by decide +kernel
theorem ck105_3 : (pg105_3.zip ac105_3).all (ckE 105) = true := by decide +kernel
theorem ck105_4 : (pg105_4.zip ac105_4).all (ckE 105) = true := by decide +kernel
