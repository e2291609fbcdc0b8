/-! THE TIE, 2: an instruction at a time -/
theorem ln_eq {nx pc k : Nat} (h : ln nx pc k = true) : nx = pc + k := Nat.eq_of_beq_eq_true h
theorem any_of {α : Type} {l : List α} {f : α → Bool} (h : l.any f = true) : ∃ e, e ∈ l ∧ f e = true := List.any_eq_true.mp h
theorem w_ldcwF {p : Program} {l : Launch} {e : Env} {R : Room} {s : State} {m : MethodId} {args : Array Value} {below : List Frame} {meth : Method} {c : Code} {H : Heap} {locs : List Loc} {cells slots : Nat} {Q : State → Prop} {cc : ByteArray} {pc : Nat} {ls : Array Slot} {rest : List Value} (hexec : p.tables.exec = Jvm.exec) (hb : c.code = cc) {own : String} {index : Nat} {v : UInt32} (hown : s.vm.findClass own = some m.cls) (hconst : (Jvm.Cond.constantFloat own index v).before args s = true) (hdg : decode cc pc = .ok (.ldc_w index, 3)) (k : W p l e R s m args below meth c H locs cells slots Q (F0 m (pc + 3) ls (.float v :: rest))) : W p l e R s m args below meth c H locs cells slots Q (F0 m pc ls rest) := by
  intro T hT X
  obtain ⟨t, a, b⟩ := k T hT X
  refine ⟨t, ?_, b⟩
  obtain ⟨k, cf, hk, hcf, hcp⟩ := Cond.constantFloat_spec hown hconst
  obtain ⟨k', hk', he⟩ := X.warmed.alike.2.2 _ _ hk
  have hdg : decode c.code pc = .ok (.ldc_w index, 3) := by rw [hb]; exact hdg
  jvm_step X.here [hexec, hdg, Op.ldc_w.wp_float (s := T) (f := F0 m pc ls rest) X.here.top hk' (by rw [he]; exact hcf) hcp]
  exact a
section OPS
variable {D : va_G} {dA : Nat → ClassId} {n0 : Nat} {cad : Nat → Nat} {E : AEnv} {p : Program} {l : Launch} {e : Env} {R : Room} {s : State} {m : MethodId} {args : Array Value} {below : List Frame} {meth : Method} {c : Code} {Q : State → Prop} {mi z0 pc nx : Nat} {ls st : List Value} {σ : ASt} {a : Instr}
theorem w_int {n : Int} (X : CXx D dA n0 cad E p R s m args meth c mi) (hd : decode (mByt mi) pc = .ok (a, nx - pc)) (hk : k_int (mCls mi) 0 n nx pc a = true)
    (K : WW D dA n0 cad p l e R s m args below meth c Q mi z0 nx ls (.int (ic n) :: st) σ) : WW D dA n0 cad p l e R s m args below meth c Q mi z0 pc ls st σ := by
  intro H locs cells slots la hP hS hl hc hz hL
  have k := K H locs cells slots la hP hS hl hc hz hL
  obtain ⟨hx, hb, hml, hown, hts, -⟩ := X
  unfold k_int at hk
  split at hk
  · simp only [Bool.and_eq_true, decide_eq_true_eq] at hk
    obtain ⟨h1, h2⟩ := hk
    obtain rfl := ln_eq h2
    rw [Nat.add_sub_cancel_left] at hd
    exact lv_iconst hx hb hd h1.symm k
  · simp only [Bool.and_eq_true, decide_eq_true_eq] at hk
    obtain ⟨h1, h2⟩ := hk
    obtain rfl := ln_eq h2
    rw [Nat.add_sub_cancel_left] at hd
    exact lv_bipush hx hb hd h1.symm k
  · simp only [Bool.and_eq_true, decide_eq_true_eq] at hk
    obtain ⟨h1, h2⟩ := hk
    obtain rfl := ln_eq h2
    rw [Nat.add_sub_cancel_left] at hd
    exact lv_sipush hx hb hd h1.symm k
  · simp only [Bool.and_eq_true] at hk
    obtain ⟨h1, h2⟩ := hk
    obtain rfl := ln_eq h2
    rw [Nat.add_sub_cancel_left] at hd
    obtain ⟨q, hq, hq2⟩ := any_of h1
    simp only [Bool.and_eq_true, decide_eq_true_eq] at hq2
    obtain ⟨⟨g1, g2⟩, g3⟩ := hq2
    have g1 := Nat.eq_of_beq_eq_true g1
    have g2 := Nat.eq_of_beq_eq_true g2
    have hw := of_decide_eq_true (List.all_eq_true.mp lkK_ok q hq)
    rw [g1, g2, g3] at hw
    exact lv_ldc hx hb hown (hts _ (tb_of _ hw rfl)) hd k
  · simp only [Bool.and_eq_true] at hk
    obtain ⟨h1, h2⟩ := hk
    obtain rfl := ln_eq h2
    rw [Nat.add_sub_cancel_left] at hd
    obtain ⟨q, hq, hq2⟩ := any_of h1
    simp only [Bool.and_eq_true, decide_eq_true_eq] at hq2
    obtain ⟨⟨g1, g2⟩, g3⟩ := hq2
    have g1 := Nat.eq_of_beq_eq_true g1
    have g2 := Nat.eq_of_beq_eq_true g2
    have hw := of_decide_eq_true (List.all_eq_true.mp lkK_ok q hq)
    rw [g1, g2, g3] at hw
    exact lv_ldcw hx hb hown (hts _ (tb_of _ hw rfl)) hd k
  · cases hk
theorem w_flt {n : Nat} (X : CXx D dA n0 cad E p R s m args meth c mi) (hd : decode (mByt mi) pc = .ok (a, nx - pc)) (hk : k_flt (mCls mi) n nx pc a = true)
    (K : WW D dA n0 cad p l e R s m args below meth c Q mi z0 nx ls (.float (UInt32.ofNat n) :: st) σ) : WW D dA n0 cad p l e R s m args below meth c Q mi z0 pc ls st σ := by
  intro H locs cells slots la hP hS hl hc hz hL
  have k := K H locs cells slots la hP hS hl hc hz hL
  obtain ⟨hx, hb, hml, hown, hts, -⟩ := X
  unfold k_flt at hk
  split at hk
  · simp only [Bool.and_eq_true, decide_eq_true_eq] at hk
    obtain ⟨h1, h2⟩ := hk
    obtain rfl := ln_eq h2
    rw [Nat.add_sub_cancel_left] at hd
    rw [h1] at k
    split at k
    · exact lv_fconst0 hx hb hd k
    · exact lv_fconst1 hx hb hd k
    · exact lv_fconst2 hx hb hd k
  · simp only [Bool.and_eq_true] at hk
    obtain ⟨h1, h2⟩ := hk
    obtain rfl := ln_eq h2
    rw [Nat.add_sub_cancel_left] at hd
    obtain ⟨q, hq, hq2⟩ := any_of h1
    simp only [Bool.and_eq_true] at hq2
    obtain ⟨⟨g1, g2⟩, g3⟩ := hq2
    have g1 := Nat.eq_of_beq_eq_true g1
    have g2 := Nat.eq_of_beq_eq_true g2
    have g3 := Nat.eq_of_beq_eq_true g3
    have hw := of_decide_eq_true (List.all_eq_true.mp lkFK_ok q hq)
    rw [g1, g2, g3] at hw
    exact lv_ldcf hx hb hown (hts _ (tb_of _ hw rfl)) hd k
  · simp only [Bool.and_eq_true] at hk
    obtain ⟨h1, h2⟩ := hk
    obtain rfl := ln_eq h2
    rw [Nat.add_sub_cancel_left] at hd
    obtain ⟨q, hq, hq2⟩ := any_of h1
    simp only [Bool.and_eq_true] at hq2
    obtain ⟨⟨g1, g2⟩, g3⟩ := hq2
    have g1 := Nat.eq_of_beq_eq_true g1
    have g2 := Nat.eq_of_beq_eq_true g2
    have g3 := Nat.eq_of_beq_eq_true g3
    have hw := of_decide_eq_true (List.all_eq_true.mp lkFK_ok q hq)
    rw [g1, g2, g3] at hw
    exact w_ldcwF hx hb hown (hts _ (tb_of _ hw rfl)) hd k
  · cases hk
theorem w_il {i : Nat} {x : Int32} (X : CXx D dA n0 cad E p R s m args meth c mi) (hd : decode (mByt mi) pc = .ok (a, nx - pc)) (hk : k_il i nx pc a = true) (hi : ls[i]? = some (.int x))
    (K : WW D dA n0 cad p l e R s m args below meth c Q mi z0 nx ls (.int x :: st) σ) : WW D dA n0 cad p l e R s m args below meth c Q mi z0 pc ls st σ := by
  intro H locs cells slots la hP hS hl hc hz hL
  have k := K H locs cells slots la hP hS hl hc hz hL
  obtain ⟨hx, hb, -⟩ := X
  unfold k_il at hk
  split at hk
  · simp only [Bool.and_eq_true] at hk
    obtain rfl := ln_eq hk.2
    rw [Nat.add_sub_cancel_left] at hd
    exact lv_iload_n hx hb hd (Nat.eq_of_beq_eq_true hk.1) (hl.2.2 _ _ hi rfl) k
  · simp only [Bool.and_eq_true] at hk
    obtain rfl := ln_eq hk.2
    obtain rfl := Nat.eq_of_beq_eq_true hk.1
    rw [Nat.add_sub_cancel_left] at hd
    exact lv_iload hx hb hd (hl.2.2 _ _ hi rfl) k
  · cases hk
theorem w_al {i : Nat} {x : Nat} (X : CXx D dA n0 cad E p R s m args meth c mi) (hd : decode (mByt mi) pc = .ok (a, nx - pc)) (hk : k_al i nx pc a = true) (hi : ls[i]? = some (.ref x))
    (K : WW D dA n0 cad p l e R s m args below meth c Q mi z0 nx ls (.ref x :: st) σ) : WW D dA n0 cad p l e R s m args below meth c Q mi z0 pc ls st σ := by
  intro H locs cells slots la hP hS hl hc hz hL
  have k := K H locs cells slots la hP hS hl hc hz hL
  obtain ⟨hx, hb, -⟩ := X
  unfold k_al at hk
  split at hk
  · simp only [Bool.and_eq_true] at hk
    obtain rfl := ln_eq hk.2
    rw [Nat.add_sub_cancel_left] at hd
    exact lv_aload_n hx hb hd (Nat.eq_of_beq_eq_true hk.1) (hl.2.2 _ _ hi rfl) k
  · simp only [Bool.and_eq_true] at hk
    obtain rfl := ln_eq hk.2
    obtain rfl := Nat.eq_of_beq_eq_true hk.1
    rw [Nat.add_sub_cancel_left] at hd
    exact lv_aload hx hb hd (hl.2.2 _ _ hi rfl) k
  · cases hk
theorem w_fl {i : Nat} {x : UInt32} (X : CXx D dA n0 cad E p R s m args meth c mi) (hd : decode (mByt mi) pc = .ok (a, nx - pc)) (hk : k_fl i nx pc a = true) (hi : ls[i]? = some (.float x))
    (K : WW D dA n0 cad p l e R s m args below meth c Q mi z0 nx ls (.float x :: st) σ) : WW D dA n0 cad p l e R s m args below meth c Q mi z0 pc ls st σ := by
  intro H locs cells slots la hP hS hl hc hz hL
  have k := K H locs cells slots la hP hS hl hc hz hL
  obtain ⟨hx, hb, -⟩ := X
  unfold k_fl at hk
  split at hk
  · simp only [Bool.and_eq_true] at hk
    obtain rfl := ln_eq hk.2
    rw [Nat.add_sub_cancel_left] at hd
    exact lv_fload_n hx hb hd (Nat.eq_of_beq_eq_true hk.1) (hl.2.2 _ _ hi rfl) k
  · simp only [Bool.and_eq_true] at hk
    obtain rfl := ln_eq hk.2
    obtain rfl := Nat.eq_of_beq_eq_true hk.1
    rw [Nat.add_sub_cancel_left] at hd
    exact lv_fload hx hb hd (hl.2.2 _ _ hi rfl) k
  · cases hk
theorem w_is {i : Nat} {x : Int32} {ls' : List Value} (X : CXx D dA n0 cad E p R s m args meth c mi) (hd : decode (mByt mi) pc = .ok (a, nx - pc)) (hk : k_is (mMax mi) i nx pc a = true) (hi : sto ls i (.int x) = some ls')
    (K : WW D dA n0 cad p l e R s m args below meth c Q mi z0 nx ls' st σ) : WW D dA n0 cad p l e R s m args below meth c Q mi z0 pc ls (.int x :: st) σ := by
  intro H locs cells slots la hP hS hl hc hz hL
  obtain ⟨hx, hb, -⟩ := X
  unfold k_is at hk
  split at hk
  · simp only [Bool.and_eq_true] at hk
    obtain rfl := ln_eq hk.1.2
    rw [Nat.add_sub_cancel_left] at hd
    exact lv_istore_n hx hb hd (Nat.eq_of_beq_eq_true hk.1.1) hl.has (by simpa using hk.2) rfl (fun la' h' => K H locs cells slots la' hP hS (hl.put hi h') hc hz hL)
  · simp only [Bool.and_eq_true] at hk
    obtain rfl := ln_eq hk.1.2
    obtain rfl := Nat.eq_of_beq_eq_true hk.1.1
    rw [Nat.add_sub_cancel_left] at hd
    exact lv_istore hx hb hd hl.has (by simpa using hk.2) rfl (fun la' h' => K H locs cells slots la' hP hS (hl.put hi h') hc hz hL)
  · cases hk
theorem w_as {i : Nat} {x : Nat} {ls' : List Value} (X : CXx D dA n0 cad E p R s m args meth c mi) (hd : decode (mByt mi) pc = .ok (a, nx - pc)) (hk : k_as (mMax mi) i nx pc a = true) (hi : sto ls i (.ref x) = some ls')
    (K : WW D dA n0 cad p l e R s m args below meth c Q mi z0 nx ls' st σ) : WW D dA n0 cad p l e R s m args below meth c Q mi z0 pc ls (.ref x :: st) σ := by
  intro H locs cells slots la hP hS hl hc hz hL
  obtain ⟨hx, hb, -⟩ := X
  unfold k_as at hk
  split at hk
  · simp only [Bool.and_eq_true] at hk
    obtain rfl := ln_eq hk.1.2
    rw [Nat.add_sub_cancel_left] at hd
    exact lv_astore_n hx hb hd (Nat.eq_of_beq_eq_true hk.1.1) hl.has (by simpa using hk.2) rfl (fun la' h' => K H locs cells slots la' hP hS (hl.put hi h') hc hz hL)
  · simp only [Bool.and_eq_true] at hk
    obtain rfl := ln_eq hk.1.2
    obtain rfl := Nat.eq_of_beq_eq_true hk.1.1
    rw [Nat.add_sub_cancel_left] at hd
    exact lv_astore hx hb hd hl.has (by simpa using hk.2) rfl (fun la' h' => K H locs cells slots la' hP hS (hl.put hi h') hc hz hL)
  · cases hk
theorem w_fs {i : Nat} {x : UInt32} {ls' : List Value} (X : CXx D dA n0 cad E p R s m args meth c mi) (hd : decode (mByt mi) pc = .ok (a, nx - pc)) (hk : k_fs (mMax mi) i nx pc a = true) (hi : sto ls i (.float x) = some ls')
    (K : WW D dA n0 cad p l e R s m args below meth c Q mi z0 nx ls' st σ) : WW D dA n0 cad p l e R s m args below meth c Q mi z0 pc ls (.float x :: st) σ := by
  intro H locs cells slots la hP hS hl hc hz hL
  obtain ⟨hx, hb, -⟩ := X
  unfold k_fs at hk
  split at hk
  · simp only [Bool.and_eq_true] at hk
    obtain rfl := ln_eq hk.1.2
    rw [Nat.add_sub_cancel_left] at hd
    exact lv_fstore_n hx hb hd (Nat.eq_of_beq_eq_true hk.1.1) hl.has (by simpa using hk.2) rfl (fun la' h' => K H locs cells slots la' hP hS (hl.put hi h') hc hz hL)
  · simp only [Bool.and_eq_true] at hk
    obtain rfl := ln_eq hk.1.2
    obtain rfl := Nat.eq_of_beq_eq_true hk.1.1
    rw [Nat.add_sub_cancel_left] at hd
    exact lv_fstore hx hb hd hl.has (by simpa using hk.2) rfl (fun la' h' => K H locs cells slots la' hP hS (hl.put hi h') hc hz hL)
  · cases hk
theorem w_inc {i : Nat} {n : Int} {x : Int32} (X : CXx D dA n0 cad E p R s m args meth c mi) (hd : decode (mByt mi) pc = .ok (a, nx - pc)) (hk : k_inc (mMax mi) i n nx pc a = true) (hi : ls[i]? = some (.int x))
    (K : WW D dA n0 cad p l e R s m args below meth c Q mi z0 nx (ls.set i (.int (x + ic n))) st σ) : WW D dA n0 cad p l e R s m args below meth c Q mi z0 pc ls st σ := by
  intro H locs cells slots la hP hS hl hc hz hL
  obtain ⟨hx, hb, -⟩ := X
  unfold k_inc at hk
  split at hk
  · simp only [Bool.and_eq_true, decide_eq_true_eq] at hk
    obtain ⟨⟨⟨h1, h2⟩, h3⟩, h4⟩ := hk
    obtain rfl := ln_eq h3
    rename_i j q
    have h1 : j = i := Nat.eq_of_beq_eq_true h1
    rw [h1, Nat.add_sub_cancel_left] at hd
    obtain ⟨kq, hget⟩ := List.getElem?_of_mem (lsP_mem (n0 := n0) (cad := cad) hi rfl)
    exact lv_iinc hx hb hd hl.has (k := kq) hget (by rw [← h2]) (by simpa using h4) rfl (fun la' h' => K H locs cells slots la' hP hS (hl.put (sto_set hi rfl) h') hc hz hL)
  · cases hk
theorem sm_eq {o : Instr} (hd : decode (mByt mi) pc = .ok (a, nx - pc)) (hk : k_same o nx pc a = true) : nx = pc + 1 ∧ decode (mByt mi) pc = .ok (o, 1) := by
  simp only [k_same, Bool.and_eq_true, decide_eq_true_eq] at hk
  obtain ⟨rfl, h2⟩ := hk
  obtain rfl := ln_eq h2
  rw [Nat.add_sub_cancel_left] at hd
  exact ⟨rfl, hd⟩
theorem w_alu {o : Instr} {x y z : Int32} (X : CXx D dA n0 cad E p R s m args meth c mi) (hd : decode (mByt mi) pc = .ok (a, nx - pc)) (hk : k_same o nx pc a = true) (ha : alu o x y = some z)
    (K : WW D dA n0 cad p l e R s m args below meth c Q mi z0 nx ls (.int z :: st) σ) : WW D dA n0 cad p l e R s m args below meth c Q mi z0 pc ls (.int y :: .int x :: st) σ := by
  intro H locs cells slots la hP hS hl hc hz hL
  have k := K H locs cells slots la hP hS hl hc hz hL
  obtain ⟨hx, hb, -⟩ := X
  obtain ⟨e0, hd'⟩ := sm_eq hd hk
  subst e0
  clear hd
  have hd := hd'
  unfold alu at ha
  split at ha
  · cases ha; exact lv_iadd hx hb hd k
  · cases ha; exact lv_isub hx hb hd k
  · cases ha; exact lv_imul hx hb hd k
  · cases ha; exact lv_iand hx hb hd k
  · cases ha; exact lv_ior hx hb hd k
  · cases ha; exact lv_ixor hx hb hd k
  · cases ha; exact lv_ishl hx hb hd k
  · cases ha; exact lv_ishr hx hb hd k
  · cases ha; exact lv_iushr hx hb hd rfl k
  · split at ha
    · cases ha
    · rename_i h0; cases ha; exact lv_idiv hx hb hd h0 k
  · split at ha
    · cases ha
    · rename_i h0; cases ha; exact lv_irem hx hb hd h0 k
  · cases ha
theorem w_falu {o : Instr} {x y z : UInt32} (X : CXx D dA n0 cad E p R s m args meth c mi) (hd : decode (mByt mi) pc = .ok (a, nx - pc)) (hk : k_same o nx pc a = true) (ha : falu o x y = some z) (hn : z &&& 0x7fffffff ≤ 0x7f800000)
    (K : WW D dA n0 cad p l e R s m args below meth c Q mi z0 nx ls (.float z :: st) σ) : WW D dA n0 cad p l e R s m args below meth c Q mi z0 pc ls (.float y :: .float x :: st) σ := by
  intro H locs cells slots la hP hS hl hc hz hL
  have k := K H locs cells slots la hP hS hl hc hz hL
  obtain ⟨hx, hb, -⟩ := X
  obtain ⟨e0, hd'⟩ := sm_eq hd hk
  subst e0
  clear hd
  have hd := hd'
  unfold falu at ha
  split at ha
  · cases ha; exact lv_fdiv hx hb hd hn k
  · cases ha; exact lv_fmul hx hb hd hn k
  · cases ha; exact lv_fsub hx hb hd hn k
  · cases ha
theorem w_fcmp {op : CmpOp} {x y : UInt32} (X : CXx D dA n0 cad E p R s m args meth c mi) (hd : decode (mByt mi) pc = .ok (a, nx - pc)) (hk : k_same (.fcmp op) nx pc a = true)
    (K : WW D dA n0 cad p l e R s m args below meth c Q mi z0 nx ls (.int (Op.cmpValue (FP.fcmp x y) op) :: st) σ) : WW D dA n0 cad p l e R s m args below meth c Q mi z0 pc ls (.float y :: .float x :: st) σ := by
  intro H locs cells slots la hP hS hl hc hz hL
  have k := K H locs cells slots la hP hS hl hc hz hL
  obtain ⟨e0, hd'⟩ := sm_eq hd hk
  subst e0
  clear hd
  have hd := hd'
  exact lv_fcmp X.1 X.2.1 hd k
theorem w_i2f {x : Int32} (X : CXx D dA n0 cad E p R s m args meth c mi) (hd : decode (mByt mi) pc = .ok (a, nx - pc)) (hk : k_same .i2f nx pc a = true)
    (K : WW D dA n0 cad p l e R s m args below meth c Q mi z0 nx ls (.float (FP.i2f x) :: st) σ) : WW D dA n0 cad p l e R s m args below meth c Q mi z0 pc ls (.int x :: st) σ := by
  intro H locs cells slots la hP hS hl hc hz hL
  have k := K H locs cells slots la hP hS hl hc hz hL
  obtain ⟨e0, hd'⟩ := sm_eq hd hk
  subst e0
  clear hd
  have hd := hd'
  exact lv_i2f X.1 X.2.1 hd k
theorem w_f2i {x : UInt32} (X : CXx D dA n0 cad E p R s m args meth c mi) (hd : decode (mByt mi) pc = .ok (a, nx - pc)) (hk : k_same .f2i nx pc a = true)
    (K : WW D dA n0 cad p l e R s m args below meth c Q mi z0 nx ls (.int (FP.f2i x) :: st) σ) : WW D dA n0 cad p l e R s m args below meth c Q mi z0 pc ls (.float x :: st) σ := by
  intro H locs cells slots la hP hS hl hc hz hL
  have k := K H locs cells slots la hP hS hl hc hz hL
  obtain ⟨e0, hd'⟩ := sm_eq hd hk
  subst e0
  clear hd
  have hd := hd'
  exact lv_f2i X.1 X.2.1 hd k
theorem w_i2c {x : Int32} (X : CXx D dA n0 cad E p R s m args meth c mi) (hd : decode (mByt mi) pc = .ok (a, nx - pc)) (hk : k_same .i2c nx pc a = true)
    (K : WW D dA n0 cad p l e R s m args below meth c Q mi z0 nx ls (.int (x.toUInt32 % 65536).toInt32 :: st) σ) : WW D dA n0 cad p l e R s m args below meth c Q mi z0 pc ls (.int x :: st) σ := by
  intro H locs cells slots la hP hS hl hc hz hL
  have k := K H locs cells slots la hP hS hl hc hz hL
  obtain ⟨e0, hd'⟩ := sm_eq hd hk
  subst e0
  clear hd
  have hd := hd'
  exact lv_i2c X.1 X.2.1 hd rfl k
theorem w_lld {n : Nat} (X : CXx D dA n0 cad E p R s m args meth c mi) (hd : decode (mByt mi) pc = .ok (a, nx - pc)) (hk : k_ldl (mCls mi) n nx pc a = true)
    (K : WW D dA n0 cad p l e R s m args below meth c Q mi z0 nx ls (.long (Int64.ofNat n) :: st) σ) : WW D dA n0 cad p l e R s m args below meth c Q mi z0 pc ls st σ := by
  intro H locs cells slots la hP hS hl hc hz hL
  have k := K H locs cells slots la hP hS hl hc hz hL
  obtain ⟨hx, hb, hml, hown, hts, -⟩ := X
  unfold k_ldl at hk
  split at hk
  · simp only [Bool.and_eq_true] at hk
    obtain ⟨h1, h2⟩ := hk
    obtain rfl := ln_eq h2
    rw [Nat.add_sub_cancel_left] at hd
    obtain ⟨q, hq, hq2⟩ := any_of h1
    simp only [Bool.and_eq_true] at hq2
    obtain ⟨⟨g1, g2⟩, g3⟩ := hq2
    have g1 := Nat.eq_of_beq_eq_true g1
    have g2 := Nat.eq_of_beq_eq_true g2
    have g3 := Nat.eq_of_beq_eq_true g3
    have hw := of_decide_eq_true (List.all_eq_true.mp lkLK_ok q hq)
    rw [g1, g2, g3] at hw
    exact lv_ldc2 hx hb hown (hts _ (tb_of _ hw rfl)) hd k
  · cases hk
theorem w_ll {i : Nat} {x : Int64} (X : CXx D dA n0 cad E p R s m args meth c mi) (hd : decode (mByt mi) pc = .ok (a, nx - pc)) (hk : k_ll i nx pc a = true) (hi : ls[i]? = some (.long x))
    (K : WW D dA n0 cad p l e R s m args below meth c Q mi z0 nx ls (.long x :: st) σ) : WW D dA n0 cad p l e R s m args below meth c Q mi z0 pc ls st σ := by
  intro H locs cells slots la hP hS hl hc hz hL
  have k := K H locs cells slots la hP hS hl hc hz hL
  obtain ⟨hx, hb, -⟩ := X
  unfold k_ll at hk
  split at hk
  · simp only [Bool.and_eq_true] at hk
    obtain rfl := ln_eq hk.2
    rw [Nat.add_sub_cancel_left] at hd
    exact lv_lload_n hx hb hd (Nat.eq_of_beq_eq_true hk.1) (hl.2.2 _ _ hi rfl) k
  · simp only [Bool.and_eq_true] at hk
    obtain rfl := ln_eq hk.2
    obtain rfl := Nat.eq_of_beq_eq_true hk.1
    rw [Nat.add_sub_cancel_left] at hd
    exact lv_lload hx hb hd (hl.2.2 _ _ hi rfl) k
  · cases hk
theorem w_lst {i : Nat} {x : Int64} {ls' : List Value} (X : CXx D dA n0 cad E p R s m args meth c mi) (hd : decode (mByt mi) pc = .ok (a, nx - pc)) (hk : k_lst (mMax mi) i nx pc a = true) (hi : stoL ls i x = some ls')
    (K : WW D dA n0 cad p l e R s m args below meth c Q mi z0 nx ls' st σ) : WW D dA n0 cad p l e R s m args below meth c Q mi z0 pc ls (.long x :: st) σ := by
  intro H locs cells slots la hP hS hl hc hz hL
  obtain ⟨hx, hb, -⟩ := X
  unfold k_lst at hk
  split at hk
  · simp only [Bool.and_eq_true] at hk
    obtain rfl := ln_eq hk.1.2
    rw [Nat.add_sub_cancel_left] at hd
    exact lv_lstore_n hx hb hd (Nat.eq_of_beq_eq_true hk.1.1) hl.has (by simpa using hk.2) rfl (fun la' h' => K H locs cells slots la' hP hS (hl.putL hi h') hc hz hL)
  · simp only [Bool.and_eq_true] at hk
    obtain rfl := ln_eq hk.1.2
    obtain rfl := Nat.eq_of_beq_eq_true hk.1.1
    rw [Nat.add_sub_cancel_left] at hd
    exact lv_lstore hx hb hd hl.has (by simpa using hk.2) rfl (fun la' h' => K H locs cells slots la' hP hS (hl.putL hi h') hc hz hL)
  · cases hk
theorem w_ladd {x y : Int64} (X : CXx D dA n0 cad E p R s m args meth c mi) (hd : decode (mByt mi) pc = .ok (a, nx - pc)) (hk : k_same .ladd nx pc a = true)
    (K : WW D dA n0 cad p l e R s m args below meth c Q mi z0 nx ls (.long (x + y) :: st) σ) : WW D dA n0 cad p l e R s m args below meth c Q mi z0 pc ls (.long y :: .long x :: st) σ := by
  intro H locs cells slots la hP hS hl hc hz hL
  have k := K H locs cells slots la hP hS hl hc hz hL
  obtain ⟨e0, hd'⟩ := sm_eq hd hk
  subst e0
  clear hd
  have hd := hd'
  exact lv_ladd X.1 X.2.1 hd k
theorem w_lmul {x y : Int64} (X : CXx D dA n0 cad E p R s m args meth c mi) (hd : decode (mByt mi) pc = .ok (a, nx - pc)) (hk : k_same .lmul nx pc a = true)
    (K : WW D dA n0 cad p l e R s m args below meth c Q mi z0 nx ls (.long (x * y) :: st) σ) : WW D dA n0 cad p l e R s m args below meth c Q mi z0 pc ls (.long y :: .long x :: st) σ := by
  intro H locs cells slots la hP hS hl hc hz hL
  have k := K H locs cells slots la hP hS hl hc hz hL
  obtain ⟨e0, hd'⟩ := sm_eq hd hk
  subst e0
  clear hd
  have hd := hd'
  exact lv_lmul X.1 X.2.1 hd k
theorem w_lcmp {x y : Int64} (X : CXx D dA n0 cad E p R s m args meth c mi) (hd : decode (mByt mi) pc = .ok (a, nx - pc)) (hk : k_same .lcmp nx pc a = true)
    (K : WW D dA n0 cad p l e R s m args below meth c Q mi z0 nx ls (.int (lg_cmp x y) :: st) σ) : WW D dA n0 cad p l e R s m args below meth c Q mi z0 pc ls (.long y :: .long x :: st) σ := by
  intro H locs cells slots la hP hS hl hc hz hL
  have k := K H locs cells slots la hP hS hl hc hz hL
  obtain ⟨e0, hd'⟩ := sm_eq hd hk
  subst e0
  clear hd
  have hd := hd'
  exact W.lcmp X.1 X.2.1 hd k
theorem w_i2l {x : Int32} (X : CXx D dA n0 cad E p R s m args meth c mi) (hd : decode (mByt mi) pc = .ok (a, nx - pc)) (hk : k_same .i2l nx pc a = true)
    (K : WW D dA n0 cad p l e R s m args below meth c Q mi z0 nx ls (.long x.toInt64 :: st) σ) : WW D dA n0 cad p l e R s m args below meth c Q mi z0 pc ls (.int x :: st) σ := by
  intro H locs cells slots la hP hS hl hc hz hL
  have k := K H locs cells slots la hP hS hl hc hz hL
  obtain ⟨e0, hd'⟩ := sm_eq hd hk
  subst e0
  clear hd
  have hd := hd'
  exact lv_i2l X.1 X.2.1 hd rfl k
theorem cat1 {v : Value} (h : Nat.beq v.category 1 = true) (n0 : Nat) (cad : Nat → Nat) : (en n0 cad v).category = 1 := (en_cat n0 cad v).trans (Nat.eq_of_beq_eq_true h)
theorem w_dup {v : Value} (X : CXx D dA n0 cad E p R s m args meth c mi) (hd : decode (mByt mi) pc = .ok (a, nx - pc)) (hk : k_same .dup nx pc a = true) (hv : Nat.beq v.category 1 = true)
    (K : WW D dA n0 cad p l e R s m args below meth c Q mi z0 nx ls (v :: v :: st) σ) : WW D dA n0 cad p l e R s m args below meth c Q mi z0 pc ls (v :: st) σ := by
  intro H locs cells slots la hP hS hl hc hz hL
  have k := K H locs cells slots la hP hS hl hc hz hL
  obtain ⟨e0, hd'⟩ := sm_eq hd hk
  subst e0
  clear hd
  have hd := hd'
  exact lv_dup X.1 X.2.1 hd (cat1 hv n0 cad) k
theorem w_dup2 {v w : Value} (X : CXx D dA n0 cad E p R s m args meth c mi) (hd : decode (mByt mi) pc = .ok (a, nx - pc)) (hk : k_same .dup2 nx pc a = true) (hv : Nat.beq v.category 1 = true) (hw : Nat.beq w.category 1 = true)
    (K : WW D dA n0 cad p l e R s m args below meth c Q mi z0 nx ls (v :: w :: v :: w :: st) σ) : WW D dA n0 cad p l e R s m args below meth c Q mi z0 pc ls (v :: w :: st) σ := by
  intro H locs cells slots la hP hS hl hc hz hL
  have k := K H locs cells slots la hP hS hl hc hz hL
  obtain ⟨e0, hd'⟩ := sm_eq hd hk
  subst e0
  clear hd
  have hd := hd'
  exact lv_dup2_11 X.1 X.2.1 hd (cat1 hv n0 cad) (cat1 hw n0 cad) k
theorem w_pop {v : Value} (X : CXx D dA n0 cad E p R s m args meth c mi) (hd : decode (mByt mi) pc = .ok (a, nx - pc)) (hk : k_same .pop nx pc a = true) (hv : Nat.beq v.category 1 = true)
    (K : WW D dA n0 cad p l e R s m args below meth c Q mi z0 nx ls st σ) : WW D dA n0 cad p l e R s m args below meth c Q mi z0 pc ls (v :: st) σ := by
  intro H locs cells slots la hP hS hl hc hz hL
  have k := K H locs cells slots la hP hS hl hc hz hL
  obtain ⟨e0, hd'⟩ := sm_eq hd hk
  subst e0
  clear hd
  have hd := hd'
  exact lv_pop X.1 X.2.1 hd (cat1 hv n0 cad) k
theorem tg_of {off t : Int} (h : tgB pc off t = true) : (pc : Int) + off = (t.toNat : Int) := by
  simp only [tgB, Bool.and_eq_true, decide_eq_true_eq] at h
  omega
theorem w_goto {t : Int} (X : CXx D dA n0 cad E p R s m args meth c mi) (hd : decode (mByt mi) pc = .ok (a, nx - pc)) (hk : k_goto t nx pc a = true)
    (K : WW D dA n0 cad p l e R s m args below meth c Q mi z0 t.toNat ls st σ) : WW D dA n0 cad p l e R s m args below meth c Q mi z0 pc ls st σ := by
  intro H locs cells slots la hP hS hl hc hz hL
  have k := K H locs cells slots la hP hS hl hc hz hL
  unfold k_goto at hk
  split at hk
  · simp only [Bool.and_eq_true] at hk
    obtain rfl := ln_eq hk.2
    rw [Nat.add_sub_cancel_left] at hd
    exact lv_goto X.1 X.2.1 hd (tg_of hk.1) k
  · cases hk
theorem w_if {cd : Jvm.ClassFile.Cond} {t : Int} {x : Int32} (X : CXx D dA n0 cad E p R s m args meth c mi) (hd : decode (mByt mi) pc = .ok (a, nx - pc)) (hk : k_if cd t nx pc a = true)
    (K1 : cndB cd x 0 = true → WW D dA n0 cad p l e R s m args below meth c Q mi z0 t.toNat ls st σ) (K2 : cndB cd x 0 = false → WW D dA n0 cad p l e R s m args below meth c Q mi z0 nx ls st σ) : WW D dA n0 cad p l e R s m args below meth c Q mi z0 pc ls (.int x :: st) σ := by
  intro H locs cells slots la hP hS hl hc hz hL
  have k1 := fun h => K1 h H locs cells slots la hP hS hl hc hz hL
  have k2 := fun h => K2 h H locs cells slots la hP hS hl hc hz hL
  have f1 : cnd cd x 0 → cndB cd x 0 = true := (cndB_iff _ _ _).mpr
  have f2 : ¬ cnd cd x 0 → cndB cd x 0 = false := fun h => by
    cases hq : cndB cd x 0 with
    | true => exact absurd ((cndB_iff _ _ _).mp hq) h
    | false => rfl
  unfold k_if at hk
  split at hk
  · simp only [Bool.and_eq_true, decide_eq_true_eq] at hk
    obtain ⟨⟨rfl, h1⟩, h2⟩ := hk
    obtain rfl := ln_eq h2
    rw [Nat.add_sub_cancel_left] at hd
    rename_i c' off
    cases c' with
    | eq => exact lv_if_eq X.1 X.2.1 hd (tg_of h1) (fun h => k1 (f1 h)) (fun h => k2 (f2 h))
    | ne => exact lv_if_ne X.1 X.2.1 hd (tg_of h1) (fun h => k1 (f1 h)) (fun h => k2 (f2 (fun z => z h)))
    | lt => exact lv_if_lt X.1 X.2.1 hd (tg_of h1) (fun h => k1 (f1 h)) (fun h => k2 (f2 h))
    | ge => exact lv_if_ge X.1 X.2.1 hd (tg_of h1) (fun h => k1 (f1 h)) (fun h => k2 (f2 h))
    | gt => exact lv_if_gt X.1 X.2.1 hd (tg_of h1) (fun h => k1 (f1 h)) (fun h => k2 (f2 h))
    | le => exact lv_if_le X.1 X.2.1 hd (tg_of h1) (fun h => k1 (f1 h)) (fun h => k2 (f2 h))
  · cases hk
theorem w_icmp {cd : Jvm.ClassFile.Cond} {t : Int} {x y : Int32} (X : CXx D dA n0 cad E p R s m args meth c mi) (hd : decode (mByt mi) pc = .ok (a, nx - pc)) (hk : k_icmp cd t nx pc a = true)
    (K1 : cndB cd x y = true → WW D dA n0 cad p l e R s m args below meth c Q mi z0 t.toNat ls st σ) (K2 : cndB cd x y = false → WW D dA n0 cad p l e R s m args below meth c Q mi z0 nx ls st σ) : WW D dA n0 cad p l e R s m args below meth c Q mi z0 pc ls (.int y :: .int x :: st) σ := by
  intro H locs cells slots la hP hS hl hc hz hL
  have k1 := fun h => K1 h H locs cells slots la hP hS hl hc hz hL
  have k2 := fun h => K2 h H locs cells slots la hP hS hl hc hz hL
  have f1 : cnd cd x y → cndB cd x y = true := (cndB_iff _ _ _).mpr
  have f2 : ¬ cnd cd x y → cndB cd x y = false := fun h => by
    cases hq : cndB cd x y with
    | true => exact absurd ((cndB_iff _ _ _).mp hq) h
    | false => rfl
  unfold k_icmp at hk
  split at hk
  · simp only [Bool.and_eq_true, decide_eq_true_eq] at hk
    obtain ⟨⟨rfl, h1⟩, h2⟩ := hk
    obtain rfl := ln_eq h2
    rw [Nat.add_sub_cancel_left] at hd
    rename_i c' off
    cases c' with
    | eq => exact lv_icmp_eq X.1 X.2.1 hd (tg_of h1) (fun h => k1 (f1 h)) (fun h => k2 (f2 h))
    | ne => exact lv_icmp_ne X.1 X.2.1 hd (tg_of h1) (fun h => k1 (f1 h)) (fun h => k2 (f2 (fun z => z h)))
    | lt => exact lv_icmp_lt X.1 X.2.1 hd (tg_of h1) (fun h => k1 (f1 h)) (fun h => k2 (f2 h))
    | ge => exact lv_icmp_ge X.1 X.2.1 hd (tg_of h1) (fun h => k1 (f1 h)) (fun h => k2 (f2 h))
    | gt => exact lv_icmp_gt X.1 X.2.1 hd (tg_of h1) (fun h => k1 (f1 h)) (fun h => k2 (f2 h))
    | le => exact lv_icmp_le X.1 X.2.1 hd (tg_of h1) (fun h => k1 (f1 h)) (fun h => k2 (f2 h))
  · cases hk
theorem swT_some {lo x : Int} {t : Int} : ∀ (ts : List Int) (k : Int), swT lo ts k x = some t → ∃ j : Nat, ts[j]? = some t ∧ x = lo + k + j
  | [], k, h => by cases h
  | u :: r, k, h => by
    rw [swT] at h
    split at h
    · rename_i hx
      cases h
      exact ⟨0, rfl, by omega⟩
    · obtain ⟨j, h1, h2⟩ := swT_some r (k + 1) h
      exact ⟨j + 1, h1, by push_cast; omega⟩
theorem swT_none {lo x : Int} : ∀ (ts : List Int) (k : Int), swT lo ts k x = none → x < lo + k ∨ lo + k + ts.length ≤ x
  | [], k, h => by simp; omega
  | u :: r, k, h => by
    rw [swT] at h
    split at h
    · cases h
    · rename_i hx
      rcases swT_none r (k + 1) h with h1 | h1
      · left; omega
      · right; simp only [List.length_cons]; push_cast; omega
theorem w_ts {d lo hi : Int} {ts : Array Int} {x : Int32} {t : Int} (X : CXx D dA n0 cad E p R s m args meth c mi) (hd : decode (mByt mi) pc = .ok (a, nx - pc)) (hk : k_ts d lo hi ts pc a = true)
    (ht : (swT lo ts.toList 0 x.toInt = some t) ∨ (swT lo ts.toList 0 x.toInt = none ∧ t = d))
    (K : WW D dA n0 cad p l e R s m args below meth c Q mi z0 t.toNat ls st σ) : WW D dA n0 cad p l e R s m args below meth c Q mi z0 pc ls (.int x :: st) σ := by
  intro H locs cells slots la hP hS hl hc hz hL
  have k := K H locs cells slots la hP hS hl hc hz hL
  unfold k_ts at hk
  split at hk
  · rename_i d' lo' hi' offs
    simp only [Bool.and_eq_true, decide_eq_true_eq] at hk
    obtain ⟨⟨⟨⟨⟨rfl, rfl⟩, h1⟩, h2⟩, h3⟩, h4⟩ := hk
    have hlen : (ts.toList.length : Int) = hi' - lo' + 1 := h4.symm
    rcases ht with ht | ⟨ht, rfl⟩
    · obtain ⟨j, g1, g2⟩ := swT_some _ _ ht
      have hj : j < ts.toList.length := (List.getElem?_eq_some_iff.mp g1).1
      have ge : ∃ off, offs.toList[j]? = some off ∧ (pc : Int) + off = t := by
        rw [← h2, List.getElem?_map, Option.map_eq_some_iff] at g1
        exact g1
      obtain ⟨off, g3, g4⟩ := ge
      have ht0 : 0 ≤ t := of_decide_eq_true (List.all_eq_true.mp h3 t (List.mem_of_getElem? g1))
      refine lv_tableIn X.1 X.2.1 (off := off) hd (by omega) (by omega) ?_ (by omega) k
      rw [show (x.toInt - lo').toNat = j by omega, ← Array.getElem?_toList]
      exact g3
    · rcases swT_none _ _ ht with g | g
      · exact lv_tableOut X.1 X.2.1 hd (by omega) (tg_of h1) k
      · exact lv_tableOut X.1 X.2.1 hd (by omega) (tg_of h1) k
  · cases hk
theorem ls_off {pc : Nat} {x : Int} : ∀ (ps : List (Int × Int)) (d : Int), Op.lookupswitch.offset (ps.map (fun q => (q.1, (pc : Int) + q.2))) ((pc : Int) + d) x = (pc : Int) + Op.lookupswitch.offset ps d x
  | [], d => rfl
  | q :: r, d => by
    rw [List.map_cons]
    obtain ⟨a, o⟩ := q
    rw [Op.lookupswitch.offset_cons, Op.lookupswitch.offset_cons]
    split
    · rfl
    · exact ls_off r d
theorem ls_nn {x : Int} : ∀ (ps : List (Int × Int)) (d : Int), ps.all (fun q => decide (0 ≤ q.2)) = true → 0 ≤ d → 0 ≤ Op.lookupswitch.offset ps d x
  | [], d, _, h => h
  | (a, o) :: r, d, h, hd => by
    simp only [List.all_cons, Bool.and_eq_true, decide_eq_true_eq] at h
    rw [Op.lookupswitch.offset_cons]
    split
    · exact h.1
    · exact ls_nn r d h.2 hd
theorem w_ls {d : Int} {ps : Array (Int × Int)} {x : Int32} (X : CXx D dA n0 cad E p R s m args meth c mi) (hd : decode (mByt mi) pc = .ok (a, nx - pc)) (hk : k_ls d ps pc a = true)
    (K : WW D dA n0 cad p l e R s m args below meth c Q mi z0 (Op.lookupswitch.offset ps.toList d x.toInt).toNat ls st σ) : WW D dA n0 cad p l e R s m args below meth c Q mi z0 pc ls (.int x :: st) σ := by
  intro H locs cells slots la hP hS hl hc hz hL
  have k := K H locs cells slots la hP hS hl hc hz hL
  unfold k_ls at hk
  split at hk
  · rename_i d' ps'
    simp only [Bool.and_eq_true, decide_eq_true_eq] at hk
    obtain ⟨⟨⟨h1, h2⟩, h3⟩, h4⟩ := hk
    simp only [tgB, Bool.and_eq_true, decide_eq_true_eq] at h1
    have hn := ls_nn (x := x.toInt) ps.toList d h3 h1.2
    refine lv_lookup X.1 X.2.1 hd h4 rfl (tgt := (Op.lookupswitch.offset ps.toList d x.toInt).toNat) ?_ k
    rw [Int.toNat_of_nonneg hn, ← h2, ← h1.1, ls_off]
  · cases hk
end OPS
