/-! THE TIE, 6: a step, a method -/
section TIE
variable {D : va_G} {dA : Nat → ClassId} {n0 : Nat} {cad : Nat → Nat} {E : AEnv}
variable {p : Program} {l : Launch} {e : Env} {R : Room} {s : State} {m : MethodId} {args : Array Value} {below : List Frame} {meth : Method} {c : Code} {Q : State → Prop} {mi z0 pc nx : Nat} {ls st : List Value} {σ σ1 : ASt} {a : Instr}
theorem w_call {virt : Bool} {t : Nat} {as rest : List Value} {r : Option Value} (X : CXx D dA n0 cad E p R s m args meth c mi) (hd : decode (mByt mi) pc = .ok (a, nx - pc))
    (hk : (virt = true ∧ k_iv (mCls mi) (mDep mi) t nx pc a = true) ∨ (virt = false ∧ k_st (mCls mi) (mDep mi) t nx pc a = true)) (hs : s_call virt t st σ = some (.inr (.inl (t, as, rest))))
    (hM : MetA D dA n0 cad E l t as σ r σ1) (hg1 : σ.1.length ≤ σ1.1.length) (hg2 : tot σ.1 ≤ tot σ1.1) (hB : n0 + σ1.1.length ≤ s.heap.size + R.cells) (hB2 : tot σ1.1 ≤ z0 + R.slots) (hB3 : σ1.1.length ≤ 1000)
    (K : WW D dA n0 cad p l e R s m args below meth c Q mi z0 nx ls (r.toList ++ rest) σ1) : WW D dA n0 cad p l e R s m args below meth c Q mi z0 pc ls st σ := by
  intro H locs cells slots la hP hS hl hc hz hL
  refine W.bd fun hsz => ?_
  have X0 := X
  obtain ⟨hx, hb, hml, hown, hts, hnm, hKF, hHF, hn0, hfr, hlo, hE0⟩ := X
  have hHs : H.size = n0 + σ.1.length := heap_eq hn0 hP hS hc hsz
  have hU : ∀ U : State, U.heap = H → s.WarmedH U.vm → U.heap.size = n0 + σ.1.length ∧ va_P D clz (wsA dA n0 cad σ) U.heap ∧ KF D dA U ∧ HF dA n0 cad E U U.heap := fun U hU hW => by
    refine ⟨by rw [hU]; exact hHs, by rw [hU]; exact hP, hKF.moved hW, ?_⟩
    rw [hU]
    exact (hHF.moved hW.alike).kept (fun q h1 h2 => hS.2.1 q h1 h2)
  obtain ⟨hn, has, hrest, h8, hcat, hv⟩ := sc_of hs
  have hlen : as.length = mPar t := by rw [has]; simp; omega
  have hstk : st.map (en n0 cad) = (as.map (en n0 cad)).reverse ++ rest.map (en n0 cad) := by
    rw [has, hrest, List.map_reverse, List.reverse_reverse, ← List.map_append, List.take_append_drop]
  have h8' : 2 * (F0 m pc la (st.map (en n0 cad))).monitorRoom + ((rest.map (en n0 cad)).map fun v => v.category).sum ≤ 8 := by
    show 2 * 0 + _ ≤ 8
    have := cat_sum (n0 := n0) (cad := cad) rest h8
    omega
  have hf : cells + (σ1.1.length - σ.1.length) ≤ R.cells ∧ slots + (tot σ1.1 - tot σ.1) ≤ R.slots := ⟨by omega, by omega⟩
  have hk1 : ∀ (H1 : Heap) (locs1 : List Loc), va_P D clz (wsA dA n0 cad σ1) H1 → va_S (AA n0) s.heap H1 locs1 → W p l e R s m args below meth c H1 locs1 (cells + (σ1.1.length - σ.1.length)) (slots + (tot σ1.1 - tot σ.1)) Q (F0 m nx la ((r.toList ++ rest).map (en n0 cad))) := fun H1 locs1 hP1 hS1 => K H1 locs1 _ _ la hP1 hS1 hl (by omega) (by omega) hB3
  rcases hk with ⟨rfl, hk⟩ | ⟨rfl, hk⟩
  · obtain ⟨o, as', ha, hso⟩ := hv rfl
    unfold k_iv at hk
    split at hk
    · simp only [Bool.and_eq_true, Bool.or_eq_true, Nat.blt_eq] at hk
      obtain ⟨⟨hk, hln⟩, hdp⟩ := hk
      obtain rfl := ln_eq hln
      rw [Nat.add_sub_cancel_left] at hd
      obtain ⟨ag, hr⟩ := run_V (p := p) (l := l) (e := e) (R := R) (below := below) (locs := locs) (cells := cells) (slots := slots) X0 hk hd hdp hM hP hU ha hso (lt_of_sh hso hL) hlen hstk h8' hl.1 hf
      exact w_back hr hS hk1
    · simp only [Bool.and_eq_true, Bool.or_eq_true, Nat.blt_eq] at hk
      obtain ⟨⟨hk, hln⟩, hdp⟩ := hk
      obtain rfl := ln_eq hln
      rw [Nat.add_sub_cancel_left] at hd
      obtain ⟨ag, hr⟩ := run_I (p := p) (l := l) (e := e) (R := R) (below := below) (locs := locs) (cells := cells) (slots := slots) X0 hk hd hdp hM hU ha hlen hstk h8' hl.1 hf
      exact w_back hr hS hk1
    · cases hk
  · unfold k_st at hk
    split at hk
    · simp only [Bool.and_eq_true, Bool.or_eq_true, Nat.blt_eq] at hk
      obtain ⟨⟨hk, hln⟩, hdp⟩ := hk
      obtain rfl := ln_eq hln
      rw [Nat.add_sub_cancel_left] at hd
      obtain ⟨ag, hr⟩ := run_S (p := p) (l := l) (e := e) (R := R) (below := below) (locs := locs) (cells := cells) (slots := slots) X0 hk hd hdp hM hU hlen hstk h8' hl.1 hf
      exact w_back hr hS hk1
    · cases hk
/-- what a step may lead to -/
def Cont (D : va_G) (dA : Nat → ClassId) (n0 : Nat) (cad : Nat → Nat) (E : AEnv) (p : Program) (l : Launch) (e : Env) (R : Room) (s : State) (m : MethodId) (args : Array Value) (below : List Frame) (meth : Method) (c : Code) (Q : State → Prop) (mi z0 pc nx : Nat) (ls st : List Value) (σ : ASt) (res : Option ARes) : Prop := match res with
  | none => False
  | some (.inl q) => WW D dA n0 cad p l e R s m args below meth c Q mi z0 q.1 q.2.1 q.2.2.1 q.2.2.2 ∧ n0 + q.2.2.2.1.length ≤ s.heap.size + R.cells ∧ tot q.2.2.2.1 ≤ z0 + R.slots ∧ q.2.2.2.1.length ≤ 1000
  | some (.inr (.inl q)) => ∃ (r : Option Value) (σ1 : ASt), MetA D dA n0 cad E l q.1 q.2.1 σ r σ1 ∧ σ.1.length ≤ σ1.1.length ∧ tot σ.1 ≤ tot σ1.1 ∧ n0 + σ1.1.length ≤ s.heap.size + R.cells ∧ tot σ1.1 ≤ z0 + R.slots ∧ σ1.1.length ≤ 1000 ∧ WW D dA n0 cad p l e R s m args below meth c Q mi z0 nx ls (r.toList ++ q.2.2) σ1
  | some (.inr (.inr _)) => WW D dA n0 cad p l e R s m args below meth c Q mi z0 pc ls st σ
theorem ct_go {pc' : Nat} {ls' st' : List Value} {σ' : ASt} (h : Cont D dA n0 cad E p l e R s m args below meth c Q mi z0 pc nx ls st σ (go pc' ls' st' σ')) : WW D dA n0 cad p l e R s m args below meth c Q mi z0 pc' ls' st' σ' := h.1
theorem lk_alu {o : Instr} (h : lkOK mi pc o nx a = k_same o nx pc a) (hk : lkOK mi pc o nx a = true) : k_same o nx pc a = true := h ▸ hk
theorem one_alu {o : Instr} (X : CXx D dA n0 cad E p R s m args meth c mi) (hd : decode (mByt mi) pc = .ok (a, nx - pc)) (hk : k_same o nx pc a = true) (hC : Cont D dA n0 cad E p l e R s m args below meth c Q mi z0 pc nx ls st σ (s_alu o nx ls st σ)) : WW D dA n0 cad p l e R s m args below meth c Q mi z0 pc ls st σ := by
  unfold s_alu at hC
  split at hC
  · split at hC
    · rename_i hz; exact w_alu X hd hk hz hC.1
    · exact hC.elim
  · exact hC.elim
theorem one_falu {o : Instr} (X : CXx D dA n0 cad E p R s m args meth c mi) (hd : decode (mByt mi) pc = .ok (a, nx - pc)) (hk : k_same o nx pc a = true) (hC : Cont D dA n0 cad E p l e R s m args below meth c Q mi z0 pc nx ls st σ (s_falu o nx ls st σ)) : WW D dA n0 cad p l e R s m args below meth c Q mi z0 pc ls st σ := by
  unfold s_falu at hC
  split at hC
  · split at hC
    · rename_i hz
      split at hC
      · rename_i hn; exact w_falu X hd hk hz hn hC.1
      · exact hC.elim
    · exact hC.elim
  · exact hC.elim
theorem one_ald {op : Instr} {kd : Nat} (X : CXx D dA n0 cad E p R s m args meth c mi) (hd : decode (mByt mi) pc = .ok (a, nx - pc)) (hk : k_same op nx pc a = true) (hop : (op = .iaload ∧ kd = 10) ∨ (op = .caload ∧ kd = 11)) (hC : Cont D dA n0 cad E p l e R s m args below meth c Q mi z0 pc nx ls st σ (s_aload kd nx ls st σ)) : WW D dA n0 cad p l e R s m args below meth c Q mi z0 pc ls st σ := by
  unfold s_aload at hC
  split at hC
  · split at hC
    · rename_i hz
      split at hC
      · rename_i hn; exact w_ald X hd hk hop (by rw [hz, hn.1]) hn.2 hC.1
      · exact hC.elim
    · exact hC.elim
  · exact hC.elim
theorem one_ast {op : Instr} {kd : Nat} (X : CXx D dA n0 cad E p R s m args meth c mi) (hd : decode (mByt mi) pc = .ok (a, nx - pc)) (hk : k_same op nx pc a = true) (hop : (op = .iastore ∧ kd = 10) ∨ (op = .castore ∧ kd = 11)) (hC : Cont D dA n0 cad E p l e R s m args below meth c Q mi z0 pc nx ls st σ (s_astore kd nx ls st σ)) : WW D dA n0 cad p l e R s m args below meth c Q mi z0 pc ls st σ := by
  unfold s_astore at hC
  split at hC
  · split at hC
    · rename_i hz
      split at hC
      · rename_i hn; exact w_ast X hd hk hop (by rw [hz, hn.1]) hn.2 hC.1
      · exact hC.elim
    · exact hC.elim
  · exact hC.elim
theorem one_call {virt : Bool} {t : Nat} (X : CXx D dA n0 cad E p R s m args meth c mi) (hd : decode (mByt mi) pc = .ok (a, nx - pc)) (hk : (virt = true ∧ k_iv (mCls mi) (mDep mi) t nx pc a = true) ∨ (virt = false ∧ k_st (mCls mi) (mDep mi) t nx pc a = true)) (hC : Cont D dA n0 cad E p l e R s m args below meth c Q mi z0 pc nx ls st σ (s_call virt t st σ)) : WW D dA n0 cad p l e R s m args below meth c Q mi z0 pc ls st σ := by
  have key : s_call virt t st σ = none ∨ ∃ as rest, s_call virt t st σ = some (.inr (.inl (t, as, rest))) := by
    unfold s_call
    dsimp only
    split
    · exact Or.inl rfl
    · split
      · exact Or.inr ⟨_, _, rfl⟩
      · split
        · split
          · rename_i has _; exact Or.inr ⟨_, _, by rw [has]⟩
          · exact Or.inl rfl
        · exact Or.inl rfl
  rcases key with h | ⟨as, rest, h⟩
  · rw [h] at hC; exact hC.elim
  · rw [h] at hC
    obtain ⟨r, σ1, h1, h2, h3, h4, h5, h6, h7⟩ := hC
    exact w_call X hd hk h h1 h2 h3 h4 h5 h6 h7
theorem fty_ref {ci k : Nat} {r : Nat} (hci : ci < 6) (hk : k < nFl ci) (h3 : fTy ci k = 3) : narrow (cTy ci k) (.ref r) = .ref r ∧ fits (cTy ci k) (.ref r) = true := by
  have h := fty_all hci hk
  unfold fTyB at h
  rw [h3] at h
  have h : (match cTy ci k with | .object _ => true | .array _ => true | _ => false) = true := h
  split at h
  · rename_i h1; rw [h1]; exact ⟨rfl, rfl⟩
  · rename_i h1; rw [h1]; exact ⟨rfl, rfl⟩
  · cases h
theorem fty_int {ci k : Nat} {x : Int32} (hci : ci < 6) (hk : k < nFl ci) (h3 : fTy ci k = 0) : narrow (cTy ci k) (.int x) = .int x ∧ fits (cTy ci k) (.int x) = true := by
  have h := fty_all hci hk
  unfold fTyB at h
  rw [h3] at h
  rw [of_decide_eq_true h]
  exact ⟨rfl, rfl⟩
theorem fty_bool {ci k : Nat} {x : Int32} (hci : ci < 6) (hk : k < nFl ci) (h3 : fTy ci k = 1) (hx : fN .boolean x = true) : narrow (cTy ci k) (.int x) = .int x ∧ fits (cTy ci k) (.int x) = true := by
  have h := fty_all hci hk
  unfold fTyB at h
  rw [h3] at h
  rw [of_decide_eq_true h]
  simp only [fN, Bool.and_eq_true, decide_eq_true_eq] at hx
  exact hx
theorem fty_char {ci k : Nat} {x : Int32} (hci : ci < 6) (hk : k < nFl ci) (h3 : fTy ci k = 2) (hx : fN .char x = true) : narrow (cTy ci k) (.int x) = .int x ∧ fits (cTy ci k) (.int x) = true := by
  have h := fty_all hci hk
  unfold fTyB at h
  rw [h3] at h
  rw [of_decide_eq_true h]
  simp only [fN, Bool.and_eq_true, decide_eq_true_eq] at hx
  exact hx
theorem one_put {i o : Nat} {v : Value} (X : CXx D dA n0 cad E p R s m args meth c mi) (hd : decode (mByt mi) pc = .ok (a, nx - pc)) (hk : k_pf (mCls mi) (mNam mi).name i nx pc a = true) (hci : i / 100 < 6) (hki : i % 100 < nFl (i / 100)) (hs : σ.1[o]? = some (i / 100, nFl (i / 100)))
    (hC : Cont D dA n0 cad E p l e R s m args below meth c Q mi z0 pc nx ls (v :: .ref o :: st) σ (match fTy (i / 100) (i % 100), v with
      | 3, .ref r => go nx ls st (wrR σ o (i % 100) r)
      | 0, .int x => go nx ls st (wrI σ o (i % 100) x)
      | 1, .int x => if fN .boolean x = true then go nx ls st (wrI σ o (i % 100) x) else none
      | 2, .int x => if fN .char x = true then go nx ls st (wrI σ o (i % 100) x) else none
      | _, _ => none)) : WW D dA n0 cad p l e R s m args below meth c Q mi z0 pc ls (v :: .ref o :: st) σ := by
  split at hC
  · rename_i h3
    exact w_pf (σ' := wrR σ o (i % 100) _) X hd hk hci hki hs (fty_ref hci hki h3).1 (fty_ref hci hki h3).2 rfl (fs_wrR hs (by omega) h3) hC.1
  · rename_i h3
    exact w_pf (σ' := wrI σ o (i % 100) _) X hd hk hci hki hs (fty_int hci hki h3).1 (fty_int hci hki h3).2 rfl (fs_wrI hs (by omega) (by rw [h3]; decide)) hC.1
  · rename_i h3
    split at hC
    · rename_i hx
      exact w_pf (σ' := wrI σ o (i % 100) _) X hd hk hci hki hs (fty_bool hci hki h3 hx).1 (fty_bool hci hki h3 hx).2 rfl (fs_wrI hs (by omega) (by rw [h3]; decide)) hC.1
    · exact hC.elim
  · rename_i h3
    split at hC
    · rename_i hx
      exact w_pf (σ' := wrI σ o (i % 100) _) X hd hk hci hki hs (fty_char hci hki h3 hx).1 (fty_char hci hki h3 hx).2 rfl (fs_wrI hs (by omega) (by rw [h3]; decide)) hC.1
    · exact hC.elim
  · exact hC.elim
set_option maxHeartbeats 8000000 in
theorem one_step {o : Instr} (X : CXx D dA n0 cad E p R s m args meth c mi) (hd : decode (mByt mi) pc = .ok (a, nx - pc)) (hk : lkOK mi pc o nx a = true) (hC : Cont D dA n0 cad E p l e R s m args below meth c Q mi z0 pc nx ls st σ (step E o nx ls st σ)) : WW D dA n0 cad p l e R s m args below meth c Q mi z0 pc ls st σ := by
  unfold step at hC
  split at hC
  · exact w_int X hd hk hC.1
  · exact w_flt X hd hk hC.1
  · split at hC
    · rename_i hz; exact w_il X hd hk hz hC.1
    · exact hC.elim
  · split at hC
    · rename_i hz; exact w_al X hd hk hz hC.1
    · exact hC.elim
  · split at hC
    · rename_i hz; exact w_fl X hd hk hz hC.1
    · exact hC.elim
  · split at hC
    · unfold s_store at hC
      dsimp only at hC
      split at hC
      · rename_i hz; exact w_is X hd hk hz hC.1
      · exact hC.elim
    · exact hC.elim
  · split at hC
    · unfold s_store at hC
      dsimp only at hC
      split at hC
      · rename_i hz; exact w_as X hd hk hz hC.1
      · exact hC.elim
    · exact hC.elim
  · split at hC
    · unfold s_store at hC
      dsimp only at hC
      split at hC
      · rename_i hz; exact w_fs X hd hk hz hC.1
      · exact hC.elim
    · exact hC.elim
  · split at hC
    · rename_i hz; exact w_inc X hd hk hz hC.1
    · exact hC.elim
  · exact one_alu X hd hk hC
  · exact one_alu X hd hk hC
  · exact one_alu X hd hk hC
  · exact one_alu X hd hk hC
  · exact one_alu X hd hk hC
  · exact one_alu X hd hk hC
  · exact one_alu X hd hk hC
  · exact one_alu X hd hk hC
  · exact one_alu X hd hk hC
  · exact one_alu X hd hk hC
  · exact one_alu X hd hk hC
  · exact w_lld X hd hk hC.1
  · split at hC
    · rename_i hz; exact w_ll X hd hk hz hC.1
    · exact hC.elim
  · split at hC
    · split at hC
      · rename_i hz; exact w_lst X hd hk hz hC.1
      · exact hC.elim
    · exact hC.elim
  · split at hC
    · exact w_ladd X hd hk hC.1
    · exact hC.elim
  · split at hC
    · exact w_lmul X hd hk hC.1
    · exact hC.elim
  · split at hC
    · exact w_lcmp X hd hk hC.1
    · exact hC.elim
  · split at hC
    · exact w_i2l X hd hk hC.1
    · exact hC.elim
  · exact one_falu X hd hk hC
  · exact one_falu X hd hk hC
  · exact one_falu X hd hk hC
  · split at hC
    · exact w_fcmp X hd hk hC.1
    · exact hC.elim
  · split at hC
    · exact w_i2f X hd hk hC.1
    · exact hC.elim
  · split at hC
    · exact w_f2i X hd hk hC.1
    · exact hC.elim
  · split at hC
    · exact w_i2c X hd hk hC.1
    · exact hC.elim
  · split at hC
    · split at hC
      · rename_i hz; exact w_dup X hd hk hz hC.1
      · exact hC.elim
    · exact hC.elim
  · split at hC
    · split at hC
      · rename_i hz
        simp only [Bool.and_eq_true] at hz
        exact w_dup2 X hd hk hz.1 hz.2 hC.1
      · exact hC.elim
    · exact hC.elim
  · split at hC
    · split at hC
      · rename_i hz; exact w_pop X hd hk hz hC.1
      · exact hC.elim
    · exact hC.elim
  · exact w_goto X hd hk hC.1
  · split at hC
    · rename_i cd t st0 x rest
      refine w_if X hd hk (fun h => ?_) (fun h => ?_)
      · rw [h] at hC; exact hC.1
      · rw [h] at hC; exact hC.1
    · exact hC.elim
  · split at hC
    · rename_i cd t st0 y x rest
      refine w_icmp X hd hk (fun h => ?_) (fun h => ?_)
      · rw [h] at hC; exact hC.1
      · rw [h] at hC; exact hC.1
    · exact hC.elim
  · split at hC
    · split at hC
      · rename_i hz; exact w_ts X hd hk (Or.inl hz) hC.1
      · rename_i hz; exact w_ts X hd hk (Or.inr ⟨hz, rfl⟩) hC.1
    · exact hC.elim
  · split at hC
    · exact w_ls X hd hk hC.1
    · exact hC.elim
  · split at hC
    · split at hC
      · rename_i hs
        have hk : (k_gf (mCls mi) _ nx pc a && Nat.blt _ 6 && Nat.blt _ _) = true := hk
        simp only [Bool.and_eq_true, Nat.blt_eq] at hk
        obtain ⟨⟨h1, h2⟩, h3⟩ := hk
        split at hC
        · rename_i hty
          split at hC
          · exact hC.elim
          · rename_i hr
            refine w_gf X hd h1 h2 h3 hs ?_ hC.1
            rw [if_pos hty, hr]
            rfl
        · rename_i hty
          refine w_gf X hd h1 h2 h3 hs ?_ hC.1
          rw [if_neg hty]
          rfl
      · exact hC.elim
    · exact hC.elim
  · split at hC
    · split at hC
      · rename_i hs
        have hk : (k_pf (mCls mi) (mNam mi).name _ nx pc a && Nat.blt _ 6 && Nat.blt _ _) = true := hk
        simp only [Bool.and_eq_true, Nat.blt_eq] at hk
        obtain ⟨⟨h1, h2⟩, h3⟩ := hk
        exact one_put X hd h1 h2 h3 hs hC
      · exact hC.elim
    · exact hC.elim
  · exact w_gs X hd hk hC.1
  · exact one_ald X hd hk (Or.inl ⟨rfl, rfl⟩) hC
  · exact one_ald X hd hk (Or.inr ⟨rfl, rfl⟩) hC
  · exact absurd (show false = true from hk) (by decide)
  · exact one_ast X hd hk (Or.inl ⟨rfl, rfl⟩) hC
  · exact one_ast X hd hk (Or.inr ⟨rfl, rfl⟩) hC
  · exact absurd (show false = true from hk) (by decide)
  · split at hC
    · split at hC
      · rename_i hz; exact w_kld X hd hk hz.1 hz.2.1 hz.2.2 hC.1
      · exact hC.elim
    · exact hC.elim
  · split at hC
    · split at hC
      · rename_i hz; exact w_len X hd hk hz.1 hz.2 hC.1
      · exact hC.elim
    · exact hC.elim
  · split at hC
    · split at hC
      · rename_i hz
        split at hC
        · rename_i hn
          split at hC
          · exact hC.elim
          · rename_i hr; exact w_aal X hd hk (by rw [hz, hn.1]) hn.2 hr hC.1
        · exact hC.elim
      · exact hC.elim
    · exact hC.elim
  · split at hC
    · split at hC
      · rename_i hz
        split at hC
        · rename_i hn; exact w_aas X hd hk (by rw [hz, hn.1]) hn.2.1 hn.2.2 hC.1
        · exact hC.elim
      · exact hC.elim
    · exact hC.elim
  · split at hC
    · split at hC
      · rename_i ty st0 n rest hn
        have hb := hC.2
        dsimp only at hb
        rw [len_push, tot_push] at hb
        cases ty with
        | int => exact w_newa (Or.inl ⟨rfl, rfl⟩) X hd hk hn.1 hn.2 hb.1 hb.2.1 hb.2.2 hC.1
        | char => exact w_newa (Or.inr ⟨rfl, rfl⟩) X hd hk hn.1 hn.2 hb.1 hb.2.1 hb.2.2 hC.1
        | _ =>
          exfalso
          have hk : k_na _ nx pc a = true := hk
          unfold k_na at hk
          split at hk
          · simp at hk
          · cases hk
      · exact hC.elim
    · exact hC.elim
  · split at hC
    · split at hC
      · rename_i hn
        have hb := hC.2
        dsimp only at hb
        rw [len_push, tot_push] at hb
        exact w_anew X hd hk hn.1 hn.2 hb.1 hb.2.1 hb.2.2 hC.1
      · exact hC.elim
    · exact hC.elim
  · have hk : (k_new (mCls mi) _ nx pc a && Nat.blt _ 6) = true := hk
    simp only [Bool.and_eq_true, Nat.blt_eq] at hk
    have hb := hC.2
    dsimp only at hb
    rw [len_push, tot_push] at hb
    exact w_new X hd hk.1 hk.2 hb.1 hb.2.1 hb.2.2 hC.1
  · split at hC
    · split at hC
      · rename_i hz; exact w_nop X hd hk hz hC.1
      · exact hC.elim
    · exact hC.elim
  · split at hC
    · split at hC
      · rename_i hz
        have hb := hC.2
        dsimp only at hb
        rw [len_push, tot_push] at hb
        exact w_clone X hd hk hz hb.1 hb.2.1 hb.2.2 hC.1
      · exact hC.elim
    · exact hC.elim
  · split at hC
    · split at hC
      · exact absurd (show false = true from hk) (by decide)
      · exact hC.elim
    · exact hC.elim
  · split at hC
    · split at hC
      · rename_i hz; exact w_cc X hd hk hz hC.1
      · exact hC.elim
    · exact hC.elim
  · exact one_call X hd (Or.inl ⟨rfl, hk⟩) hC
  · exact one_call X hd (Or.inr ⟨rfl, hk⟩) hC
  · split at hC
    · exact hC
    · exact hC.elim
  · split at hC
    · split at hC
      · exact hC
      · exact hC.elim
    · exact hC.elim
  · split at hC
    · exact hC
    · exact hC.elim
  · split at hC
    · exact hC
    · exact hC.elim
  · split at hC
    · exact hC
    · exact hC.elim
  · exact hC.elim
theorem WW.cut (h : WW D dA n0 cad p l e R s m args below meth c Q mi z0 pc (ls.take nx) st σ) : WW D dA n0 cad p l e R s m args below meth c Q mi z0 pc ls st σ :=
  fun H locs cells slots la hP hS hl hc hz hL => h H locs cells slots la hP hS (hl.pre nx) hc hz hL
end TIE
