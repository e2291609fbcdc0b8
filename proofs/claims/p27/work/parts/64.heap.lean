/-! THE TIE, 3: the heap's instructions -/
theorem adr_lt {n0 : Nat} {cad : Nat → Nat} {c : Nat} (h : c < 1000) : adr n0 cad c = n0 + c := if_pos h
theorem adr_k {n0 : Nat} {cad : Nat → Nat} {c : Nat} (h : 1000 ≤ c) : adr n0 cad c = cad (c - 1000) := if_neg (by omega)
theorem lt_of_sh {σ : ASt} {c : Nat} {q : Nat × Nat} (h : σ.1[c]? = some q) (hL : σ.1.length ≤ 1000) : c < 1000 := Nat.lt_of_lt_of_le (List.getElem?_eq_some_iff.mp h).1 hL
theorem W.bd {p : Program} {l : Launch} {e : Env} {R : Room} {s : State} {m : MethodId} {args : Array Value} {below : List Frame} {meth : Method} {c : Code} {H : Heap} {locs : List Loc} {cells slots : Nat} {Q : State → Prop} {g : JFrame} (h : H.size ≤ s.heap.size + cells → W p l e R s m args below meth c H locs cells slots Q g) : W p l e R s m args below meth c H locs cells slots Q g :=
  fun T hT X => h (by rw [← hT]; exact X.heapSize) T hT X
theorem inB_vp {i : Int32} {n : Nat} (h : inB i n = true) : vp_in i n := by
  simp only [inB, decide_eq_true_eq] at h
  exact h
section HPS
variable {D : va_G} {dA : Nat → ClassId} {n0 : Nat} {cad : Nat → Nat} {E : AEnv} {p : Program} {l : Launch} {e : Env} {R : Room} {s : State} {m : MethodId} {args : Array Value} {below : List Frame} {meth : Method} {c : Code} {Q : State → Prop} {mi z0 pc nx : Nat} {ls st : List Value} {σ : ASt} {a : Instr}
/-- an object's fields, by σ -/
def fsO (n0 : Nat) (cad : Nat → Nat) (σ : ASt) (o : Nat) (q : Nat × Nat) : List Value := (List.range q.2).map fun j => if fTy q.1 j = 3 then va_rf (drf n0 cad (σ.2.2 o j)) else .int (σ.2.1 o j)
theorem fsO_get {o k : Nat} {q : Nat × Nat} (hk : k < q.2) : (fsO n0 cad σ o q)[k]? = some (if fTy q.1 k = 3 then va_rf (drf n0 cad (σ.2.2 o k)) else .int (σ.2.1 o k)) := by
  simp [fsO, hk]
theorem ws_obj {o ci n : Nat} (h : σ.1[o]? = some (ci, n)) (hci : ci < 10) : (wsA dA n0 cad σ)[o]? = some (n0 + o, .inr (ci, fsO n0 cad σ o (ci, n))) := by
  rw [ws_get h, ent_obj hci]
  rfl
theorem w_gf {i o : Nat} {v : Value} (X : CXx D dA n0 cad E p R s m args meth c mi) (hd : decode (mByt mi) pc = .ok (a, nx - pc)) (hk : k_gf (mCls mi) i nx pc a = true) (hci : i / 100 < 6) (hki : i % 100 < nFl (i / 100)) (hs : σ.1[o]? = some (i / 100, nFl (i / 100)))
    (hv : (if fTy (i / 100) (i % 100) = 3 then va_rf (drf n0 cad (σ.2.2 o (i % 100))) else .int (σ.2.1 o (i % 100))) = en n0 cad v)
    (K : WW D dA n0 cad p l e R s m args below meth c Q mi z0 nx ls (v :: st) σ) : WW D dA n0 cad p l e R s m args below meth c Q mi z0 pc ls (.ref o :: st) σ := by
  intro H locs cells slots la hP hS hl hc hz hL
  have k := K H locs cells slots la hP hS hl hc hz hL
  obtain ⟨hx, hb, hml, hown, hts, -, hKF, -⟩ := X
  unfold k_gf at hk
  split at hk
  · simp only [Bool.and_eq_true] at hk
    obtain ⟨h1, h2⟩ := hk
    obtain rfl := ln_eq h2
    rw [Nat.add_sub_cancel_left] at hd
    obtain ⟨q, hq, hq2⟩ := any_of h1
    simp only [Bool.and_eq_true] at hq2
    obtain ⟨⟨g1, g2⟩, g3⟩ := hq2
    have g1 := Nat.eq_of_beq_eq_true g1
    have g2 := Nat.eq_of_beq_eq_true g2
    have g3 := Nat.eq_of_beq_eq_true g3
    have hw := of_decide_eq_true (List.all_eq_true.mp lkF_ok q hq)
    rw [g1, g2, g3] at hw
    have hpos : adr n0 cad o = n0 + o := adr_lt (lt_of_sh hs hL)
    show W p l e R s m args below meth c H locs cells slots Q (F0 m pc la (.ref (adr n0 cad o) :: st.map (en n0 cad)))
    rw [hpos]
    exact va_get hx hb hts (uw_all hci) hown hKF.1 hP o (ws_obj hs (by omega)) (cl_all hci) (i % 100) hki (hts _ (tb_of _ hw rfl)) (fun _ h => h) (by rw [fsO_get hki]; exact congrArg some hv) hd k
  · cases hk
theorem w_pf {i o : Nat} {v : Value} {σ' : ASt} (X : CXx D dA n0 cad E p R s m args meth c mi) (hd : decode (mByt mi) pc = .ok (a, nx - pc)) (hk : k_pf (mCls mi) (mNam mi).name i nx pc a = true) (hci : i / 100 < 6) (hki : i % 100 < nFl (i / 100)) (hs : σ.1[o]? = some (i / 100, nFl (i / 100)))
    (hn : narrow (cTy (i / 100) (i % 100)) (en n0 cad v) = en n0 cad v) (hf : fits (cTy (i / 100) (i % 100)) (en n0 cad v) = true) (h1 : σ'.1 = σ.1)
    (hw : wsA dA n0 cad σ' = (wsA dA n0 cad σ).set o (n0 + o, .inr (i / 100, (fsO n0 cad σ o (i / 100, nFl (i / 100))).set (i % 100) (en n0 cad v))))
    (K : WW D dA n0 cad p l e R s m args below meth c Q mi z0 nx ls st σ') : WW D dA n0 cad p l e R s m args below meth c Q mi z0 pc ls (v :: .ref o :: st) σ := by
  intro H locs cells slots la hP hS hl hc hz hL
  have k : ∀ (H1 : Heap) (locs1 : List Loc), va_P D clz (wsA dA n0 cad σ') H1 → va_S (AA n0) s.heap H1 locs1 → _ := fun H1 locs1 hP1 hS1 => K H1 locs1 cells slots la hP1 hS1 hl (by rw [h1]; exact hc) (by rw [h1]; exact hz) (by rw [h1]; exact hL)
  obtain ⟨hx, hb, hml, hown, hts, hnm, hKF, -⟩ := X
  unfold k_pf at hk
  split at hk
  · simp only [Bool.and_eq_true, Bool.or_eq_true, decide_eq_true_eq] at hk
    obtain ⟨⟨h2, h3⟩, h4⟩ := hk
    obtain rfl := ln_eq h3
    rw [Nat.add_sub_cancel_left] at hd
    obtain ⟨q, hq, hq2⟩ := any_of h2
    simp only [Bool.and_eq_true] at hq2
    obtain ⟨⟨g1, g2⟩, g3⟩ := hq2
    have g1 := Nat.eq_of_beq_eq_true g1
    have g2 := Nat.eq_of_beq_eq_true g2
    have g3 := Nat.eq_of_beq_eq_true g3
    have hwd := of_decide_eq_true (List.all_eq_true.mp lkF_ok q hq)
    rw [g1, g2, g3] at hwd
    have hpos : adr n0 cad o = n0 + o := adr_lt (lt_of_sh hs hL)
    have hlen : i % 100 < (fsO n0 cad σ o (i / 100, nFl (i / 100))).length := by simp [fsO]; exact hki
    show W p l e R s m args below meth c H locs cells slots Q (F0 m pc la (en n0 cad v :: .ref (adr n0 cad o) :: st.map (en n0 cad)))
    rw [hpos]
    rcases h4 with h4 | ⟨h4, h5⟩
    · refine va_put hx hb hts (uw_all hci) (cTy (i / 100)) (ct_all hci) (cn_all hci) hown hKF.1 hP ws_D hS o (ws_obj hs (by omega)) (cl_all hci) (i % 100) hki (hts _ (tb_of _ hwd rfl)) (fun _ h => h) (by simpa using h4) (ct_all hci _ hki) hn hf hlen hd (fun H1 locs1 hP1 hD1 hS1 => ?_)
      exact k H1 locs1 (by rw [hw]; exact hP1) hS1
    · by_cases h6 : (cTT (i / 100) (i % 100)).2.2.2 = true
      · refine va_putF hx hb hts (uw_all hci) (cTy (i / 100)) (ct_all hci) (cn_all hci) hown hKF.1 hP ws_D hS o (ws_obj hs (by omega)) (cl_all hci) (i % 100) hki (hts _ (tb_of _ hwd rfl)) (fun _ h => h) h6 (hnm h4) h5 (ct_all hci _ hki) hn hf hlen hd (fun H1 locs1 hP1 hD1 hS1 => ?_)
        exact k H1 locs1 (by rw [hw]; exact hP1) hS1
      · refine va_put hx hb hts (uw_all hci) (cTy (i / 100)) (ct_all hci) (cn_all hci) hown hKF.1 hP ws_D hS o (ws_obj hs (by omega)) (cl_all hci) (i % 100) hki (hts _ (tb_of _ hwd rfl)) (fun _ h => h) (by simpa using h6) (ct_all hci _ hki) hn hf hlen hd (fun H1 locs1 hP1 hD1 hS1 => ?_)
        exact k H1 locs1 (by rw [hw]; exact hP1) hS1
  · cases hk
theorem fs_wrI {o ci n k : Nat} {x : Int32} (h : σ.1[o]? = some (ci, n)) (hci : ci < 10) (ht : ¬ fTy ci k = 3) : wsA dA n0 cad (wrI σ o k x) = (wsA dA n0 cad σ).set o (n0 + o, .inr (ci, (fsO n0 cad σ o (ci, n)).set k (.int x))) := by
  rw [ws_wrI h, ent_obj hci]
  congr 4
  apply List.ext_getElem?
  intro j
  by_cases hj : j < n
  · by_cases hjk : j = k
    · subst hjk
      rw [List.getElem?_set_self (by simp [fsO]; exact hj)]
      simp [hj, ht, wrI, upd]
    · rw [List.getElem?_set_ne (Ne.symm hjk), fsO_get (q := (ci, n)) hj]
      simp [hj, wrI, upd, hjk]
  · rw [List.getElem?_eq_none (by simp; omega), List.getElem?_eq_none (by simp [fsO]; omega)]
theorem fs_wrR {o ci n k r : Nat} (h : σ.1[o]? = some (ci, n)) (hci : ci < 10) (ht : fTy ci k = 3) : wsA dA n0 cad (wrR σ o k r) = (wsA dA n0 cad σ).set o (n0 + o, .inr (ci, (fsO n0 cad σ o (ci, n)).set k (.ref (adr n0 cad r)))) := by
  rw [ws_wrR h, ent_obj hci]
  congr 4
  apply List.ext_getElem?
  intro j
  by_cases hj : j < n
  · by_cases hjk : j = k
    · subst hjk
      rw [List.getElem?_set_self (by simp [fsO]; exact hj)]
      simp [hj, ht, wrR, va_up, drf, va_rf]
    · rw [List.getElem?_set_ne (Ne.symm hjk), fsO_get (q := (ci, n)) hj]
      simp [hj, wrR, va_up, hjk]
  · rw [List.getElem?_eq_none (by simp; omega), List.getElem?_eq_none (by simp [fsO]; omega)]
theorem w_gs {j : Nat} (X : CXx D dA n0 cad E p R s m args meth c mi) (hd : decode (mByt mi) pc = .ok (a, nx - pc)) (hk : k_gs (mCls mi) j nx pc a = true)
    (K : WW D dA n0 cad p l e R s m args below meth c Q mi z0 nx ls (.ref (1000 + j) :: st) σ) : WW D dA n0 cad p l e R s m args below meth c Q mi z0 pc ls st σ := by
  intro H locs cells slots la hP hS hl hc hz hL
  have k := K H locs cells slots la hP hS hl hc hz hL
  obtain ⟨hx, hb, hml, hown, hts, hnm, hKF, hHF, -⟩ := X
  unfold k_gs at hk
  split at hk
  · simp only [Bool.and_eq_true] at hk
    obtain ⟨h1, h2⟩ := hk
    obtain rfl := ln_eq h2
    rw [Nat.add_sub_cancel_left] at hd
    obtain ⟨q, hq, hq2⟩ := any_of h1
    simp only [Bool.and_eq_true] at hq2
    obtain ⟨⟨g1, g2⟩, g3⟩ := hq2
    have g1 := Nat.eq_of_beq_eq_true g1
    have g2 := Nat.eq_of_beq_eq_true g2
    have g3 := Nat.eq_of_beq_eq_true g3
    have hwd := List.all_eq_true.mp lkS_ok q hq
    simp only [Bool.and_eq_true, decide_eq_true_eq, Nat.blt_eq] at hwd
    rw [g1, g2, g3] at hwd
    have k : W p l e R s m args below meth c H locs cells slots Q (F0 m (pc + 3) la (.ref (adr n0 cad (1000 + j)) :: st.map (en n0 cad))) := k
    rw [adr_k (by omega), Nat.add_sub_cancel_left] at k
    exact va_getsN hx hb (hHF.1 j hwd.2) hS hown (va_Nw.use rfl (hKF.2.1 _ hwd.1)) (fun _ h => h) hd k
  · cases hk
theorem w_ald {o n : Nat} {i : Int32} {kd : Nat} {op : Instr} (X : CXx D dA n0 cad E p R s m args meth c mi) (hd : decode (mByt mi) pc = .ok (a, nx - pc)) (hk : k_same op nx pc a = true) (hop : (op = .iaload ∧ kd = 10) ∨ (op = .caload ∧ kd = 11))
    (hs : σ.1[o]? = some (kd, n)) (hin : inB i n = true)
    (K : WW D dA n0 cad p l e R s m args below meth c Q mi z0 nx ls (.int (σ.2.1 o i.toNatClampNeg) :: st) σ) : WW D dA n0 cad p l e R s m args below meth c Q mi z0 pc ls (.int i :: .ref o :: st) σ := by
  intro H locs cells slots la hP hS hl hc hz hL
  have k := K H locs cells slots la hP hS hl hc hz hL
  obtain ⟨hx, hb, hml, hown, hts, hnm, hKF, -⟩ := X
  obtain ⟨e0, hd'⟩ := sm_eq hd hk
  subst e0
  have hin : vp_in i n := inB_vp hin
  have hpos : adr n0 cad o = n0 + o := adr_lt (lt_of_sh hs hL)
  show W p l e R s m args below meth c H locs cells slots Q (F0 m pc la (.int i :: .ref (adr n0 cad o) :: st.map (en n0 cad)))
  rw [hpos]
  rcases hop with ⟨rfl, rfl⟩ | ⟨rfl, rfl⟩
  · exact va_iald hx hb hKF.1 hP o 0 (by rw [ws_get hs, ent_int (by decide) (by decide)]) rfl hin hd' k
  · exact va_cald hx hb hKF.1 hP o 1 (by rw [ws_get hs, ent_int (by decide) (by decide)]) rfl hin hd' k
theorem ws_arr {o kd n j : Nat} {x : Int32} (h : σ.1[o]? = some (kd, n)) (h1 : 10 ≤ kd) (h2 : kd < 13) : wsA dA n0 cad (wrI σ o j x) = (wsA dA n0 cad σ).set o (n0 + o, .inl (dA kd, n, .inl (upd (σ.2.1 o) j x))) := by
  rw [ws_wrI h, ent_int h1 h2, show (wrI σ o j x).2.1 o = upd (σ.2.1 o) j x from if_pos rfl]
theorem w_ast {o n : Nat} {i x : Int32} {kd : Nat} {op : Instr} (X : CXx D dA n0 cad E p R s m args meth c mi) (hd : decode (mByt mi) pc = .ok (a, nx - pc)) (hk : k_same op nx pc a = true) (hop : (op = .iastore ∧ kd = 10) ∨ (op = .castore ∧ kd = 11))
    (hs : σ.1[o]? = some (kd, n)) (hin : inB i n = true)
    (K : WW D dA n0 cad p l e R s m args below meth c Q mi z0 nx ls st (wrI σ o i.toNatClampNeg (vp_nar (akT kd) x))) : WW D dA n0 cad p l e R s m args below meth c Q mi z0 pc ls (.int x :: .int i :: .ref o :: st) σ := by
  intro H locs cells slots la hP hS hl hc hz hL
  have k : ∀ (H1 : Heap) (locs1 : List Loc), va_P D clz (wsA dA n0 cad (wrI σ o i.toNatClampNeg (vp_nar (akT kd) x))) H1 → va_S (AA n0) s.heap H1 locs1 → _ := fun H1 locs1 hP1 hS1 => K H1 locs1 cells slots la hP1 hS1 hl hc hz hL
  obtain ⟨hx, hb, hml, hown, hts, hnm, hKF, -⟩ := X
  obtain ⟨e0, hd'⟩ := sm_eq hd hk
  subst e0
  have hin : vp_in i n := inB_vp hin
  have hpos : adr n0 cad o = n0 + o := adr_lt (lt_of_sh hs hL)
  show W p l e R s m args below meth c H locs cells slots Q (F0 m pc la (.int x :: .int i :: .ref (adr n0 cad o) :: st.map (en n0 cad)))
  rw [hpos]
  rcases hop with ⟨rfl, rfl⟩ | ⟨rfl, rfl⟩
  · exact va_iast hx hb hKF.1 hP ws_D hS o 0 (by rw [ws_get hs, ent_int (by decide) (by decide)]) rfl hin hd' (fun H1 locs1 hP1 _ hS1 => k H1 locs1 (by rw [ws_arr hs (by decide) (by decide)]; exact hP1) hS1)
  · exact va_cast hx hb hKF.1 hP ws_D hS o 1 (by rw [ws_get hs, ent_int (by decide) (by decide)]) rfl hin hd' (fun H1 locs1 hP1 _ hS1 => k H1 locs1 (by rw [ws_arr hs (by decide) (by decide)]; exact hP1) hS1)
theorem w_kld {o : Nat} {i : Int32} (X : CXx D dA n0 cad E p R s m args meth c mi) (hd : decode (mByt mi) pc = .ok (a, nx - pc)) (hk : k_kal nx pc a = true) (h1 : 1000 ≤ o) (h2 : o < 1004) (hin : inB i (E (o - 1000)).1 = true)
    (K : WW D dA n0 cad p l e R s m args below meth c Q mi z0 nx ls (.int ((E (o - 1000)).2 i.toNatClampNeg) :: st) σ) : WW D dA n0 cad p l e R s m args below meth c Q mi z0 pc ls (.int i :: .ref o :: st) σ := by
  intro H locs cells slots la hP hS hl hc hz hL
  have k := K H locs cells slots la hP hS hl hc hz hL
  obtain ⟨hx, hb, hml, hown, hts, hnm, hKF, hHF, -⟩ := X
  unfold k_kal at hk
  split at hk
  · obtain rfl := ln_eq hk
    rw [Nat.add_sub_cancel_left] at hd
    have hin : vp_in i (E (o - 1000)).1 := inB_vp hin
    obtain ⟨cell, g1, g2, g3, g4, g5, g6, -⟩ := hHF.2 (o - 1000) (by omega)
    show W p l e R s m args below meth c H locs cells slots Q (F0 m pc la (.int i :: .ref (adr n0 cad o) :: st.map (en n0 cad)))
    rw [adr_k h1]
    exact W.iald (v := .int ((E (o - 1000)).2 i.toNatClampNeg)) hx hb (by rw [hS.2.1 _ (Array.getElem?_eq_some_iff.mp g1).1 g6]; exact g1) g2 g3 (by rw [g4]; exact hin) (g5 _ (Nat.not_le.mp fun q => hin (Or.inr q))) rfl rfl hd k
  · cases hk
theorem w_len {o : Nat} (X : CXx D dA n0 cad E p R s m args meth c mi) (hd : decode (mByt mi) pc = .ok (a, nx - pc)) (hk : k_same .arraylength nx pc a = true) (h1 : 1000 ≤ o) (h2 : o < 1004)
    (K : WW D dA n0 cad p l e R s m args below meth c Q mi z0 nx ls (.int (Int32.ofNat (E (o - 1000)).1) :: st) σ) : WW D dA n0 cad p l e R s m args below meth c Q mi z0 pc ls (.ref o :: st) σ := by
  intro H locs cells slots la hP hS hl hc hz hL
  have k := K H locs cells slots la hP hS hl hc hz hL
  obtain ⟨hx, hb, hml, hown, hts, hnm, hKF, hHF, -⟩ := X
  obtain ⟨e0, hd'⟩ := sm_eq hd hk
  subst e0
  obtain ⟨cell, g1, g2, g3, g4, g5, g6, -⟩ := hHF.2 (o - 1000) (by omega)
  show W p l e R s m args below meth c H locs cells slots Q (F0 m pc la (.ref (adr n0 cad o) :: st.map (en n0 cad)))
  rw [adr_k h1]
  exact W.alen (n := Int32.ofNat (E (o - 1000)).1) hx hb (by rw [hS.2.1 _ (Array.getElem?_eq_some_iff.mp g1).1 g6]; exact g1) g2 (by rw [g4]) rfl rfl hd' k
theorem w_aal {o n r kd : Nat} {i : Int32} (X : CXx D dA n0 cad E p R s m args meth c mi) (hd : decode (mByt mi) pc = .ok (a, nx - pc)) (hk : k_aal kd nx pc a = true) (hs : σ.1[o]? = some (kd, n)) (hin : inB i n = true) (hr : σ.2.2 o i.toNatClampNeg = r + 1)
    (K : WW D dA n0 cad p l e R s m args below meth c Q mi z0 nx ls (.ref r :: st) σ) : WW D dA n0 cad p l e R s m args below meth c Q mi z0 pc ls (.int i :: .ref o :: st) σ := by
  intro H locs cells slots la hP hS hl hc hz hL
  have k := K H locs cells slots la hP hS hl hc hz hL
  obtain ⟨hx, hb, hml, hown, hts, hnm, hKF, -⟩ := X
  unfold k_aal at hk
  split at hk
  · simp only [Bool.and_eq_true, Nat.ble_eq, Nat.blt_eq] at hk
    obtain rfl := ln_eq hk.1.1
    rw [Nat.add_sub_cancel_left] at hd
    have hin : vp_in i n := inB_vp hin
    show W p l e R s m args below meth c H locs cells slots Q (F0 m pc la (.int i :: .ref (adr n0 cad o) :: st.map (en n0 cad)))
    rw [adr_lt (lt_of_sh hs hL)]
    refine va_aldq hx hb hKF.1 hP o (kd - 10) (by rw [ws_get hs, ent_ref hk.1.2]) (ty_ref dA hk.1.2 hk.2) hin hd ?_
    rw [hr]
    exact k
  · cases hk
theorem w_aas {o n v kd : Nat} {i : Int32} (X : CXx D dA n0 cad E p R s m args meth c mi) (hd : decode (mByt mi) pc = .ok (a, nx - pc)) (hk : k_aas kd nx pc a = true) (hs : σ.1[o]? = some (kd, n)) (hin : inB i n = true) (hv : σ.1[v]? = some (aCl kd, nFl (aCl kd)))
    (K : WW D dA n0 cad p l e R s m args below meth c Q mi z0 nx ls st (wrR σ o i.toNatClampNeg v)) : WW D dA n0 cad p l e R s m args below meth c Q mi z0 pc ls (.ref v :: .int i :: .ref o :: st) σ := by
  intro H locs cells slots la hP hS hl hc hz hL
  have k : ∀ (H1 : Heap) (locs1 : List Loc), va_P D clz (wsA dA n0 cad (wrR σ o i.toNatClampNeg v)) H1 → va_S (AA n0) s.heap H1 locs1 → _ := fun H1 locs1 hP1 hS1 => K H1 locs1 cells slots la hP1 hS1 hl hc hz hL
  obtain ⟨hx, hb, hml, hown, hts, hnm, hKF, -⟩ := X
  unfold k_aas at hk
  split at hk
  · simp only [Bool.and_eq_true, Nat.ble_eq, Nat.blt_eq] at hk
    obtain rfl := ln_eq hk.1.1
    rw [Nat.add_sub_cancel_left] at hd
    have hin : vp_in i n := inB_vp hin
    have hac := acl_lt kd
    show W p l e R s m args below meth c H locs cells slots Q (F0 m pc la (.ref (adr n0 cad v) :: .int i :: .ref (adr n0 cad o) :: st.map (en n0 cad)))
    rw [adr_lt (lt_of_sh hs hL), adr_lt (lt_of_sh hv hL)]
    refine va_astq hx hb hKF.1 hP ws_D hS o (kd - 10) v (aCl kd) (r := (rN (aCl kd), cTT (aCl kd), nFl (aCl kd))) (by rw [ws_get hs, ent_ref hk.1.2]) (ty_ref dA hk.1.2 hk.2) (ws_obj hv (by omega)) (cl_all hac) hin hd (fun H1 locs1 hP1 _ hS1 => k H1 locs1 ?_ hS1)
    rw [ws_wrR hs, ent_ref hk.1.2]
    have e1 : (fun j => drf n0 cad ((wrR σ o i.toNatClampNeg v).2.2 o j)) = va_up (fun j => drf n0 cad (σ.2.2 o j)) i.toNatClampNeg (some (n0 + v)) := by
      funext j
      by_cases hj : j = i.toNatClampNeg
      · subst hj
        simp [wrR, va_up, drf, adr_lt (lt_of_sh hv hL)]
      · simp [wrR, va_up, hj]
    rw [e1]
    exact hP1
  · cases hk
theorem w_nop {v : Nat} (X : CXx D dA n0 cad E p R s m args meth c mi) (hd : decode (mByt mi) pc = .ok (a, nx - pc)) (hk : k_oi (mCls mi) (mDep mi) nx pc a = true) (h8 : Nat.ble ((st.map fun v => v.category).sum) 8 = true)
    (K : WW D dA n0 cad p l e R s m args below meth c Q mi z0 nx ls st σ) : WW D dA n0 cad p l e R s m args below meth c Q mi z0 pc ls (.ref v :: st) σ := by
  intro H locs cells slots la hP hS hl hc hz hL
  have k := K H locs cells slots la hP hS hl hc hz hL
  obtain ⟨hx, hb, hml, hown, hts, hnm, hKF, hHF, hn0, hfr, hlo, -⟩ := X
  unfold k_oi at hk
  split at hk
  · simp only [Bool.and_eq_true, Nat.ble_eq] at hk
    obtain ⟨⟨h1, h2⟩, h3⟩ := hk
    obtain rfl := ln_eq h2
    rw [Nat.add_sub_cancel_left] at hd
    obtain ⟨q, hq, hq2⟩ := any_of h1
    simp only [Bool.and_eq_true] at hq2
    have g1 := Nat.eq_of_beq_eq_true hq2.1
    have g2 := Nat.eq_of_beq_eq_true hq2.2
    have hw := of_decide_eq_true (List.all_eq_true.mp lkO_ok q hq)
    rw [g1, g2] at hw
    have hcat : ((st.map (en n0 cad)).map fun v => v.category).sum ≤ 8 := by
      rw [List.map_map, show ((fun v : Value => v.category) ∘ en n0 cad) = (fun v => v.category) from funext fun v => en_cat n0 cad v]
      simpa using h8
    refine W.objInit hx hb hown (hts _ (tb_of _ hw rfl)) (hts _ tb_oin) (hts _ tb_oco) rfl (by rw [hml]; exact hl.1) rfl hd (by omega) (by show 2 * 0 + _ + 12 ≤ _; omega) ?_
    exact W.eq (g2 := F0 m (pc + 3) la (st.map (en n0 cad))) rfl k
  · cases hk
theorem cat_sum (st : List Value) (h8 : Nat.ble ((st.map fun v => v.category).sum) 8 = true) : ((st.map (en n0 cad)).map fun v => v.category).sum ≤ 8 := by
  rw [List.map_map, show ((fun v : Value => v.category) ∘ en n0 cad) = (fun v => v.category) from funext fun v => en_cat n0 cad v]
  simpa using h8
theorem w_cc {o n : Nat} (X : CXx D dA n0 cad E p R s m args meth c mi) (hd : decode (mByt mi) pc = .ok (a, nx - pc)) (hk : k_cc (mCls mi) nx pc a = true) (hs : σ.1[o]? = some (10, n))
    (K : WW D dA n0 cad p l e R s m args below meth c Q mi z0 nx ls (.ref o :: st) σ) : WW D dA n0 cad p l e R s m args below meth c Q mi z0 pc ls (.ref o :: st) σ := by
  intro H locs cells slots la hP hS hl hc hz hL
  have k : W p l e R s m args below meth c H locs cells slots Q (F0 m nx la (.ref (adr n0 cad o) :: st.map (en n0 cad))) := K H locs cells slots la hP hS hl hc hz hL
  obtain ⟨hx, hb, hml, hown, hts, hnm, hKF, -⟩ := X
  unfold k_cc at hk
  split at hk
  · simp only [Bool.and_eq_true] at hk
    obtain ⟨h1, h2⟩ := hk
    obtain rfl := ln_eq h2
    rw [Nat.add_sub_cancel_left] at hd
    obtain ⟨q, hq, hq2⟩ := any_of h1
    simp only [Bool.and_eq_true] at hq2
    have g1 := Nat.eq_of_beq_eq_true hq2.1
    have g2 := Nat.eq_of_beq_eq_true hq2.2
    have hw := of_decide_eq_true (List.all_eq_true.mp lkX_ok q hq)
    rw [g1, g2] at hw
    show W p l e R s m args below meth c H locs cells slots Q (F0 m pc la (.ref (adr n0 cad o) :: st.map (en n0 cad)))
    rw [adr_lt (lt_of_sh hs hL)] at k ⊢
    exact va_castA hx hb hown (hts _ (tb_of _ hw rfl)) hP o (by rw [ws_get hs, ent_int (by decide) (by decide)]) (hKF.1.2 0 _ rfl).2 hd k
  · cases hk
end HPS
