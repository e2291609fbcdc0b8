/-! THE TIE, 4: what is made -/
section MKS
variable {D : va_G} {dA : Nat → ClassId} {n0 : Nat} {cad : Nat → Nat} {E : AEnv} {p : Program} {l : Launch} {e : Env} {R : Room} {s : State} {m : MethodId} {args : Array Value} {below : List Frame} {meth : Method} {c : Code} {Q : State → Prop} {mi z0 pc nx : Nat} {ls st : List Value} {σ : ASt} {a : Instr}
/-- the new cell's place is the next one -/
theorem new_at {q : Nat} {x : va_E} {H1 : Heap} {cells : Nat} (hP : va_P D clz (wsA dA n0 cad σ ++ [(q, x)]) H1) (hD : va_D (AA n0) (wsA dA n0 cad σ ++ [(q, x)])) (hc : s.heap.size + cells = n0 + σ.1.length) (hz : H1.size ≤ s.heap.size + (cells + 1)) : q = n0 + σ.1.length := by
  have hlen : (wsA dA n0 cad σ).length = σ.1.length := by simp [wsA]
  have hq : (wsA dA n0 cad σ ++ [(q, x)])[σ.1.length]? = some (q, x) := by
    rw [List.getElem?_append_right (by omega), hlen, Nat.sub_self]; rfl
  have h1 : q < H1.size := (hP _ _ hq).lt
  have h2 : n0 ≤ q := hD.2 _ _ hq
  rcases Nat.lt_or_ge (q - n0) σ.1.length with h3 | h3
  · exfalso
    obtain ⟨k, hk⟩ : ∃ k, σ.1[q - n0]? = some k := ⟨_, List.getElem?_eq_getElem h3⟩
    have h4 : (wsA dA n0 cad σ ++ [(q, x)])[q - n0]? = some (n0 + (q - n0), ent dA n0 cad σ (q - n0) k) := by
      rw [List.getElem?_append_left (by omega)]
      exact ws_get hk
    have h5 := hD.1 _ _ _ _ h4 hq (by show n0 + (q - n0) = q; omega)
    omega
  · omega
theorem tot_push {k n : Nat} {f : Nat → Int32} : tot (pushC σ k n f).1 = tot σ.1 + n := by
  show tot (σ.1 ++ [(k, n)]) = _
  rw [tot_app]
  simp [tot]
theorem len_push {k n : Nat} {f : Nat → Int32} : (pushC σ k n f).1.length = σ.1.length + 1 := by
  show (σ.1 ++ [(k, n)]).length = _
  simp
/-- behind a making: the next place holds what the making laid -/
theorem w_pushed {kd n : Nat} {f : Nat → Int32} {q cells slots : Nat} {x : va_E} {H1 : Heap} {locs : List Loc} {la : Array Slot}
    (K : WW D dA n0 cad p l e R s m args below meth c Q mi z0 nx ls (.ref σ.1.length :: st) (pushC σ kd n f))
    (hxx : x = ent dA n0 cad (pushC σ kd n f) σ.1.length (kd, n))
    (hP : va_P D clz (wsA dA n0 cad σ ++ [(q, x)]) H1) (hD : va_D (AA n0) (wsA dA n0 cad σ ++ [(q, x)])) (hS : va_S (AA n0) s.heap H1 locs) (hl : LH n0 cad la (mMax mi) ls) (hc : s.heap.size + cells = n0 + σ.1.length) (hz : z0 + slots = tot σ.1) (hL : σ.1.length + 1 ≤ 1000) :
    W p l e R s m args below meth c H1 locs (cells + 1) (slots + n) Q (F0 m nx la (.ref q :: st.map (en n0 cad))) := by
  refine W.bd fun hsz => ?_
  have hq := new_at hP hD hc hsz
  subst hq
  subst hxx
  have k : W p l e R s m args below meth c H1 locs (cells + 1) (slots + n) Q (F0 m nx la (.ref (adr n0 cad σ.1.length) :: st.map (en n0 cad))) := K H1 locs (cells + 1) (slots + n) la (by rw [ws_push]; exact hP) hS hl (by rw [len_push]; omega) (by rw [tot_push]; omega) (by rw [len_push]; exact hL)
  rw [adr_lt (by omega)] at k
  exact k
theorem dflt {ci : Nat} (hci : ci < 6) {j : Nat} (hj : j < nFl ci) : defaultValue (cTy ci j) = (if fTy ci j = 3 then va_rf (drf n0 cad 0) else .int 0) := by
  have h := fty_all hci hj
  unfold fTyB at h
  split at h
  · rename_i h0; rw [of_decide_eq_true h, h0]; rfl
  · rename_i h0; rw [of_decide_eq_true h, h0]; rfl
  · rename_i h0; rw [of_decide_eq_true h, h0]; rfl
  · rename_i h0
    rw [h0]
    split at h
    · rename_i h1; rw [h1]; rfl
    · rename_i h1; rw [h1]; rfl
    · cases h
  · cases h
theorem w_new {ci : Nat} (X : CXx D dA n0 cad E p R s m args meth c mi) (hd : decode (mByt mi) pc = .ok (a, nx - pc)) (hk : k_new (mCls mi) ci nx pc a = true) (hci : ci < 6)
    (hB : n0 + (σ.1.length + 1) ≤ s.heap.size + R.cells) (hB2 : tot σ.1 + nFl ci ≤ z0 + R.slots) (hB3 : σ.1.length + 1 ≤ 1000)
    (K : WW D dA n0 cad p l e R s m args below meth c Q mi z0 nx ls (.ref σ.1.length :: st) (pushC σ ci (nFl ci) (fun _ => 0))) : WW D dA n0 cad p l e R s m args below meth c Q mi z0 pc ls st σ := by
  intro H locs cells slots la hP hS hl hc hz hL
  obtain ⟨hx, hb, hml, hown, hts, hnm, hKF, hHF, hn0, -⟩ := X
  unfold k_new at hk
  split at hk
  · simp only [Bool.and_eq_true] at hk
    obtain ⟨h1, h2⟩ := hk
    obtain rfl := ln_eq h2
    rw [Nat.add_sub_cancel_left] at hd
    obtain ⟨q, hq, hq2⟩ := any_of h1
    simp only [Bool.and_eq_true] at hq2
    obtain ⟨⟨g1, g2⟩, g3⟩ := hq2
    have g1 := Nat.eq_of_beq_eq_true g1
    have g2 := Nat.eq_of_beq_eq_true g2
    have g3 := Nat.eq_of_beq_eq_true g3
    have hw := List.all_eq_true.mp lkN_ok q hq
    simp only [Bool.and_eq_true, decide_eq_true_eq] at hw
    rw [g1, g2, g3] at hw
    obtain ⟨⟨w1, w2⟩, w3⟩ := hw
    have hA : ∀ q, s.heap.size ≤ q → AA n0 q := fun q h => Nat.le_trans hn0 h
    refine va_new hx hb hts (uw_all hci) (cTy ci) (ct_all hci) hown (hts _ (tb_of _ w1 rfl)) (hts _ (tb_of _ w2 rfl)) (hts _ (tb_of _ w3 rfl)) hKF.1 hP ws_D hS hA (cl_all hci) (fs := (List.range (nFl ci)).map fun j => if fTy ci j = 3 then va_rf (drf n0 cad 0) else .int 0) (fun j hj => ?_) (by omega) (by omega) hd (fun q H1 hP1 hD1 hS1 => ?_)
    · rw [dflt (n0 := n0) (cad := cad) hci hj]
      simp [vp_V, hj]
    · refine w_pushed K ?_ hP1 hD1 hS1 hl hc hz hB3
      rw [ent_obj (by show ci < 10; omega)]
      have e1 : (pushC σ ci (nFl ci) (fun _ => 0)).2.1 σ.1.length = (fun _ => 0) := if_pos rfl
      have e2 : (pushC σ ci (nFl ci) (fun _ => 0)).2.2 σ.1.length = (fun _ => 0) := if_pos rfl
      rw [e1, e2]
  · cases hk
theorem ra_eq {C1 C2 : ClassId} {ty : FieldType} (h1 : va_RA s C1 ty) (h2 : va_RA s C2 ty) : C1 = C2 := by
  cases ty with
  | object C =>
    obtain ⟨_, _, _, _, _, g1⟩ := h1
    obtain ⟨_, _, _, _, _, g2⟩ := h2
    exact Option.some.inj (g1.symm.trans g2)
  | _ => exact Option.some.inj (h1.symm.trans h2)
theorem w_newa {t : ArrayType} {n : Int32} {kd : Nat} (hop : (t = .int ∧ kd = 10) ∨ (t = .char ∧ kd = 11)) (X : CXx D dA n0 cad E p R s m args meth c mi) (hd : decode (mByt mi) pc = .ok (a, nx - pc)) (hk : k_na t nx pc a = true) (hn : ¬ n < 0) (hn2 : n.toNatClampNeg ≤ 100000)
    (hB : n0 + (σ.1.length + 1) ≤ s.heap.size + R.cells) (hB2 : tot σ.1 + n.toNatClampNeg ≤ z0 + R.slots) (hB3 : σ.1.length + 1 ≤ 1000)
    (K : WW D dA n0 cad p l e R s m args below meth c Q mi z0 nx ls (.ref σ.1.length :: st) (pushC σ kd n.toNatClampNeg (fun _ => 0))) : WW D dA n0 cad p l e R s m args below meth c Q mi z0 pc ls (.int n :: st) σ := by
  intro H locs cells slots la hP hS hl hc hz hL
  obtain ⟨hx, hb, hml, hown, hts, hnm, hKF, hHF, hn0, -⟩ := X
  have hA : ∀ q, s.heap.size ≤ q → AA n0 q := fun q h => Nat.le_trans hn0 h
  unfold k_na at hk
  split at hk
  · simp only [Bool.and_eq_true, Bool.or_eq_true, decide_eq_true_eq] at hk
    obtain ⟨⟨rfl, h2⟩, h3⟩ := hk
    obtain rfl := ln_eq h2
    rw [Nat.add_sub_cancel_left] at hd
    rcases hop with ⟨rfl, rfl⟩ | ⟨rfl, rfl⟩
    · refine va_newa (atype := .int) hx hb (hts _ tb_ac_int) (ty := .int) rfl hKF.1 hP ws_D hS hA (a0 := (n.toNatClampNeg, .inl (fun _ => 0))) (N' := n.toNatClampNeg) (fun cA => rfl) hn rfl (by show _ * 4 ≤ _; omega) (by omega) (by omega) hd (fun q cA H1 hK1 hP1 hD1 hS1 => ?_)
      have hcA : cA = dA 10 := ra_eq (hK1.2 6 (cA, .int) rfl).2 (hKF.1.2 0 _ rfl).2
      refine w_pushed K ?_ hP1 hD1 hS1 hl hc hz hB3
      rw [ent_int (by decide) (by decide), hcA]
      have e1 : (pushC σ 10 n.toNatClampNeg (fun _ => 0)).2.1 σ.1.length = (fun _ => 0) := if_pos rfl
      rw [e1]
    · refine va_newa (atype := .char) hx hb (hts _ tb_ac_char) (ty := .char) rfl hKF.1 hP ws_D hS hA (a0 := (n.toNatClampNeg, .inl (fun _ => 0))) (N' := n.toNatClampNeg) (fun cA => rfl) hn rfl (by show _ * 2 ≤ _; omega) (by omega) (by omega) hd (fun q cA H1 hK1 hP1 hD1 hS1 => ?_)
      have hcA : cA = dA 11 := ra_eq (hK1.2 6 (cA, .char) rfl).2 (hKF.1.2 1 _ rfl).2
      refine w_pushed K ?_ hP1 hD1 hS1 hl hc hz hB3
      rw [ent_int (by decide) (by decide), hcA]
      have e1 : (pushC σ 11 n.toNatClampNeg (fun _ => 0)).2.1 σ.1.length = (fun _ => 0) := if_pos rfl
      rw [e1]
  · cases hk
theorem w_anew {kd : Nat} {n : Int32} (X : CXx D dA n0 cad E p R s m args meth c mi) (hd : decode (mByt mi) pc = .ok (a, nx - pc)) (hk : k_ana (mCls mi) kd nx pc a = true) (hn : ¬ n < 0) (hn2 : n.toNatClampNeg ≤ 100000)
    (hB : n0 + (σ.1.length + 1) ≤ s.heap.size + R.cells) (hB2 : tot σ.1 + n.toNatClampNeg ≤ z0 + R.slots) (hB3 : σ.1.length + 1 ≤ 1000)
    (K : WW D dA n0 cad p l e R s m args below meth c Q mi z0 nx ls (.ref σ.1.length :: st) (pushC σ kd n.toNatClampNeg (fun _ => 0))) : WW D dA n0 cad p l e R s m args below meth c Q mi z0 pc ls (.int n :: st) σ := by
  intro H locs cells slots la hP hS hl hc hz hL
  obtain ⟨hx, hb, hml, hown, hts, hnm, hKF, hHF, hn0, -⟩ := X
  have hA : ∀ q, s.heap.size ≤ q → AA n0 q := fun q h => Nat.le_trans hn0 h
  unfold k_ana at hk
  split at hk
  · simp only [Bool.and_eq_true] at hk
    obtain ⟨h1, h2⟩ := hk
    obtain rfl := ln_eq h2
    rw [Nat.add_sub_cancel_left] at hd
    obtain ⟨q, hq, hq2⟩ := any_of h1
    simp only [Bool.and_eq_true] at hq2
    obtain ⟨⟨g1, g2⟩, g3⟩ := hq2
    have g1 := Nat.eq_of_beq_eq_true g1
    have g2 := Nat.eq_of_beq_eq_true g2
    have g3 := Nat.eq_of_beq_eq_true g3
    have hw := List.all_eq_true.mp lkA_ok q hq
    simp only [Bool.and_eq_true, decide_eq_true_eq, Nat.ble_eq, Nat.blt_eq] at hw
    rw [g1, g2, g3] at hw
    obtain ⟨⟨w1, w2⟩, w3⟩ := hw
    refine va_newq hx hb hown (hts _ (tb_of _ w1 rfl)) (hKF.2.2.1 kd w2 w3) hKF.1 hP ws_D hS hA hn rfl (by omega) (by omega) (by omega) hd (fun q cA H1 hK1 hP1 hD1 hS1 => ?_)
    have hcA : cA = dA kd := ra_eq (hK1.2 6 (cA, .object (rN (aCl kd))) rfl).2 (hKF.1.2 (kd - 10) _ (ty_ref dA w2 w3)).2
    refine w_pushed K ?_ hP1 hD1 hS1 hl hc hz hB3
    rw [ent_ref w2, hcA]
    have e2 : (pushC σ kd n.toNatClampNeg (fun _ => 0)).2.2 σ.1.length = (fun _ => 0) := if_pos rfl
    rw [e2]
    rfl
  · cases hk
theorem w_clone (X : CXx D dA n0 cad E p R s m args meth c mi) (hd : decode (mByt mi) pc = .ok (a, nx - pc)) (hk : k_cl (mCls mi) (mDep mi) nx pc a = true) (h8 : Nat.ble ((st.map fun v => v.category).sum) 8 = true)
    (hB : n0 + (σ.1.length + 1) ≤ s.heap.size + R.cells) (hB2 : tot σ.1 + 8 ≤ z0 + R.slots) (hB3 : σ.1.length + 1 ≤ 1000)
    (K : WW D dA n0 cad p l e R s m args below meth c Q mi z0 nx ls (.ref σ.1.length :: st) (pushC σ 10 8 (E 0).2)) : WW D dA n0 cad p l e R s m args below meth c Q mi z0 pc ls (.ref 1000 :: st) σ := by
  intro H locs cells slots la hP hS hl hc hz hL
  obtain ⟨hx, hb, hml, hown, hts, hnm, hKF, hHF, hn0, hfr, hlo, hE⟩ := X
  have hA : ∀ q, s.heap.size ≤ q → AA n0 q := fun q h => Nat.le_trans hn0 h
  have hcat := cat_sum (n0 := n0) (cad := cad) st h8
  unfold k_cl at hk
  split at hk
  · simp only [Bool.and_eq_true, Nat.ble_eq] at hk
    obtain ⟨⟨h1, h2⟩, h3⟩ := hk
    obtain rfl := ln_eq h2
    rw [Nat.add_sub_cancel_left] at hd
    obtain ⟨q, hq, hq2⟩ := any_of h1
    simp only [Bool.and_eq_true] at hq2
    have g1 := Nat.eq_of_beq_eq_true hq2.1
    have g2 := Nat.eq_of_beq_eq_true hq2.2
    have hw := of_decide_eq_true (List.all_eq_true.mp lkC_ok q hq)
    rw [g1, g2] at hw
    obtain ⟨cell, c1, c2, c3, c4, c5, c6, c7⟩ := hHF.2 0 (by decide)
    have c7 := c7 rfl
    rw [hE] at c4 c5
    have hfc : s.vm.findClass "[I" = some (dA 10) := (hKF.1.2 0 _ rfl).2
    obtain ⟨cc0, tt0, f1, f2, f3⟩ := Cond.castable_spec (va_Nw.use (A := args) rfl hKF.2.2.2)
    cases hfc.symm.trans f1
    obtain ⟨-, kS, hkS, compS, hkindS⟩ := (hKF.1.2 0 _ rfl).1 0 (fun _ => .null)
    have hcell : cell.cls = dA 10 ∧ ({ cls := cell.cls, slots := cell.slots } : Cell) = vp_cell (dA 10) (8, .inl (E 0).2) := by
      refine ⟨c7, ?_⟩
      rw [vp_cell_i, c7]
      have hsl : cell.slots = (arrV (dA 10) 8 (fun j => .int ((E 0).2 j))).slots := by
        apply Array.ext (by rw [c4, arrV_size])
        intro i h1 h2
        have e1 := c5 i (by omega)
        have e2 := arrV_read (dA 10) (fun j => Value.int ((E 0).2 j)) (N := 8) (j := i) (by omega)
        rw [Array.getElem?_eq_getElem h1] at e1
        rw [Array.getElem?_eq_getElem h2] at e2
        exact Option.some.inj (e1.trans e2.symm)
      rw [hsl]
      rfl
    have hdr : adr n0 cad 1000 = cad 0 := adr_k (by decide)
    show W p l e R s m args below meth c H locs cells slots Q (F0 m pc la (.ref (adr n0 cad 1000) :: st.map (en n0 cad)))
    rw [hdr]
    intro T hT Y
    have hcT : T.heap[cad 0]? = some cell := by rw [hT, hS.2.1 _ (Array.getElem?_eq_some_iff.mp c1).1 c6]; exact c1
    obtain ⟨-, kA, hkA, comp, hkind⟩ := State.isArrayOf_alike Y.warmed.alike ((hKF.1.2 0 _ rfl).1 0 (fun _ => .null))
    obtain ⟨vm', Y', stp⟩ := Y.cloneArray hx hown (hts _ (tb_of _ hw rfl)) (hts _ tb_same) (hts _ tb_cnat) (hts _ tb_cins) (hts _ tb_csel) (a := cad 0) (cell := cell) hcT c2.1 c3 (by rw [c7]; exact hfc) f2 (by rw [c7]; exact f3)
      (fun i v hv => by
        rw [c7]
        have hk' : T.vm.classes[dA 10]? = some kA := hkA
        have hi : i < 8 := by rw [← c4]; exact (Array.getElem?_eq_some_iff.mp hv).1
        rw [c5 i hi] at hv
        cases hv
        simp [State.fitsSlot, State.slotType?, hk', hkind, fits])
      (g := F0 m pc la (.ref (cad 0) :: st.map (en n0 cad))) rfl (by show la.size = _; rw [hl.1, hml]) rfl (by rw [hb]; exact hd) (by omega) (by show 2 * 0 + _ + 14 ≤ _; omega) (by omega) (by rw [c4]; omega) (hloader := by rw [c7]; exact Vm.clonesLoader_of_array hkS hkindS)
    rw [hcell.2, c4] at Y'
    generalize hH1 : H.push (vp_cell (dA 10) (8, .inl (E 0).2)) = H1
    have z1 : H1.size = H.size + 1 := by rw [← hH1, Array.size_push]
    have e1 : H1[H.size]? = some (vp_cell (dA 10) (8, .inl (E 0).2)) := by rw [← hH1, Array.getElem?_push_size]
    have o1 : ∀ q : Nat, q < H.size → H1[q]? = H[q]? := fun q hq => by rw [← hH1, Array.getElem?_push, if_neg (Nat.ne_of_lt hq)]
    have hk : ∀ (k : Nat) (y : Nat × va_E), (wsA dA n0 cad σ)[k]? = some y → H1[y.1]? = H[y.1]? := fun k y hy => o1 y.1 ((hP k y hy).lt)
    have hPn : va_P D clz (wsA dA n0 cad σ ++ [(H.size, .inl (dA 10, 8, .inl (E 0).2))]) H1 := (hP.kept hk).app (fun k y hy => by
      have hz : k < 1 := (List.getElem?_eq_some_iff.mp hy).1
      rw [show k = 0 by omega] at hy
      cases hy
      exact e1)
    have hDn : va_D (AA n0) (wsA dA n0 cad σ ++ [(H.size, .inl (dA 10, 8, .inl (E 0).2))]) := ws_D.push hP rfl (hA _ hS.1)
    have hSn : va_S (AA n0) s.heap H1 locs := ⟨Nat.le_trans hS.1 (by omega), fun y h1 h2 => (o1 y (Nat.lt_of_lt_of_le h1 hS.1)).trans (hS.2.1 y h1 h2), hS.2.2⟩
    have k := w_pushed (f := (E 0).2) K (by
      rw [ent_int (by decide) (by decide)]
      have e1 : (pushC σ 10 8 (E 0).2).2.1 σ.1.length = (E 0).2 := if_pos rfl
      rw [e1]) hPn hDn hSn hl hc hz hB3
    obtain ⟨t, b1, b2⟩ := k ((T.setVm vm').pushCell (vp_cell (dA 10) (8, .inl (E 0).2))) (by rw [← hH1, ← hT]; rfl) Y'
    refine ⟨t, stp t ?_, b2⟩
    rw [hcell.2, hT]
    exact b1
  · cases hk
end MKS
