-- ===== end of PART A; then your names; then what follows =====
/-! THE CLAIM OUT OF ONE WALK OF THE LAW'S BODY. Your part is whole_start (and what it stands on); all else here is the same for every law, but numbers. -/
def R_law : String := "CoatedBridgesLaw"
def lw_P (b : Addr) (xs : List Int32) (args : Array Value) (s : State) : Prop := args = #[.ref b] ∧ s.IntsAt b xs ∧ xs.length ≤ 260 ∧ (Jvm.Cond.and given_1 narrow_1).before args s = true
/-- what a walk over the start with the record d0 says of its end, said of the start itself -/
theorem lw_closed {s t : State} {o : Outcome} {d0 : Drawn} {L : List Loc} {k n : Nat} (hd0 : s.drawn.sameBut d0 lw_cs) (hv : ∃ v, o = .returned v) (hW : (s.setDrawn d0).WarmedH t.vm) (hs : (s.setDrawn d0).sameButNew ({ t with vm := s.vm } : State) L k n) : State.butDraws s t lw_cs (fun t1 => Framed s o t1 L k n) := by
  have h2 : t.drawn = d0 := congrArg State.drawn hs.1
  refine ⟨⟨hv, hW, State.sameButNew.setDrawn hs s.drawn⟩, ?_, by decide⟩
  rw [h2]
  exact hd0
def lw_Q (_ : Array Value) (s : State) (o : Outcome) (t : State) : Prop := o = .returned (some (.int 1)) ∧ State.butDraws s t lw_cs (fun t1 => Framed s o t1 [] 623537 7231638)
def lw_Z (below : List Frame) (a : Array Value) (s : State) : State → Prop := fun t => ∃ o, t.status = .running ∧ Ended t below o ∧ lw_Q a s o t
/-- the law's own end, with 1 on the stack, nothing written that was there before, its room as the claim has it; d0: the record of draws at this point (at the entry s.drawn: begin with 'refine W.base ?_' and 'have hd0 := Drawn.sameBut.refl s.drawn lw_cs') -/
theorem lw_ret {p : Program} {l : Launch} {e : Env} {s : State} {m : MethodId} {below : List Frame} {meth : Method} {c : Code} {b : Nat} {d0 : Drawn} (hd0 : s.drawn.sameBut d0 lw_cs) (hx : p.tables.exec = Jvm.exec) (hb : c.code = code) (hr : meth.sig.returnType = ret) (hlocks : meth.locks = false) {pc : Nat} {H : Heap} {ls : Array Slot} (hdg : decode code pc = .ok (.ireturn, 1)) : W p l e room_1 (s.setDrawn d0) m #[Value.ref b] below meth c H [] 623537 7231638 (lw_Z below #[Value.ref b] s) (F0 m pc ls [.int 1]) := by
  intro T hT X
  obtain ⟨fs, hret, hrun, hended, hW, hframe⟩ := X.leave (v := some (.int 1)) (hlocks := hlocks) (fun h => by rw [hr] at h; cases h)
  have hmeth' : T.vm.method? m = some meth := X.method'
  refine ⟨T.setFrames fs, ?_, .returned (some (.int 1)), hrun, hended, rfl, lw_closed hd0 ⟨_, rfl⟩ hW hframe⟩
  jvm_step X.here [X.here.top, hx, hb, hdg, hmeth', hr, ret, narrow_b1]
  (try refine ⟨rfl, ?_⟩); (try refine ⟨rfl, ?_⟩)
  first | (intro acts; rw [hret _ acts rfl rfl rfl]) | rw [hret _ _ rfl rfl rfl]
  exact Steps.refl _
/-- what holds at the law's entry: the machine, the code, the tables' words (any of lw_tbl by 'hts w (by decide +kernel)'), the script of L ints xs at the cell b, what the Statement gives of the start (any of its parts by flat_of_before) -/
def lw_At (p : Program) (s : State) (m : MethodId) (meth : Method) (c : Code) (b L : Nat) (xs : Nat → Int32) : Prop :=
  p.tables.exec = Jvm.exec ∧ c.code = code ∧ meth.sig.returnType = ret ∧ c.maxLocals = 11 ∧ s.vm.findClass R_law = some m.cls ∧ (∀ w ∈ lw_tbl, w.before #[Value.ref b] s = true) ∧ va_X b L xs s s.heap ∧ b < s.heap.size ∧ meth.locks = false ∧ (Jvm.Cond.and given_1 narrow_1).before #[Value.ref b] s = true
/-! MY PART: whole_start out of a run of the small machine -/
theorem len_lt {args : Array Value} {first s : State} {o : Option Outcome} {idx : List Nat} {t : Term} {v : Value} (h : (Term.length t).eval args first o idx s = some v) : ∃ a cell, t.eval args first o idx s = some (.ref a) ∧ s.arrayAt? a = some cell ∧ cell.slots.size < 2147483648 ∧ v = .int cell.slots.size.toInt32 := by
  simp only [Term.eval, Option.bind_eq_bind] at h
  cases ht : t.eval args first o idx s with
  | none => simp [ht] at h
  | some x =>
    cases x <;> simp [ht] at h
    case ref a =>
      obtain ⟨cell, hcell, h⟩ := Option.bind_eq_some_iff.mp h
      by_cases hn : cell.slots.size < 2147483648
      · rw [if_pos hn] at h; cases h; exact ⟨a, cell, rfl, hcell, hn, rfl⟩
      · rw [if_neg hn] at h; cases h
theorem tab_of {args : Array Value} {s : State} {nm : String} {tb : List Int32} (h : (Jvm.Cond.and given_1 narrow_1).before args s = true)
    (m1 : Cond.arrayOf (.static sCl nm "[I") .int ∈ flatC (Jvm.Cond.and given_1 narrow_1)) (m2 : Cond.eq (.length (.static sCl nm "[I")) (.int 8) ∈ flatC (Jvm.Cond.and given_1 narrow_1))
    (m3 : (List.range 8).all (fun j => decide (Cond.eq (.elem (.static sCl nm "[I") (.int (Int32.ofNat j))) (.int (tb.getD j 0)) ∈ flatC (Jvm.Cond.and given_1 narrow_1))) = true) (m4 : Cond.exactly (.static sCl nm "[I") "[I" ∈ flatC (Jvm.Cond.and given_1 narrow_1)) :
    ∃ (t : Nat) (cell : Cell), (Term.static sCl nm "[I").eval args s none [] s = some (.ref t) ∧ s.heap[t]? = some cell ∧ s.isArrayOf cell .int ∧ cell.vm ≠ .unknown ∧ cell.slots.size = 8 ∧ (∀ j, j < 8 → cell.slots[j]? = some (.int (tb.getD j 0))) ∧ s.vm.findClass "[I" = some cell.cls := by
  have hf := flat_of_before _ h
  obtain ⟨t, cell, e1, e2, e3, e4⟩ := len_lt (va_eqt (hf _ m2))
  obtain ⟨g1, g2, g3, -⟩ := State.arrayAt?_spec e2
  obtain ⟨g4, -⟩ := Cond.arrayOf_spec (hf _ m1) e1 g1
  obtain ⟨a', c', cell', k', x1, x2, x3, x4, x5, x6, -⟩ := Cond.exactly_spec (hf _ m4)
  cases e1.symm.trans x1
  cases g1.symm.trans x3
  have hsz : cell.slots.size = 8 := by
    have h8 : cell.slots.size.toInt32 = 8 := (Value.int.inj e4).symm
    have h9 : (nI cell.slots.size) = nI 8 := h8
    exact (nI_eq e3 (by decide)).mp h9
  refine ⟨t, cell, e1, g1, g4, g2, hsz, fun j hj => ?_, by rw [x6]; exact x2⟩
  have hm := of_decide_eq_true (List.all_eq_true.mp m3 j (List.mem_range.mpr hj))
  obtain ⟨a2, j2, cell2, y1, y2, y3, y4, y5⟩ := Term.elem_spec (va_eqt (hf _ hm))
  cases e1.symm.trans y1
  cases e2.symm.trans y3
  have hj2 : j2 = Int32.ofNat j := by
    have e : (Term.int (Int32.ofNat j)).eval args s none [] s = some (.int (Int32.ofNat j)) := rfl
    cases y2.symm.trans e
    rfl
  rw [hj2, Int32.toNatClampNeg_ofNat_of_lt (by omega)] at y5
  exact y5
theorem ret_key {E : AEnv} {o : Instr} {nx : Nat} {ls st : List Value} {σ : ASt} {v : Int32} (hs : step E o nx ls st σ = some (.inr (.inr (some (.int v))))) : (o = .ireturn ∨ o = .freturn) ∧ st = [.int v] := by
  unfold step at hs
  split at hs
  all_goals (try simp only [s_alu, s_falu, s_store, s_aload, s_astore, s_call, go] at hs)
  all_goals (repeat' split at hs)
  all_goals first
    | (cases hs; done)
    | (cases hs; exact ⟨Or.inl rfl, rfl⟩)
    | (cases hs; exact ⟨Or.inr rfl, rfl⟩)
set_option maxHeartbeats 4000000 in
theorem law_start {p : Program} {e : Env} {s : State} {m : MethodId} {below : List Frame} {meth : Method} {c : Code} (l : Launch) {b L : Nat} {xs : Nat → Int32} (C0 : lw_At p s m meth c b L xs)
    (hrun : wp (lawE L xs) lawI 0 [.ref 1003] [] sig0 (fun r σ => r = some (.int 1) ∧ σ.1.length ≤ 1000 ∧ tot σ.1 ≤ 7231638)) : W p l e room_1 s m #[Value.ref b] below meth c s.heap [] 0 0 (lw_Z below #[Value.ref b] s) (entryFrame m ([Value.ref b] : List Value).toArray 11) := by
  obtain ⟨hx, hb, hr, hml, hown, hts0, hX, hbl, hlocks, hgv⟩ := id C0
  have hts : ∀ w ∈ TB, w.before #[Value.ref b] s = true := fun w h => hts0 w (tb_lw h)
  -- classes
  have hcl : ∀ ci : Nat, ∃ q : ClassId × (Nat → Nat), ci < 6 → u_Kn s (rN ci) (cTT ci) (nFl ci) q.1 q.2 := fun ci => by
    by_cases h : ci < 6
    · obtain ⟨cC, iS, hk⟩ := u_known hts (uw_all h) (hts _ (tb_inst h))
      exact ⟨(cC, iS), fun _ => hk⟩
    · exact ⟨(0, fun _ => 0), fun z => absurd z h⟩
  have har : ∀ k : Nat, ∃ cA : ClassId, ∀ ty : FieldType, ((k = 10 ∧ ty = .int) ∨ (k = 11 ∧ ty = .char)) → ArrOfT s cA ty ∧ va_RA s cA ty := fun k => by
    by_cases h10 : k = 10
    · obtain ⟨cA, kA, comp, g1, g2, g3⟩ := Cond.arrayClass_spec (hts _ tb_ac_int)
      refine ⟨cA, fun ty h => ?_⟩
      obtain rfl : ty = .int := by rcases h with h | h <;> first | exact h.2 | omega
      exact ⟨fun n z => ⟨fun k h => (by cases h), kA, g2, comp, g3⟩, g1⟩
    · by_cases h11 : k = 11
      · obtain ⟨cA, kA, comp, g1, g2, g3⟩ := Cond.arrayClass_spec (hts _ tb_ac_char)
        refine ⟨cA, fun ty h => ?_⟩
        obtain rfl : ty = .char := by rcases h with h | h <;> first | exact h.2 | omega
        exact ⟨fun n z => ⟨fun k h => (by cases h), kA, g2, comp, g3⟩, g1⟩
      · exact ⟨0, fun ty h => by rcases h with h | h <;> omega⟩
  have hov : ∀ k, 13 ≤ k → k < 16 → (Cond.arrayOver (.object (rN (aCl k)))).before #[Value.ref b] s = true := fun k h1 h2 => by
    rcases (by omega : k = 13 ∨ k = 14 ∨ k = 15) with rfl | rfl | rfl
    · exact hts0 _ ov_13
    · exact hts0 _ ov_14
    · exact hts0 _ ov_15
  have hob : ∀ k : Nat, ∃ cA : ClassId, 13 ≤ k → k < 16 → ArrOfT s cA (.object (rN (aCl k))) ∧ va_RA s cA (.object (rN (aCl k))) := fun k => by
    by_cases h : 13 ≤ k ∧ k < 16
    · obtain ⟨comp, cA, kA, g1, g2, g3, g4, g5⟩ := Cond.arrayOver_spec (hov k h.1 h.2)
      exact ⟨cA, fun _ _ => ⟨fun n z => ⟨fun k h => (by cases h), kA, g3, comp, g4⟩, kA, comp, g3, g4, g1, g5⟩⟩
    · exact ⟨0, fun z1 z2 => absurd ⟨z1, z2⟩ h⟩
  obtain ⟨D, hD⟩ : ∃ D : va_G, ∀ ci, ci < 6 → u_Kn s (rN ci) (cTT ci) (nFl ci) (D.1 ci) (D.2 ci) := ⟨(fun ci => (Classical.choose (hcl ci)).1, fun ci => (Classical.choose (hcl ci)).2), fun ci h => Classical.choose_spec (hcl ci) h⟩
  obtain ⟨dA, hdA, hdO⟩ : ∃ dA : Nat → ClassId, (∀ k ty, ((k = 10 ∧ ty = FieldType.int) ∨ (k = 11 ∧ ty = FieldType.char)) → ArrOfT s (dA k) ty ∧ va_RA s (dA k) ty) ∧ (∀ k, 13 ≤ k → k < 16 → ArrOfT s (dA k) (.object (rN (aCl k))) ∧ va_RA s (dA k) (.object (rN (aCl k)))) := by
    refine ⟨fun k => if k < 13 then Classical.choose (har k) else Classical.choose (hob k), fun k ty h => ?_, fun k h1 h2 => ?_⟩
    · have hk : k < 13 := by rcases h with h | h <;> omega
      dsimp only
      rw [if_pos hk]
      exact Classical.choose_spec (har k) ty h
    · dsimp only
      rw [if_neg (by omega)]
      exact Classical.choose_spec (hob k) h1 h2
  have hK : va_K D clz (tyL dA) s := by
    refine ⟨fun ci q hq => ?_, fun k q hq => ?_⟩
    · have hci : ci < 6 := (List.getElem?_eq_some_iff.mp hq).1
      rw [cl_all hci] at hq
      cases hq
      exact hD ci hci
    · have hk6 : k < 6 := (List.getElem?_eq_some_iff.mp hq).1
      rcases (by omega : k = 0 ∨ k = 1 ∨ k = 2 ∨ k = 3 ∨ k = 4 ∨ k = 5) with rfl | rfl | rfl | rfl | rfl | rfl
      · cases hq; exact hdA 10 _ (Or.inl ⟨rfl, rfl⟩)
      · cases hq; exact hdA 11 _ (Or.inr ⟨rfl, rfl⟩)
      · cases hq; exact hdA 10 _ (Or.inl ⟨rfl, rfl⟩)
      · cases hq; exact hdO 13 (by decide) (by decide)
      · cases hq; exact hdO 14 (by decide) (by decide)
      · cases hq; exact hdO 15 (by decide) (by decide)
  have hKF : KF D dA s := by
    refine ⟨hK, fun w hw => ?_, fun k h1 h2 => va_AO.of (hov k h1 h2), va_Nw.of rfl (hts0 _ cst_in)⟩
    have h1 := hts0 w (nst_in w hw)
    rcases nst_kind w hw with ⟨_, _, _, _, _, _, rfl⟩ | ⟨_, _, _, _, rfl⟩
    · exact va_Nw.of rfl h1
    · exact va_Nw.of rfl h1
  -- the written tables
  obtain ⟨t0, c0, a1, a2, a3, a4, a5, a6, a7⟩ := tab_of (nm := sNm 0) (tb := tbK 0) hgv (by decide +kernel) (by decide +kernel) (by decide +kernel) (by decide +kernel)
  obtain ⟨t1, c1, b1, b2, b3, b4, b5, b6, b7⟩ := tab_of (nm := sNm 1) (tb := tbK 1) hgv (by decide +kernel) (by decide +kernel) (by decide +kernel) (by decide +kernel)
  obtain ⟨t2, c2, d1, d2, d3, d4, d5, d6, d7⟩ := tab_of (nm := sNm 2) (tb := tbK 2) hgv (by decide +kernel) (by decide +kernel) (by decide +kernel) (by decide +kernel)
  obtain ⟨cad, k0, k1, k2, k3⟩ : ∃ cad : Nat → Nat, cad 0 = t0 ∧ cad 1 = t1 ∧ cad 2 = t2 ∧ cad 3 = b := ⟨fun k => if k = 0 then t0 else if k = 1 then t1 else if k = 2 then t2 else b, rfl, rfl, rfl, rfl⟩
  have hA : ∀ a : Nat, a < s.heap.size → ¬ AA s.heap.size a := fun a h => Nat.not_le.mpr h
  have hIc : s.vm.findClass "[I" = some (dA 10) := (hdA 10 .int (Or.inl ⟨rfl, rfl⟩)).2
  have hHF : HF dA s.heap.size cad (lawE L xs) s s.heap := by
    refine ⟨fun j hj => ?_, fun j hj => ?_⟩
    · rcases (by omega : j = 0 ∨ j = 1 ∨ j = 2) with rfl | rfl | rfl
      · rw [k0]; exact va_Zof (hts0 _ lst_0) (hts0 _ ini_in) a1 hA
      · rw [k1]; exact va_Zof (hts0 _ lst_1) (hts0 _ ini_in) b1 hA
      · rw [k2]; exact va_Zof (hts0 _ lst_2) (hts0 _ ini_in) d1 hA
    · rcases (by omega : j = 0 ∨ j = 1 ∨ j = 2 ∨ j = 3) with rfl | rfl | rfl | rfl
      · exact ⟨c0, by rw [k0]; exact a2, a3, a4, a5, a6, hA _ (by rw [k0]; exact (Array.getElem?_eq_some_iff.mp a2).1), fun _ => Option.some.inj (a7.symm.trans hIc)⟩
      · exact ⟨c1, by rw [k1]; exact b2, b3, b4, b5, b6, hA _ (by rw [k1]; exact (Array.getElem?_eq_some_iff.mp b2).1), fun z => by cases z⟩
      · exact ⟨c2, by rw [k2]; exact d2, d3, d4, d5, d6, hA _ (by rw [k2]; exact (Array.getElem?_eq_some_iff.mp d2).1), fun z => by cases z⟩
      · obtain ⟨scr, y1, y2, y3, y4, y5⟩ := hX
        exact ⟨scr, by rw [k3]; exact y1, y2, y3, y4, y5, hA _ (by rw [k3]; exact hbl), fun z => by cases z⟩
  have X : CXx D dA s.heap.size cad (lawE L xs) p room_1 s m #[Value.ref b] meth c lawI :=
    ⟨hx, hb, hml, hown, hts, fun z => absurd z (by decide +kernel), hKF, hHF, Nat.le_refl _, by decide +kernel, by decide +kernel, rfl⟩
  obtain ⟨n, r, σ', hex, rfl, hl, ht⟩ := hrun
  have hend : ∀ (pc' : Nat) (o : Instr) (nx ct : Nat) (ls1 st1 : List Value), fnd (mCode lawI) pc' = some (o, nx, ct) → step (lawE L xs) o nx ls1 st1 σ' = some (.inr (.inr (some (.int 1)))) → WW D dA s.heap.size cad p l e room_1 s m #[Value.ref b] below meth c (lw_Z below #[Value.ref b] s) lawI 0 pc' ls1 st1 σ' := by
    intro pc' o nx ct ls1 st1 hf hs H locs cells slots la hP hS hl2 hc hz hL
    obtain ⟨a, hd, hk⟩ := ck_at hf
    obtain ⟨ho, rfl⟩ := ret_key hs
    have hd2 : decode code pc' = .ok (.ireturn, 1) := by
      rcases ho with rfl | rfl
      · have hk : (k_same .ireturn nx pc' a && decide (mRet lawI = some .int)) = true := hk
        simp only [Bool.and_eq_true] at hk
        exact (sm_eq hd hk.1).2
      · have hk : (k_same .ireturn nx pc' a && decide (mRet lawI = some .boolean)) = true := hk
        simp only [Bool.and_eq_true] at hk
        exact (sm_eq hd hk.1).2
    refine va_forget (fun q hq => hS.2.2 q hq) ?_
    refine W.widen (k := 623537) (n := 7231638) (by omega) (by omega) ?_
    exact lw_ret (d0 := s.drawn) (s := s) (Drawn.sameBut.refl s.drawn lw_cs) hx hb hr hlocks hd2
  have hW := snd_main (D := D) (dA := dA) (n0 := s.heap.size) (cad := cad) (l := l) (E := lawE L xs) rfl n lawI 0 [.ref 1003] [] sig0 _ σ' hex (e := e) (below := below) (Q := lw_Z below #[Value.ref b] s) (z0 := 0) X (by show _ ≤ s.heap.size + 623537; omega) (by show _ ≤ 0 + 7231638; omega) hl hend
  rw [lg_entry_eq]
  have hen : ([.ref 1003] : List Value).map (en s.heap.size cad) = [.ref b] := by
    show [Value.ref (adr s.heap.size cad 1003)] = _
    rw [adr_k (by decide), k3]
  have hLH := entry_LH (n0 := s.heap.size) (cad := cad) (as := [.ref 1003]) (nL := 11) rfl (by decide)
  rw [hen] at hLH
  exact hW s.heap [] 0 0 _ (fun k q h => by simp [wsA, sig0] at h) va_S.rf hLH rfl rfl (by show 0 ≤ 1000; omega)
