/-! THE TIE, 5: calls, and the whole -/
theorem go_len {a b : ASt} (h : ∃ x, b.1 = a.1 ++ x) : a.1.length ≤ b.1.length ∧ tot a.1 ≤ tot b.1 := by
  obtain ⟨x, hx⟩ := h
  rw [hx, List.length_append, tot_app]
  omega
def Grows (σ : ASt) (r : Option ARes) : Prop := match r with
  | some (.inl q) => ∃ x, q.2.2.2.1 = σ.1 ++ x
  | _ => True
theorem gr_go {pc : Nat} {ls st : List Value} {σ : ASt} : Grows σ (go pc ls st σ) := ⟨[], (List.append_nil _).symm⟩
theorem gr_I {pc c k : Nat} {x : Int32} {ls st : List Value} {σ : ASt} : Grows σ (go pc ls st (wrI σ c k x)) := ⟨[], (List.append_nil _).symm⟩
theorem gr_R {pc c k r : Nat} {ls st : List Value} {σ : ASt} : Grows σ (go pc ls st (wrR σ c k r)) := ⟨[], (List.append_nil _).symm⟩
theorem gr_P {pc k n : Nat} {f : Nat → Int32} {ls st : List Value} {σ : ASt} : Grows σ (go pc ls st (pushC σ k n f)) := ⟨[(k, n)], rfl⟩
theorem gr_N {σ : ASt} : Grows σ none := trivial
theorem gr_rr {σ : ASt} {x : (Nat × List Value × List Value) ⊕ (Option Value)} : Grows σ (some (.inr x)) := trivial
set_option maxHeartbeats 4000000 in
theorem step_grow (E : AEnv) (o : Instr) (pc : Nat) (ls st : List Value) (σ : ASt) : Grows σ (step E o pc ls st σ) := by
  unfold step
  split
  all_goals (try simp only [s_alu, s_falu, s_store, s_aload, s_astore, s_call])
  all_goals (repeat' split)
  all_goals first | exact gr_go | exact gr_N | exact gr_I | exact gr_R | exact gr_P | exact gr_rr
theorem ex_grow (E : AEnv) : ∀ (n mi pc : Nat) (ls st : List Value) (σ : ASt) (r : Option Value) (σ' : ASt), ex E n mi pc ls st σ = some (r, σ') → ∃ x, σ'.1 = σ.1 ++ x := by
  intro n
  induction n with
  | zero => intro mi pc ls st σ r σ' h; simp [ex] at h
  | succ n ih =>
    intro mi pc ls st σ r σ' h
    rw [ex] at h
    cases hf : fnd (mCode mi) pc with
    | none => rw [hf] at h; cases h
    | some q =>
      obtain ⟨o, nx, ct⟩ := q
      rw [hf] at h
      dsimp only at h
      have hg := step_grow E o nx (ls.take ct) st σ
      cases hs : step E o nx (ls.take ct) st σ with
      | none => rw [hs] at h; cases h
      | some y =>
        rw [hs] at h hg
        rcases y with ⟨pc', ls', st', σ1⟩ | ⟨c, as, st'⟩ | r'
        · obtain ⟨x, hx⟩ := hg
          obtain ⟨z, hz⟩ := ih _ _ _ _ _ _ _ h
          exact ⟨x ++ z, by rw [hz, show σ1.1 = σ.1 ++ x from hx, List.append_assoc]⟩
        · dsimp only at h
          cases hc : ex E n c 0 as [] σ with
          | none => rw [hc] at h; cases h
          | some y =>
            obtain ⟨r1, σ1⟩ := y
            rw [hc] at h
            obtain ⟨x, hx⟩ := ih _ _ _ _ _ _ _ hc
            obtain ⟨z, hz⟩ := ih _ _ _ _ _ _ _ h
            exact ⟨x ++ z, by rw [hz, hx, List.append_assoc]⟩
        · cases h
          exact ⟨[], (List.append_nil _).symm⟩
section MAIN
variable {D : va_G} {dA : Nat → ClassId} {n0 : Nat} {cad : Nat → Nat} {E : AEnv}
/-- a method's start and end -/
def PcM (D : va_G) (dA : Nat → ClassId) (n0 : Nat) (cad : Nat → Nat) (E : AEnv) (as : List Value) (σ : ASt) : Array Value → State → Prop := va_Pc (as.map (en n0 cad)) (fun U => U.heap.size = n0 + σ.1.length ∧ va_P D clz (wsA dA n0 cad σ) U.heap ∧ KF D dA U ∧ HF dA n0 cad E U U.heap)
def QcM (D : va_G) (dA : Nat → ClassId) (n0 : Nat) (cad : Nat → Nat) (r : Option Value) (σ : ASt) : Array Value → State → Outcome → State → Prop := fun _ st oc t => oc = .returned (r.map (en n0 cad)) ∧ va_P D clz (wsA dA n0 cad σ) t.heap ∧ va_F (AA n0) st t
theorem pcm_blind {as : List Value} {σ : ASt} : FrameBlind (PcM D dA n0 cad E as σ) := by
  intro a U g mk h
  obtain ⟨h1, h2, h3, h4, h5⟩ := h
  exact ⟨h1, h2, h3, KF.same (u := U) (U := U.calling g mk a) rfl h4, HF.moved (u := U) (U := U.calling g mk a) (Vm.Alike.refl U.vm) h5⟩
def mWs (t : Nat) : List Cond := Cond.code (mNam t) (mByt t) (mMax t) (mRet t) :: TB
def rmM (t mc ms : Nat) : Room := { frames := mDep t, cells := mc, slots := ms, locals := 40 * mDep t }
def MetA (D : va_G) (dA : Nat → ClassId) (n0 : Nat) (cad : Nat → Nat) (E : AEnv) (l : Launch) (t : Nat) (as : List Value) (σ : ASt) (r : Option Value) (σ1 : ASt) : Prop :=
  Met l (mNam t) (mWs t) (rmM t (σ1.1.length - σ.1.length) (tot σ1.1 - tot σ.1)) (PcM D dA n0 cad E as σ) (QcM D dA n0 cad r σ1) (σ1.1.length - σ.1.length) (tot σ1.1 - tot σ.1) (AA n0)
variable {p : Program} {l : Launch} {e : Env} {R : Room} {s : State} {m : MethodId} {args : Array Value} {below : List Frame} {meth : Method} {c : Code} {Q : State → Prop} {mi z0 pc nx : Nat} {ls st : List Value} {σ σ1 : ASt} {a : Instr}
theorem w_back {H : Heap} {locs : List Loc} {cells slots mc ms : Nat} {la : Array Slot} {stk : List Value} {rest : List Value} {r : Option Value} {ag : Array Value}
    (hr : va_Run p l e R s m args below meth c H locs cells slots mc ms (F0 m pc la stk) (rest.map (en n0 cad)) (QcM D dA n0 cad r σ1 ag) (AA n0)) (hS : va_S (AA n0) s.heap H locs)
    (kk : ∀ (H1 : Heap) (locs1 : List Loc), va_P D clz (wsA dA n0 cad σ1) H1 → va_S (AA n0) s.heap H1 locs1 → W p l e R s m args below meth c H1 locs1 (cells + mc) (slots + ms) Q (F0 m (pc + 3) la ((r.toList ++ rest).map (en n0 cad)))) : W p l e R s m args below meth c H locs cells slots Q (F0 m pc la stk) := by
  intro T hT X
  obtain ⟨v, st₀, t, T', L, h0, X', hL, e1, e2, ⟨hv, hPq, hz, hk⟩, stp⟩ := hr T hT X
  cases hv
  rw [h0] at hz hk
  obtain ⟨t2, a1, b1⟩ := kk T'.heap (locs ++ L) (by rw [e1]; exact hPq) ⟨Nat.le_trans hS.1 (by rw [e1]; exact hz), fun q h1 h2 => by rw [e1, hk q (Nat.lt_of_lt_of_le h1 hS.1) h2]; exact hS.2.1 q h1 h2, fun q hq => by
      rcases List.mem_append.mp hq with h | h
      · exact hS.2.2 q h
      · exact hL q h⟩ T' rfl X'
  refine ⟨t2, stp t2 ?_, b1⟩
  have e3 : (r.map (en n0 cad)).toList ++ rest.map (en n0 cad) = (r.toList ++ rest).map (en n0 cad) := by cases r <;> simp
  show Steps p.tables e below (T'.setTop (F0 m (pc + 3) la ((r.map (en n0 cad)).toList ++ rest.map (en n0 cad)))) t2
  rw [e3]
  exact a1
theorem heap_eq {H : Heap} {locs : List Loc} {cells : Nat} (hn0 : n0 ≤ s.heap.size) (hP : va_P D clz (wsA dA n0 cad σ) H) (hS : va_S (AA n0) s.heap H locs) (hc : s.heap.size + cells = n0 + σ.1.length) (hsz : H.size ≤ s.heap.size + cells) : H.size = n0 + σ.1.length := by
  rcases Nat.eq_zero_or_pos σ.1.length with h0 | h0
  · have := hS.1
    omega
  · obtain ⟨k, hk⟩ : ∃ k, σ.1[σ.1.length - 1]? = some k := ⟨_, List.getElem?_eq_getElem (by omega)⟩
    have h1 : n0 + (σ.1.length - 1) < H.size := (hP _ _ (ws_get hk)).lt
    omega
theorem pl_of {t : Nat} (ht : t < 106) : plainFor (mNam t) = true ∧ (mNam t).cls ≠ "java/lang/invoke/MethodHandle" ∧ (mNam t).cls ≠ "java/lang/invoke/VarHandle" ∧ (mNam t).cls = rN (mCls t) ∧ mPar t ≤ mMax t ∧ mMax t ≤ 20 := by
  have h := mPl_of ht
  simp only [mPl, Bool.and_eq_true, decide_eq_true_eq, Nat.ble_eq] at h
  obtain ⟨⟨⟨⟨⟨⟨h1, h2⟩, h3⟩, h4⟩, h5⟩, h6⟩, -⟩ := h
  exact ⟨h1, h2, h3, h4, h5, h6⟩
/-- a row of the table of calls -/
theorem m_row {o c t k : Nat} (h : mAny o c t k = true) : ∃ p1 p2 p3 p4 p5, (o, c, t, k, p1, p2, p3, p4, p5) ∈ lkM := by
  obtain ⟨⟨o', c', t', k', p1, p2, p3, p4, p5⟩, he, hq⟩ := any_of h
  simp only [Bool.and_eq_true] at hq
  obtain ⟨⟨⟨g1, g2⟩, g3⟩, g4⟩ := hq
  obtain rfl := Nat.eq_of_beq_eq_true g1
  obtain rfl := Nat.eq_of_beq_eq_true g2
  obtain rfl := Nat.eq_of_beq_eq_true g3
  obtain rfl := Nat.eq_of_beq_eq_true g4
  exact ⟨p1, p2, p3, p4, p5, he⟩
theorem sc_of {virt : Bool} {t : Nat} {as rest : List Value} (h : s_call virt t st σ = some (.inr (.inl (t, as, rest)))) : mPar t ≤ st.length ∧ as = (st.take (mPar t)).reverse ∧ rest = st.drop (mPar t) ∧ Nat.ble ((rest.map fun v => v.category).sum) 8 = true ∧ as.all (fun v => Nat.beq v.category 1) = true ∧ (virt = true → ∃ o as', as = .ref o :: as' ∧ σ.1[o]? = some (mCls t, nFl (mCls t))) := by
  unfold s_call at h
  dsimp only at h
  split at h
  · cases h
  · rename_i hchk
    simp only [Bool.and_eq_true, Nat.ble_eq] at hchk
    obtain ⟨⟨hn, hcat⟩, h8⟩ := hchk
    split at h
    · have h := Sum.inl.inj (Sum.inr.inj (Option.some.inj h))
      simp only [Prod.mk.injEq] at h
      obtain ⟨-, h1, h2⟩ := h
      subst h1; subst h2
      exact ⟨hn, rfl, rfl, by simpa using h8, hcat, fun z => by cases z⟩
    · split at h
      · rename_i o as' has
        split at h
        · rename_i hso
          have h := Sum.inl.inj (Sum.inr.inj (Option.some.inj h))
          simp only [Prod.mk.injEq] at h
          obtain ⟨-, h1, h2⟩ := h
          have h1 : (st.take (mPar t)).reverse = as := h1
          subst h2
          exact ⟨hn, h1.symm, rfl, by simpa using h8, by rw [← h1]; exact hcat, fun _ => ⟨o, as', h1.symm.trans has, hso⟩⟩
        · cases h
      · cases h
theorem mws_in (t : Nat) (h : Cond.code (mNam t) (mByt t) (mMax t) (mRet t) ∈ TB) : ∀ w ∈ mWs t, w ∈ TB := fun w hw => by
  rcases List.mem_cons.mp hw with h1 | h1
  · rw [h1]; exact h
  · exact h1
section RUNS
variable {H : Heap} {locs : List Loc} {cells slots : Nat} {la : Array Slot} {t idx : Nat} {as rest : List Value} {r : Option Value}
theorem run_V (X : CXx D dA n0 cad E p R s m args meth c mi) (hk : mAny (mCls mi) idx t 0 = true ∨ mAny (mCls mi) idx t 3 = true) (hd : decode (mByt mi) pc = .ok (.invokevirtual idx, 3)) (hdp : mDep t < mDep mi)
    (hM : MetA D dA n0 cad E l t as σ r σ1) (hP : va_P D clz (wsA dA n0 cad σ) H) (hU : ∀ U : State, U.heap = H → s.WarmedH U.vm → U.heap.size = n0 + σ.1.length ∧ va_P D clz (wsA dA n0 cad σ) U.heap ∧ KF D dA U ∧ HF dA n0 cad E U U.heap)
    {o : Nat} {as' : List Value} (has : as = .ref o :: as') (hso : σ.1[o]? = some (mCls t, nFl (mCls t))) (ho : o < 1000) (hlen : as.length = mPar t) (hstk : st.map (en n0 cad) = (as.map (en n0 cad)).reverse ++ rest.map (en n0 cad))
    (h8 : 2 * (F0 m pc la (st.map (en n0 cad))).monitorRoom + ((rest.map (en n0 cad)).map fun v => v.category).sum ≤ 8) (hsize : la.size = mMax mi) (hf : cells + (σ1.1.length - σ.1.length) ≤ R.cells ∧ slots + (tot σ1.1 - tot σ.1) ≤ R.slots) :
    ∃ ag, va_Run p l e R s m args below meth c H locs cells slots (σ1.1.length - σ.1.length) (tot σ1.1 - tot σ.1) (F0 m pc la (st.map (en n0 cad))) (rest.map (en n0 cad)) (QcM D dA n0 cad r σ1 ag) (AA n0) := by
  obtain ⟨hx, hb, hml, hown, hts, hnm, hKF, hHF, hn0, hfr, hlo, hE0⟩ := X
  have S : CallFix p m c (mByt mi) (mMax mi) s args TB (rN (mCls mi)) := ⟨hx, hb, hml, hown, hts⟩
  subst has
  have hst2 : (F0 m pc la (st.map (en n0 cad))).stack = (as'.map (en n0 cad)).reverse ++ .ref (adr n0 cad o) :: rest.map (en n0 cad) := by
    show st.map (en n0 cad) = _
    rw [hstk, List.map_cons, List.reverse_cons, List.append_assoc]
    rfl
  have hrecv : ∀ {ci : Nat} (hci : ci < 6), σ.1[o]? = some (ci, nFl ci) → ∃ cell : Cell, H[adr n0 cad o]? = some cell ∧ cell.vm.isStatics = false ∧ s.vm.findClass (rN ci) = some cell.cls := fun hci h => by
    rw [adr_lt ho]
    exact va_recv hKF.1 hP (cl_all hci) (ws_obj h (by omega))
  rcases hk with hk | hk
  · obtain ⟨p1, p2, p3, p4, p5, he⟩ := m_row hk
    have hw := List.all_eq_true.mp lkM_ok _ he
    have hkd := List.all_eq_true.mp lkM_kd _ he
    have hvc := List.all_eq_true.mp lkM_vc _ he
    simp only [mWd, Bool.and_eq_true, decide_eq_true_eq] at hw
    simp only [mKd, Bool.and_eq_true, decide_eq_true_eq, Nat.blt_eq, Nat.ble_eq] at hkd
    simp only [Nat.blt_eq] at hvc
    obtain ⟨⟨⟨⟨w1, w2⟩, w3⟩, w4⟩, w5⟩ := hw
    obtain ⟨ht, h1p, hpar⟩ := hkd
    obtain ⟨q1, q2, q3, q4, q5, q6⟩ := pl_of ht
    have hin := mws_in t (tb_of _ (cdq_ok w4) rfl)
    have hg : GoodIn TB (wsV (rN (mCls mi)) idx (mNam t).cls (mNam t) (mWs t)) := tb_good _ (fun w hw => by
      unfold wsV at hw
      rcases List.mem_append.mp hw with h | h
      · simp only [List.mem_cons, List.not_mem_nil, or_false] at h
        rcases h with rfl | rfl | rfl | rfl
        · exact tb_of _ w1 rfl
        · exact tb_of _ w2 rfl
        · exact tb_of _ w3 rfl
        · exact tb_of _ w5 rfl
      · exact hin w h)
    refine ⟨_, va_runV (As := as'.map (en n0 cad)) (b := adr n0 cad o) S hM (cwV (C := (mNam t).cls) (mPar t - 1) hts hg rfl rfl rfl ⟨rfl, q2, q3, hpar⟩ ⟨by show mDep t + 1 ≤ _; omega, by show 8 + (mMax t + 11) + 40 * mDep t ≤ _; omega⟩) ⟨pcm_blind, by rw [q4]; exact hrecv hvc hso, fun U hU' hW' => ⟨rfl, hU U hU' hW'⟩⟩ rfl (by simp at hlen ⊢; omega) hsize hst2 h8 hd hf⟩
  · obtain ⟨p1, p2, p3, p4, p5, he⟩ := m_row hk
    have hw := List.all_eq_true.mp lkM_ok _ he
    have hkd := List.all_eq_true.mp lkM_kd _ he
    have hvc := List.all_eq_true.mp lkM_vc _ he
    simp only [mWd, Bool.and_eq_true, decide_eq_true_eq] at hw
    simp only [mKd, Bool.and_eq_true, decide_eq_true_eq, Nat.blt_eq, Nat.ble_eq] at hkd
    simp only [Nat.blt_eq] at hvc
    obtain ⟨⟨⟨⟨w1, w2⟩, w3⟩, w4⟩, w5⟩ := hw
    obtain ⟨ht, h1p, hpar⟩ := hkd
    obtain ⟨q1, q2, q3, q4, q5, q6⟩ := pl_of ht
    have hin := mws_in t (tb_of _ (cdq_ok w4) rfl)
    refine ⟨_, va_runVN (C := (mNam t).cls) (As := as'.map (en n0 cad)) (b := adr n0 cad o) S hM ⟨va_cnB (mPar t - 1) hts (tb_good _ hin) rfl rfl rfl (hKF.2.1 _ w1) (hts _ (tb_of _ w5 rfl)) ⟨q2, q3, hpar⟩ ⟨by show mDep t + 1 ≤ _; omega, by show 8 + (mMax t + 11) + 40 * mDep t ≤ _; omega⟩, hts _ (tb_of _ w2 rfl), hts _ (tb_of _ w3 rfl)⟩ ⟨pcm_blind, by rw [q4]; exact hrecv hvc hso, fun U hU' hW' => ⟨rfl, hU U hU' hW'⟩⟩ rfl (by simp at hlen ⊢; omega) hsize hst2 h8 hd hf⟩
theorem run_S (X : CXx D dA n0 cad E p R s m args meth c mi) (hk : mAny (mCls mi) idx t 1 = true ∨ mAny (mCls mi) idx t 4 = true) (hd : decode (mByt mi) pc = .ok (.invokestatic idx, 3)) (hdp : mDep t < mDep mi)
    (hM : MetA D dA n0 cad E l t as σ r σ1) (hU : ∀ U : State, U.heap = H → s.WarmedH U.vm → U.heap.size = n0 + σ.1.length ∧ va_P D clz (wsA dA n0 cad σ) U.heap ∧ KF D dA U ∧ HF dA n0 cad E U U.heap)
    (hlen : as.length = mPar t) (hstk : st.map (en n0 cad) = (as.map (en n0 cad)).reverse ++ rest.map (en n0 cad))
    (h8 : 2 * (F0 m pc la (st.map (en n0 cad))).monitorRoom + ((rest.map (en n0 cad)).map fun v => v.category).sum ≤ 8) (hsize : la.size = mMax mi) (hf : cells + (σ1.1.length - σ.1.length) ≤ R.cells ∧ slots + (tot σ1.1 - tot σ.1) ≤ R.slots) :
    ∃ ag, va_Run p l e R s m args below meth c H locs cells slots (σ1.1.length - σ.1.length) (tot σ1.1 - tot σ.1) (F0 m pc la (st.map (en n0 cad))) (rest.map (en n0 cad)) (QcM D dA n0 cad r σ1 ag) (AA n0) := by
  obtain ⟨hx, hb, hml, hown, hts, hnm, hKF, hHF, hn0, hfr, hlo, hE0⟩ := X
  have S : CallFix p m c (mByt mi) (mMax mi) s args TB (rN (mCls mi)) := ⟨hx, hb, hml, hown, hts⟩
  rcases hk with hk | hk
  · obtain ⟨p1, p2, p3, p4, p5, he⟩ := m_row hk
    have hw := List.all_eq_true.mp lkM_ok _ he
    have hkd := List.all_eq_true.mp lkM_kd _ he
    simp only [mWd, Bool.and_eq_true, decide_eq_true_eq] at hw
    simp only [mKd, Bool.and_eq_true, decide_eq_true_eq, Nat.blt_eq] at hkd
    obtain ⟨⟨⟨w1, w2⟩, w4⟩, w5⟩ := hw
    obtain ⟨ht, hpar⟩ := hkd
    obtain ⟨q1, q2, q3, q4, q5, q6⟩ := pl_of ht
    have hin := mws_in t (tb_of _ (cdq_ok w4) rfl)
    have hg : GoodIn TB (va_wsS (rN (mCls mi)) idx (mNam t) (mWs t)) := tb_good _ (fun w hw => by
      unfold va_wsS at hw
      rcases List.mem_append.mp hw with h | h
      · simp only [List.mem_cons, List.not_mem_nil, or_false] at h
        rcases h with rfl | rfl | rfl
        · exact tb_of _ w1 rfl
        · exact tb_of _ w2 rfl
        · exact tb_of _ w5 rfl
      · exact hin w h)
    exact ⟨_, va_runS (As := as.map (en n0 cad)) S hM (va_cwS (mPar t) hts hg rfl rfl rfl ⟨q2, q3, hpar⟩ ⟨by show mDep t + 1 ≤ _; omega, by show 8 + (mMax t + 11) + 40 * mDep t ≤ _; omega⟩) ⟨pcm_blind, fun U hU' hW' => ⟨rfl, hU U hU' hW'⟩⟩ rfl (by simp at hlen ⊢; omega) hsize hstk h8 hd hf⟩
  · obtain ⟨p1, p2, p3, p4, p5, he⟩ := m_row hk
    have hw := List.all_eq_true.mp lkM_ok _ he
    have hkd := List.all_eq_true.mp lkM_kd _ he
    simp only [mWd, Bool.and_eq_true, decide_eq_true_eq] at hw
    simp only [mKd, Bool.and_eq_true, decide_eq_true_eq, Nat.blt_eq] at hkd
    obtain ⟨⟨⟨w1, w2⟩, w4⟩, w5⟩ := hw
    obtain ⟨ht, hpar⟩ := hkd
    obtain ⟨q1, q2, q3, q4, q5, q6⟩ := pl_of ht
    have hin := mws_in t (tb_of _ (cdq_ok w4) rfl)
    exact ⟨_, va_runSN (As := as.map (en n0 cad)) S hM ⟨va_cnB (mPar t) hts (tb_good _ hin) rfl rfl rfl (hKF.2.1 _ w1) (hts _ (tb_of _ w5 rfl)) ⟨q2, q3, hpar⟩ ⟨by show mDep t + 1 ≤ _; omega, by show 8 + (mMax t + 11) + 40 * mDep t ≤ _; omega⟩, hts _ (tb_of _ w2 rfl), trivial⟩ ⟨pcm_blind, fun U hU' hW' => ⟨rfl, hU U hU' hW'⟩⟩ rfl (by simp at hlen ⊢; omega) hsize hstk h8 hd hf⟩
theorem run_I (X : CXx D dA n0 cad E p R s m args meth c mi) (hk : mAny (mCls mi) idx t 2 = true ∨ mAny (mCls mi) idx t 5 = true) (hd : decode (mByt mi) pc = .ok (.invokespecial idx, 3)) (hdp : mDep t < mDep mi)
    (hM : MetA D dA n0 cad E l t as σ r σ1) (hU : ∀ U : State, U.heap = H → s.WarmedH U.vm → U.heap.size = n0 + σ.1.length ∧ va_P D clz (wsA dA n0 cad σ) U.heap ∧ KF D dA U ∧ HF dA n0 cad E U U.heap)
    {o : Nat} {as' : List Value} (has : as = .ref o :: as') (hlen : as.length = mPar t) (hstk : st.map (en n0 cad) = (as.map (en n0 cad)).reverse ++ rest.map (en n0 cad))
    (h8 : 2 * (F0 m pc la (st.map (en n0 cad))).monitorRoom + ((rest.map (en n0 cad)).map fun v => v.category).sum ≤ 8) (hsize : la.size = mMax mi) (hf : cells + (σ1.1.length - σ.1.length) ≤ R.cells ∧ slots + (tot σ1.1 - tot σ.1) ≤ R.slots) :
    ∃ ag, va_Run p l e R s m args below meth c H locs cells slots (σ1.1.length - σ.1.length) (tot σ1.1 - tot σ.1) (F0 m pc la (st.map (en n0 cad))) (rest.map (en n0 cad)) (QcM D dA n0 cad r σ1 ag) (AA n0) := by
  obtain ⟨hx, hb, hml, hown, hts, hnm, hKF, hHF, hn0, hfr, hlo, hE0⟩ := X
  have S : CallFix p m c (mByt mi) (mMax mi) s args TB (rN (mCls mi)) := ⟨hx, hb, hml, hown, hts⟩
  subst has
  have hst2 : (F0 m pc la (st.map (en n0 cad))).stack = (as'.map (en n0 cad)).reverse ++ .ref (adr n0 cad o) :: rest.map (en n0 cad) := by
    show st.map (en n0 cad) = _
    rw [hstk, List.map_cons, List.reverse_cons, List.append_assoc]
    rfl
  rcases hk with hk | hk
  · obtain ⟨p1, p2, p3, p4, p5, he⟩ := m_row hk
    have hw := List.all_eq_true.mp lkM_ok _ he
    have hkd := List.all_eq_true.mp lkM_kd _ he
    simp only [mWd, Bool.and_eq_true, decide_eq_true_eq] at hw
    simp only [mKd, Bool.and_eq_true, decide_eq_true_eq, Nat.blt_eq, Nat.ble_eq] at hkd
    obtain ⟨⟨⟨⟨⟨w1, w2⟩, w3⟩, w6⟩, w4⟩, w5⟩ := hw
    obtain ⟨ht, h1p, hpar⟩ := hkd
    obtain ⟨q1, q2, q3, q4, q5, q6⟩ := pl_of ht
    have hin := mws_in t (tb_of _ (cdq_ok w4) rfl)
    exact ⟨_, va_runI (As := as'.map (en n0 cad)) (b := adr n0 cad o) S hM (cwI (mPar t - 1) hts (tb_good _ hin) (by unfold mWs; rw [w6]) rfl rfl (hts _ (tb_of _ w5 rfl)) (hts _ (tb_of _ w1 rfl)) (hts _ (tb_of _ w2 rfl)) w3 ⟨q2, q3, hpar⟩ ⟨by show mDep t + 1 ≤ _; omega, by show 8 + (mMax t + 11) + 40 * mDep t ≤ _; omega⟩) ⟨pcm_blind, fun U hU' hW' => ⟨rfl, hU U hU' hW'⟩⟩ rfl (by simp at hlen ⊢; omega) hsize hst2 h8 hd hf⟩
  · obtain ⟨p1, p2, p3, p4, p5, he⟩ := m_row hk
    have hw := List.all_eq_true.mp lkM_ok _ he
    have hkd := List.all_eq_true.mp lkM_kd _ he
    simp only [mWd, Bool.and_eq_true, decide_eq_true_eq] at hw
    simp only [mKd, Bool.and_eq_true, decide_eq_true_eq, Nat.blt_eq, Nat.ble_eq] at hkd
    obtain ⟨⟨⟨⟨⟨w1, w2⟩, w3⟩, w6⟩, w4⟩, w5⟩ := hw
    obtain ⟨ht, h1p, hpar⟩ := hkd
    obtain ⟨q1, q2, q3, q4, q5, q6⟩ := pl_of ht
    have hin := mws_in t (tb_of _ (cdq_ok w4) rfl)
    exact ⟨_, va_runIN (As := as'.map (en n0 cad)) (b := adr n0 cad o) (bytes := mByt t) (maxL := mMax t) S hM ⟨va_cnB (mPar t - 1) hts (tb_good _ hin) (by unfold mWs; rw [w6]) rfl rfl (hKF.2.1 _ w1) (hts _ (tb_of _ w5 rfl)) ⟨q2, q3, hpar⟩ ⟨by show mDep t + 1 ≤ _; omega, by show 8 + (mMax t + 11) + 40 * mDep t ≤ _; omega⟩, w3, hts _ (tb_of _ w2 rfl)⟩ ⟨pcm_blind, fun U hU' hW' => ⟨rfl, hU U hU' hW'⟩⟩ rfl (by simp at hlen ⊢; omega) hsize hst2 h8 hd hf⟩
end RUNS
end MAIN
