/-! THE TIE, 7: every method that 'ex' runs to its end has its contract; the law -/
section SNM
variable {D : va_G} {dA : Nat → ClassId} {n0 : Nat} {cad : Nat → Nat} {E : AEnv}
theorem lg_len : ∀ (vs : List Value), (∀ v ∈ vs, v.category = 1) → (lg_sl vs).length = vs.length
  | [], _ => rfl
  | v :: t, h => by
    have h1 := h v List.mem_cons_self
    have h2 := lg_len t (fun w hw => h w (List.mem_cons_of_mem _ hw))
    have e : lg_sl (v :: t) = [Slot.val v] ++ lg_sl t := by simp [lg_sl, h1]
    rw [e, List.length_append, h2]
    simp; omega
theorem lv_args_mem : ∀ (vs : List Value) (k i : Nat) (v : Value), (∀ v ∈ vs, v.category = 1) → vs[i]? = some v → (k + i, v) ∈ lv_args k vs
  | [], _, _, _, _, h => by simp at h
  | w :: t, k, 0, v, _, h => by
    simp at h
    subst h
    exact List.mem_cons_self
  | w :: t, k, i + 1, v, hc, h => by
    have h1 : ¬ w.category = 2 := by rw [hc w List.mem_cons_self]; decide
    rw [lv_args, if_neg h1]
    have h2 := lv_args_mem t (k + 1) i v (fun w hw => hc w (List.mem_cons_of_mem _ hw)) (by simpa using h)
    rw [show k + (i + 1) = k + 1 + i by omega]
    exact List.mem_cons_of_mem _ h2
theorem entry_LH {as : List Value} {nL : Nat} (hc : as.all (fun v => Nat.beq v.category 1) = true) (hl : as.length ≤ nL) : LH n0 cad ((lg_sl (as.map (en n0 cad)) ++ List.replicate (nL - (lg_sl (as.map (en n0 cad))).length) Slot.unset).toArray) nL as := by
  have hc1 : ∀ v ∈ as, v.category = 1 := fun v hv => Nat.eq_of_beq_eq_true (List.all_eq_true.mp hc v hv)
  have hc2 : ∀ v ∈ as.map (en n0 cad), v.category = 1 := fun v hv => by
    obtain ⟨w, hw, rfl⟩ := List.mem_map.mp hv
    rw [en_cat]; exact hc1 w hw
  have h := lv_entry (as.map (en n0 cad)) (n := nL) (by rw [lg_len _ hc2, List.length_map]; exact hl)
  refine ⟨h.1, h.2.1, fun i v hv _ => ?_⟩
  have := lv_args_mem (as.map (en n0 cad)) 0 i (en n0 cad v) hc2 (by rw [List.getElem?_map, hv]; rfl)
  rw [Nat.zero_add] at this
  exact h.2.2 (i, en n0 cad v) this
/-- a method's end, as its invoker asks it -/
theorem ret_end {p : Program} {l : Launch} {e : Env} {R : Room} {s : State} {m : MethodId} {args : Array Value} {below : List Frame} {meth : Method} {c : Code} {mi z0 pc nx ct cF sF : Nat} {ls st : List Value} {σ : ASt} {o : Instr} {r : Option Value}
    (X : CXx D dA n0 cad E p R s m args meth c mi) (hr : meth.sig.returnType = mRet mi) (hlk : meth.locks = false) (hf : fnd (mCode mi) pc = some (o, nx, ct)) (hs : step E o nx ls st σ = some (.inr (.inr r)))
    (hcF : s.heap.size + cF = n0 + σ.1.length) (hsF : z0 + sF = tot σ.1) :
    WW D dA n0 cad p l e R s m args below meth c (MQ below (QcM D dA n0 cad r σ) args s cF sF (AA n0)) mi z0 pc ls st σ := by
  intro H locs cells slots la hP hS hl hc hz hL
  obtain rfl : cells = cF := by omega
  obtain rfl : slots = sF := by omega
  obtain ⟨a, hd, hk⟩ := ck_at hf
  obtain ⟨hx, hb, -⟩ := X
  have hq : ∀ t : State, t.heap = H → s.WarmedH t.vm → QcM D dA n0 cad r σ args s (.returned (r.map (en n0 cad))) t := fun t ht hW => ⟨rfl, by rw [ht]; exact hP, hS.F ht⟩
  have key : (o = .ireturn ∧ ∃ v, st = [.int v] ∧ r = some (.int v)) ∨ (o = .freturn ∧ ∃ v, st = [.int v] ∧ r = some (.int v) ∧ fN .boolean v = true) ∨ (o = .areturn ∧ ∃ v, st = [.ref v] ∧ r = some (.ref v)) ∨ (o = .lreturn ∧ ∃ v, st = [.long v] ∧ r = some (.long v)) ∨ (o = .return_ ∧ st = [] ∧ r = none) := by
    unfold step at hs
    split at hs
    all_goals (try simp only [s_alu, s_falu, s_store, s_aload, s_astore, s_call, go] at hs)
    all_goals (repeat' split at hs)
    all_goals first
      | (cases hs; done)
      | (cases hs; exact Or.inl ⟨rfl, _, rfl, rfl⟩)
      | (rename_i hh; cases hs; exact Or.inr (Or.inl ⟨rfl, _, rfl, rfl, hh⟩))
      | (cases hs; exact Or.inr (Or.inr (Or.inl ⟨rfl, _, rfl, rfl⟩)))
      | (cases hs; exact Or.inr (Or.inr (Or.inr (Or.inl ⟨rfl, _, rfl, rfl⟩))))
      | (cases hs; exact Or.inr (Or.inr (Or.inr (Or.inr ⟨rfl, rfl, rfl⟩))))
  rcases key with ⟨rfl, v, rfl, rfl⟩ | ⟨rfl, v, rfl, rfl, hv⟩ | ⟨rfl, v, rfl, rfl⟩ | ⟨rfl, v, rfl, rfl⟩ | ⟨rfl, rfl, rfl⟩
  · have hk : (k_same .ireturn nx pc a && decide (mRet mi = some .int)) = true := hk
    simp only [Bool.and_eq_true, decide_eq_true_eq] at hk
    obtain ⟨-, hd'⟩ := sm_eq hd hk.1
    exact W.iret hx hb (hr.trans hk.2) hq hS.2.2 hd' hlk
  · have hk : (k_same .ireturn nx pc a && decide (mRet mi = some .boolean)) = true := hk
    simp only [Bool.and_eq_true, decide_eq_true_eq] at hk
    obtain ⟨-, hd'⟩ := sm_eq hd hk.1
    simp only [fN, Bool.and_eq_true, decide_eq_true_eq] at hv
    exact W.zret hx hb (hr.trans hk.2) hv.1 hq hS.2.2 hd' hlk
  · have hk : (k_same .areturn nx pc a && isObjT (mRet mi)) = true := hk
    simp only [Bool.and_eq_true] at hk
    obtain ⟨-, hd'⟩ := sm_eq hd hk.1
    have h2 := hk.2
    unfold isObjT at h2
    split at h2
    · rename_i cn hcn
      exact W.aret (v := .ref (adr n0 cad v)) hx hb (hr.trans hcn) (Or.inl ⟨_, rfl⟩) (Or.inr ⟨_, rfl⟩) hq hS.2.2 hd' hlk
    · cases h2
  · have hk : (k_same .lreturn nx pc a && decide (mRet mi = some .long)) = true := hk
    simp only [Bool.and_eq_true, decide_eq_true_eq] at hk
    obtain ⟨-, hd'⟩ := sm_eq hd hk.1
    exact W.lret hx hb (hr.trans hk.2) hq hS.2.2 hd'
  · have hk : (k_same .return_ nx pc a && decide (mRet mi = none)) = true := hk
    simp only [Bool.and_eq_true, decide_eq_true_eq] at hk
    obtain ⟨-, hd'⟩ := sm_eq hd hk.1
    exact W.vret hx hb (hr.trans hk.2) hq hS.2.2 hd' hlk
/-- a run of 'ex', as a walk -/
def SndW (D : va_G) (dA : Nat → ClassId) (n0 : Nat) (cad : Nat → Nat) (E : AEnv) (l : Launch) (n : Nat) : Prop := ∀ (mi pc : Nat) (ls st : List Value) (σ : ASt) (r : Option Value) (σ' : ASt), ex E n mi pc ls st σ = some (r, σ') →
  ∀ {p : Program} {e : Env} {R : Room} {s : State} {m : MethodId} {args : Array Value} {below : List Frame} {meth : Method} {c : Code} {Q : State → Prop} {z0 : Nat}, CXx D dA n0 cad E p R s m args meth c mi → n0 + σ'.1.length ≤ s.heap.size + R.cells → tot σ'.1 ≤ z0 + R.slots → σ'.1.length ≤ 1000 →
  (∀ (pc' : Nat) (o : Instr) (nx ct : Nat) (ls1 st1 : List Value), fnd (mCode mi) pc' = some (o, nx, ct) → step E o nx ls1 st1 σ' = some (.inr (.inr r)) → WW D dA n0 cad p l e R s m args below meth c Q mi z0 pc' ls1 st1 σ') →
  WW D dA n0 cad p l e R s m args below meth c Q mi z0 pc ls st σ
theorem met_of {l : Launch} {n : Nat} (hE0 : (E 0).1 = 8) (h : SndW D dA n0 cad E l n) {t : Nat} {as : List Value} {σ σ1 : ASt} {r : Option Value} (ht : t < 106) (hc : as.all (fun v => Nat.beq v.category 1) = true) (hlen : as.length = mPar t) (hL : σ1.1.length ≤ 1000) (hx : ex E n t 0 as [] σ = some (r, σ1)) : MetA D dA n0 cad E l t as σ r σ1 := by
  obtain ⟨q1, q2, q3, q4, q5, q6⟩ := pl_of ht
  have hg := go_len (ex_grow E n t 0 as [] σ r σ1 hx)
  refine va_MetF (cc := mByt t) (maxL := mMax t) (ret := mRet t) q1 rfl ?_
  intro p e s m args below meth c s₁ B hml hv
  obtain ⟨rfl, hsz, hP, hKF, hHF⟩ := hv
  have hts := atoms_spec (ws := mWs t) B.pre
  have hown : s.vm.findClass (rN (mCls t)) = some m.cls := by rw [← q4]; exact findClass_of_methodNamed B.named
  have hnm := (name_of_methodNamed B.named B.method).1
  have X : CXx D dA n0 cad E p (headSpec (mWs t) (rmM t (σ1.1.length - σ.1.length) (tot σ1.1 - tot σ.1))).room s m (as.map (en n0 cad)).toArray meth c t :=
    ⟨B.exec, B.bytes, hml, hown, fun w hw => hts w (List.mem_cons_of_mem _ hw), fun hi => by rw [hnm]; exact hi, hKF, hHF, by omega, Nat.le_refl _, Nat.le_refl _, hE0⟩
  have hW := h t 0 as [] σ r σ1 hx (p := p) (e := e) (below := below) (Q := MQ below (QcM D dA n0 cad r σ1) (as.map (en n0 cad)).toArray s (σ1.1.length - σ.1.length) (tot σ1.1 - tot σ.1) (AA n0)) (z0 := tot σ.1) X (by show _ ≤ s.heap.size + (σ1.1.length - σ.1.length); omega) (by show _ ≤ tot σ.1 + (tot σ1.1 - tot σ.1); omega) hL
    (fun pc' o nx ct ls1 st1 hf hs => ret_end X B.returns B.notSynchronized hf hs (by omega) (by omega))
  rw [lg_entry_eq]
  exact hW s.heap [] 0 0 _ hP va_S.rf (entry_LH hc (by omega)) (by omega) (by omega) (by omega)
theorem ex_lt {n t pc : Nat} {ls st : List Value} {σ : ASt} {x : Option Value × ASt} (h : ex E n t pc ls st σ = some x) : t < 106 := by
  rcases Nat.lt_or_ge t 106 with h1 | h1
  · exact h1
  · exfalso
    cases n with
    | zero => simp [ex] at h
    | succ n =>
      obtain ⟨k, rfl⟩ : ∃ k, t = k + 106 := ⟨t - 106, by omega⟩
      have e : mCode (k + 106) = [] := rfl
      rw [ex, e] at h
      simp [fnd] at h
theorem call_args {o : Instr} {nx c : Nat} {ls st as st' : List Value} {σ : ASt} (h : step E o nx ls st σ = some (.inr (.inl (c, as, st')))) : as.all (fun v => Nat.beq v.category 1) = true ∧ as.length = mPar c := by
  have key : ∃ virt, s_call virt c st σ = some (.inr (.inl (c, as, st'))) := by
    unfold step at h
    split at h
    all_goals (try simp only [s_alu, s_falu, s_store, s_aload, s_astore, go] at h)
    all_goals (repeat' split at h)
    all_goals first
      | (cases h; done)
      | skip
    · rename_i t
      have ht : t = c := by
        unfold s_call at h
        dsimp only at h
        repeat' split at h
        all_goals (first | (cases h; done) | (cases h; rfl))
      subst ht
      exact ⟨true, h⟩
    · rename_i t
      have ht : t = c := by
        unfold s_call at h
        dsimp only at h
        repeat' split at h
        all_goals (first | (cases h; done) | (cases h; rfl))
      subst ht
      exact ⟨false, h⟩
  obtain ⟨virt, hv⟩ := key
  obtain ⟨h1, h2, h3, h4, h5, -⟩ := sc_of hv
  exact ⟨h5, by rw [h2]; simp; omega⟩
theorem snd_main {l : Launch} (hE0 : (E 0).1 = 8) : ∀ n : Nat, SndW D dA n0 cad E l n := by
  intro n
  induction n with
  | zero => intro mi pc ls st σ r σ' h; simp [ex] at h
  | succ n ih =>
    intro mi pc ls st σ r σ' h p e R s m args below meth c Q z0 X hB hB2 hB3 HE
    rw [ex] at h
    cases hf : fnd (mCode mi) pc with
    | none => rw [hf] at h; cases h
    | some q =>
      obtain ⟨o, nx, ct⟩ := q
      rw [hf] at h
      dsimp only at h
      obtain ⟨a, hd, hk⟩ := ck_at hf
      refine WW.cut (nx := ct) (one_step X hd hk ?_)
      cases hs : step E o nx (ls.take ct) st σ with
      | none => rw [hs] at h; cases h
      | some y =>
        rw [hs] at h
        rcases y with ⟨pc', ls', st', σ1⟩ | ⟨t, as, st'⟩ | r'
        · have hg := go_len (ex_grow E _ _ _ _ _ _ _ _ h)
          exact ⟨ih _ _ _ _ _ _ _ h X hB hB2 hB3 HE, by show n0 + σ1.1.length ≤ _; omega, by show tot σ1.1 ≤ _; omega, by show σ1.1.length ≤ _; omega⟩
        · dsimp only at h
          cases hc : ex E n t 0 as [] σ with
          | none => rw [hc] at h; cases h
          | some y =>
            obtain ⟨r1, σ1⟩ := y
            rw [hc] at h
            have hg := go_len (ex_grow E _ _ _ _ _ _ _ _ h)
            have hg1 := go_len (ex_grow E _ _ _ _ _ _ _ _ hc)
            obtain ⟨hca, hcl⟩ := call_args hs
            exact ⟨r1, σ1, met_of hE0 ih (ex_lt hc) hca hcl (by omega) hc, hg1.1, hg1.2, by omega, by omega, by omega, ih _ _ _ _ _ _ _ h X hB hB2 hB3 HE⟩
        · cases h
          exact HE pc o nx ct (ls.take ct) st hf hs
end SNM
