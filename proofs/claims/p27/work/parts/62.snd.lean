/-! THE TIE, 1: where the small machine's cells stand in the JVM's heap (from n0 on; the written tables and the script at cad 0 .. 3), and an instruction at a time. -/
def adr (n0 : Nat) (cad : Nat → Nat) (c : Nat) : Nat := if c < 1000 then n0 + c else cad (c - 1000)
def en (n0 : Nat) (cad : Nat → Nat) (v : Value) : Value := match v with
  | .ref c => .ref (adr n0 cad c)
  | v => v
theorem en_cat (n0 : Nat) (cad : Nat → Nat) (v : Value) : (en n0 cad v).category = v.category := by cases v <;> rfl
def drf (n0 : Nat) (cad : Nat → Nat) (r : Nat) : Option Nat := match r with
  | 0 => none
  | r + 1 => some (adr n0 cad r)
def AA (n0 : Nat) : Nat → Prop := fun q => n0 ≤ q
def ent (dA : Nat → ClassId) (n0 : Nat) (cad : Nat → Nat) (σ : ASt) (c : Nat) (q : Nat × Nat) : va_E :=
  if q.1 < 10 then .inr (q.1, (List.range q.2).map fun j => if fTy q.1 j = 3 then va_rf (drf n0 cad (σ.2.2 c j)) else .int (σ.2.1 c j))
  else if q.1 < 13 then .inl (dA q.1, q.2, .inl (σ.2.1 c))
  else .inl (dA q.1, q.2, .inr (.inr (.inr (.inr fun j => drf n0 cad (σ.2.2 c j)))))
def wsA (dA : Nat → ClassId) (n0 : Nat) (cad : Nat → Nat) (σ : ASt) : va_W := σ.1.mapIdx fun c q => (n0 + c, ent dA n0 cad σ c q)
section WS
variable {dA : Nat → ClassId} {n0 : Nat} {cad : Nat → Nat} {σ : ASt}
theorem ws_get {c : Nat} {q : Nat × Nat} (h : σ.1[c]? = some q) : (wsA dA n0 cad σ)[c]? = some (n0 + c, ent dA n0 cad σ c q) := by
  simp [wsA, List.getElem?_mapIdx, h]
theorem ws_inv {c : Nat} {p : Nat × va_E} (h : (wsA dA n0 cad σ)[c]? = some p) : ∃ q, σ.1[c]? = some q ∧ p = (n0 + c, ent dA n0 cad σ c q) := by
  rw [wsA, List.getElem?_mapIdx, Option.map_eq_some_iff] at h
  obtain ⟨q, h1, h2⟩ := h
  exact ⟨q, h1, h2.symm⟩
theorem ws_D : va_D (AA n0) (wsA dA n0 cad σ) := by
  refine ⟨fun i j p q hi hj he => ?_, fun k q hk => ?_⟩
  · obtain ⟨_, _, rfl⟩ := ws_inv hi
    obtain ⟨_, _, rfl⟩ := ws_inv hj
    dsimp only at he
    omega
  · obtain ⟨_, _, rfl⟩ := ws_inv hk
    exact Nat.le_add_right _ _
theorem ent_wrI {c i k : Nat} {x : Int32} {q : Nat × Nat} (h : i ≠ c) : ent dA n0 cad (wrI σ c k x) i q = ent dA n0 cad σ i q := by
  have e : (wrI σ c k x).2.1 i = σ.2.1 i := if_neg h
  have e2 : (wrI σ c k x).2.2 = σ.2.2 := rfl
  unfold ent
  rw [e, e2]
theorem ent_wrR {c i k r : Nat} {q : Nat × Nat} (h : i ≠ c) : ent dA n0 cad (wrR σ c k r) i q = ent dA n0 cad σ i q := by
  have e : (wrR σ c k r).2.2 i = σ.2.2 i := if_neg h
  have e2 : (wrR σ c k r).2.1 = σ.2.1 := rfl
  unfold ent
  rw [e, e2]
theorem ws_set {σ' : ASt} {c : Nat} {q : Nat × Nat} (h : σ.1[c]? = some q) (h1 : σ'.1 = σ.1) (he : ∀ i q, i ≠ c → ent dA n0 cad σ' i q = ent dA n0 cad σ i q) : wsA dA n0 cad σ' = (wsA dA n0 cad σ).set c (n0 + c, ent dA n0 cad σ' c q) := by
  have hl : c < σ.1.length := (List.getElem?_eq_some_iff.mp h).1
  apply List.ext_getElem?
  intro i
  by_cases hi : i = c
  · subst hi
    rw [ws_get (σ := σ') (q := q) (by rw [h1]; exact h), List.getElem?_set_self (by simp [wsA]; exact hl)]
  · rw [List.getElem?_set_ne (Ne.symm hi)]
    unfold wsA
    rw [List.getElem?_mapIdx, List.getElem?_mapIdx, h1]
    cases hq : σ.1[i]? with
    | none => rfl
    | some q' => simp only [Option.map_some, he i q' hi]
theorem ws_wrI {c k : Nat} {x : Int32} {q : Nat × Nat} (h : σ.1[c]? = some q) : wsA dA n0 cad (wrI σ c k x) = (wsA dA n0 cad σ).set c (n0 + c, ent dA n0 cad (wrI σ c k x) c q) := ws_set h rfl (fun _ _ hi => ent_wrI hi)
theorem ws_wrR {c k r : Nat} {q : Nat × Nat} (h : σ.1[c]? = some q) : wsA dA n0 cad (wrR σ c k r) = (wsA dA n0 cad σ).set c (n0 + c, ent dA n0 cad (wrR σ c k r) c q) := ws_set h rfl (fun _ _ hi => ent_wrR hi)
theorem ws_push {k n : Nat} {f : Nat → Int32} : wsA dA n0 cad (pushC σ k n f) = wsA dA n0 cad σ ++ [(n0 + σ.1.length, ent dA n0 cad (pushC σ k n f) σ.1.length (k, n))] := by
  unfold wsA
  show (σ.1 ++ [(k, n)]).mapIdx _ = _
  rw [List.mapIdx_append]
  congr 1
  · apply List.ext_getElem?
    intro i
    rw [List.getElem?_mapIdx, List.getElem?_mapIdx]
    cases hq : σ.1[i]? with
    | none => rfl
    | some q =>
      have hl : i < σ.1.length := (List.getElem?_eq_some_iff.mp hq).1
      have e1 : (pushC σ k n f).2.1 i = σ.2.1 i := if_neg (by omega)
      have e2 : (pushC σ k n f).2.2 i = σ.2.2 i := if_neg (by omega)
      simp only [Option.map_some, ent, e1, e2]
  · simp
theorem ent_obj {c : Nat} {q : Nat × Nat} (h : q.1 < 10) : ent dA n0 cad σ c q = .inr (q.1, (List.range q.2).map fun j => if fTy q.1 j = 3 then va_rf (drf n0 cad (σ.2.2 c j)) else .int (σ.2.1 c j)) := if_pos h
theorem ent_int {c k n : Nat} (h1 : 10 ≤ k) (h2 : k < 13) : ent dA n0 cad σ c (k, n) = .inl (dA k, n, .inl (σ.2.1 c)) := by
  unfold ent
  rw [if_neg (by show ¬ k < 10; omega), if_pos h2]
theorem ent_ref {c k n : Nat} (h2 : 13 ≤ k) : ent dA n0 cad σ c (k, n) = .inl (dA k, n, .inr (.inr (.inr (.inr fun j => drf n0 cad (σ.2.2 c j))))) := by
  unfold ent
  rw [if_neg (by show ¬ k < 10; omega), if_neg (by show ¬ k < 13; omega)]
end WS
def tot : List (Nat × Nat) → Nat
  | [] => 0
  | q :: t => q.2 + tot t
theorem tot_app : ∀ (a b : List (Nat × Nat)), tot (a ++ b) = tot a + tot b
  | [], b => by simp [tot]
  | q :: a, b => by rw [List.cons_append, tot, tot, tot_app a b]; omega
def tyL (dA : Nat → ClassId) : List (ClassId × FieldType) := [(dA 10, .int), (dA 11, .char), (dA 10, .int), (dA 13, .object (rN (aCl 13))), (dA 14, .object (rN (aCl 14))), (dA 15, .object (rN (aCl 15)))]
theorem ty_ref (dA : Nat → ClassId) {k : Nat} (h1 : 13 ≤ k) (h2 : k < 16) : (tyL dA)[k - 10]? = some (dA k, .object (rN (aCl k))) := by
  rcases (by omega : k = 13 ∨ k = 14 ∨ k = 15) with rfl | rfl | rfl <;> rfl
/-- what the tables say of classes, links of nest mates, classes of arrays -/
def KF (D : va_G) (dA : Nat → ClassId) (U : State) : Prop := va_K D clz (tyL dA) U ∧ (∀ w ∈ nstW, va_Nw w U) ∧ (∀ k, 13 ≤ k → k < 16 → va_AO (rN (aCl k)) U) ∧ va_Nw (.castable "[I" "java/lang/Cloneable") U
theorem nst_kind : ∀ w ∈ nstW, (∃ a i b n d h, w = Cond.fieldLinkNest a i b n d h) ∨ (∃ a i x h, w = Cond.methodLinkNest a i x h) := by
  intro w hw
  unfold nstW at hw
  simp only [List.mem_cons, List.not_mem_nil, or_false] at hw
  rcases hw with rfl | rfl | rfl | rfl | rfl | rfl | rfl | rfl | rfl <;> first | exact Or.inl ⟨_, _, _, _, _, _, rfl⟩ | exact Or.inr ⟨_, _, _, _, rfl⟩
theorem KF.moved {D : va_G} {dA : Nat → ClassId} {s U : State} (hW : s.WarmedH U.vm) (h : KF D dA s) : KF D dA U := by
  refine ⟨va_K.moved hW.alike h.1, fun w hw => ?_, fun k h1 h2 => (h.2.2.1 k h1 h2).moved hW.alike, h.2.2.2.warmC hW⟩
  have h1 := h.2.1 w hw
  rcases nst_kind w hw with ⟨a, i, b, n, d, h, rfl⟩ | ⟨a, i, x, h, rfl⟩
  · exact va_Nw.warmF hW h1
  · exact va_Nw.warmM hW h1
theorem KF.same {D : va_G} {dA : Nat → ClassId} {u U : State} (hv : u.vm = U.vm) (h : KF D dA u) : KF D dA U := by
  have ha : u.vm.Alike U.vm := hv ▸ Vm.Alike.refl u.vm
  refine ⟨va_K.moved ha h.1, fun w hw => ?_, fun k h1 h2 => (h.2.2.1 k h1 h2).moved ha, h.2.2.2.same rfl hv⟩
  have h1 := h.2.1 w hw
  rcases nst_kind w hw with ⟨a, i, b, n, d, h, rfl⟩ | ⟨a, i, x, h, rfl⟩
  · exact va_Nw.same rfl hv h1
  · exact va_Nw.same rfl hv h1
/-- a written table, or the script -/
def CA (dA : Nat → ClassId) (n0 : Nat) (cad : Nat → Nat) (E : AEnv) (k : Nat) (U : State) (H : Heap) : Prop :=
  ∃ cell : Cell, H[cad k]? = some cell ∧ U.isArrayOf cell .int ∧ cell.vm ≠ .unknown ∧ cell.slots.size = (E k).1 ∧ (∀ j, j < (E k).1 → cell.slots[j]? = some (.int ((E k).2 j))) ∧ ¬ AA n0 (cad k) ∧ (k = 0 → cell.cls = dA 10)
def HF (dA : Nat → ClassId) (n0 : Nat) (cad : Nat → Nat) (E : AEnv) (U : State) (H : Heap) : Prop :=
  (∀ j, j < 3 → va_Z sCl (sNm j) "[I" (.ref (cad j)) (AA n0) U H) ∧ (∀ j, j < 4 → CA dA n0 cad E j U H)
theorem HF.moved {dA : Nat → ClassId} {n0 : Nat} {cad : Nat → Nat} {E : AEnv} {u U : State} {H : Heap} (hvm : u.vm.Alike U.vm) (h : HF dA n0 cad E u H) : HF dA n0 cad E U H := by
  refine ⟨fun j hj => (h.1 j hj).moved hvm, fun j hj => ?_⟩
  obtain ⟨cell, h1, h2, h3⟩ := h.2 j hj
  exact ⟨cell, h1, State.isArrayOf_alike hvm h2, h3⟩
theorem HF.kept {dA : Nat → ClassId} {n0 : Nat} {cad : Nat → Nat} {E : AEnv} {U : State} {H H1 : Heap} (h : HF dA n0 cad E U H) (hq : ∀ a : Nat, a < H.size → ¬ AA n0 a → H1[a]? = H[a]?) : HF dA n0 cad E U H1 := by
  refine ⟨fun j hj => (h.1 j hj).kept hq, fun j hj => ?_⟩
  obtain ⟨cell, h1, h2, h3, h4, h5, h6, h7⟩ := h.2 j hj
  exact ⟨cell, by rw [hq _ (Array.getElem?_eq_some_iff.mp h1).1 h6]; exact h1, h2, h3, h4, h5, h6, h7⟩
/-- the locals; of a filler (behind a long) nothing is said -/
def okV (v : Value) : Bool := match v with
  | .double _ => false
  | _ => true
theorem en_ok (n0 : Nat) (cad : Nat → Nat) (v : Value) : okV (en n0 cad v) = okV v := by cases v <;> rfl
def LH (n0 : Nat) (cad : Nat → Nat) (la : Array Slot) (nL : Nat) (ls : List Value) : Prop := la.size = nL ∧ lv_wf la ∧ ∀ (i : Nat) (v : Value), ls[i]? = some v → okV v = true → la[i]? = some (.val (en n0 cad v))
section LHS
variable {n0 : Nat} {cad : Nat → Nat} {la : Array Slot} {nL : Nat} {ls : List Value}
theorem LH.pre (h : LH n0 cad la nL ls) (k : Nat) : LH n0 cad la nL (ls.take k) := by
  refine ⟨h.1, h.2.1, fun i v hv => h.2.2 i v ?_⟩
  rw [List.getElem?_take] at hv
  split at hv
  · exact hv
  · cases hv
def lsP (n0 : Nat) (cad : Nat → Nat) (ls : List Value) : List (Nat × Value) := (List.range ls.length).filterMap fun i => match ls[i]? with
  | some v => if okV v = true then some (i, en n0 cad v) else none
  | none => none
theorem lsP_mem {i : Nat} {v : Value} (h : ls[i]? = some v) (hv : okV v = true) : (i, en n0 cad v) ∈ lsP n0 cad ls := by
  refine List.mem_filterMap.mpr ⟨i, List.mem_range.mpr (List.getElem?_eq_some_iff.mp h).1, ?_⟩
  rw [h]
  exact if_pos hv
theorem lsP_of {q : Nat × Value} (h : q ∈ lsP n0 cad ls) : ∃ (i : Nat) (v : Value), ls[i]? = some v ∧ okV v = true ∧ q = (i, en n0 cad v) := by
  obtain ⟨i, -, h2⟩ := List.mem_filterMap.mp h
  split at h2
  · rename_i v hv
    split at h2
    · rename_i hk
      exact ⟨i, v, hv, hk, (Option.some.inj h2).symm⟩
    · cases h2
  · cases h2
theorem LH.has (h : LH n0 cad la nL ls) : lv_has la nL (lsP n0 cad ls) := by
  refine ⟨h.1, h.2.1, fun q hq => ?_⟩
  obtain ⟨i, v, h1, h2, rfl⟩ := lsP_of hq
  exact h.2.2 i v h1 h2
theorem cat2_long {v : Value} (h : v.category = 2) (hk : okV v = true) : ∃ x, v = .long x := by
  cases v with
  | long x => exact ⟨x, rfl⟩
  | double x => cases hk
  | _ => cases h
/-- no long stands before the place of a store -/
theorem sto_pre (h : LH n0 cad la nL ls) {i : Nat} {v : Value} {ls' : List Value} (hs : sto ls i v = some ls') {j : Nat} {w : Value} (hw : ls[j]? = some w) (hk : okV w = true) (hj : j + 1 = i) : ¬ w.category = 2 := by
  intro hc
  obtain ⟨x, rfl⟩ := cat2_long hc hk
  subst hj
  unfold sto at hs
  split at hs
  · rename_i hl
    have hl : j + 1 < ls.length := by simpa using hl
    have hg : ls[j + 1]? = some ls[j + 1] := List.getElem?_eq_getElem hl
    have hne : okV ls[j + 1] = true := by
      rw [hg] at hs
      cases hq : ls[j + 1] with
      | double y => rw [hq] at hs; cases hs
      | _ => rfl
    have h1 := h.2.2 _ _ hg hne
    have h2 := h.2.1.1 j _ (h.2.2 j _ hw hk) rfl
    rw [h2] at h1
    cases h1
  · split at hs
    · rw [Nat.add_sub_cancel, hw] at hs
      cases hs
    · cases hs
theorem sto_key {i : Nat} {v : Value} {ls' : List Value} (hs : sto ls i v = some ls') {j : Nat} {w : Value} (hw : ls'[j]? = some w) : (j = i ∧ w = v) ∨ (j ≠ i ∧ ls[j]? = some w) := by
  unfold sto at hs
  split at hs
  · rename_i hl
    have hs : ls' = ls.set i v := by
      split at hs
      · cases hs
      · exact (Option.some.inj hs).symm
    subst hs
    by_cases hj : j = i
    · subst hj
      rw [List.getElem?_set_self (by simpa using hl)] at hw
      exact Or.inl ⟨rfl, (Option.some.inj hw).symm⟩
    · rw [List.getElem?_set_ne (Ne.symm hj)] at hw
      exact Or.inr ⟨hj, hw⟩
  · split at hs
    · rename_i hl
      have hs : ls' = ls ++ [v] := by
        split at hs
        · cases hs
        · exact (Option.some.inj hs).symm
      subst hs
      have hl : i = ls.length := Nat.eq_of_beq_eq_true hl
      by_cases hj : j < ls.length
      · rw [List.getElem?_append_left hj] at hw
        exact Or.inr ⟨by omega, hw⟩
      · rw [List.getElem?_append_right (by omega)] at hw
        have hz : j - ls.length < 1 := (List.getElem?_eq_some_iff.mp hw).1
        rw [show j - ls.length = 0 by omega] at hw
        exact Or.inl ⟨by omega, (Option.some.inj hw).symm⟩
    · cases hs
/-- behind a store of v at i -/
theorem LH.put (h : LH n0 cad la nL ls) {i : Nat} {v : Value} {ls' : List Value} {la' : Array Slot} (hs : sto ls i v = some ls')
    (h' : lv_has la' nL ((i, en n0 cad v) :: (lsP n0 cad ls).filter (fun q => !(q.1 == i) && !(q.1 + 1 == i && q.2.category == 2)))) : LH n0 cad la' nL ls' := by
  refine ⟨h'.1, h'.2.1, fun j w hw hk => ?_⟩
  rcases sto_key hs hw with ⟨rfl, rfl⟩ | ⟨hj, hw⟩
  · exact h'.2.2 (j, en n0 cad w) List.mem_cons_self
  · refine h'.2.2 (j, en n0 cad w) (List.mem_cons_of_mem _ (List.mem_filter.mpr ⟨lsP_mem hw hk, ?_⟩))
    by_cases hj2 : j + 1 = i
    · have e : ¬ (en n0 cad w).category = 2 := by rw [en_cat]; exact sto_pre h hs hw hk hj2
      simp [hj, e]
    · simp [hj, hj2]
/-- behind a store of a long -/
theorem LH.putL (h : LH n0 cad la nL ls) {i : Nat} {x : Int64} {ls' : List Value} {la' : Array Slot} (hs : stoL ls i x = some ls')
    (h' : lv_has la' nL ((i, .long x) :: (lsP n0 cad ls).filter (fun q => !(q.1 == i) && (!(q.1 == i + 1) && !(q.1 + 1 == i && q.2.category == 2))))) : LH n0 cad la' nL ls' := by
  refine ⟨h'.1, h'.2.1, fun j w hw hk => ?_⟩
  unfold stoL at hs
  cases hs1 : sto ls i (.long x) with
  | none => rw [hs1] at hs; cases hs
  | some l =>
    rw [hs1] at hs
    have key : j ≠ i + 1 ∧ l[j]? = some w := by
      dsimp only at hs
      split at hs
      · rename_i hl
        have hl : i + 1 < l.length := by simpa using hl
        have hs := (Option.some.inj hs).symm
        subst hs
        by_cases hj : j = i + 1
        · subst hj
          rw [List.getElem?_set_self hl] at hw
          cases hw
          cases hk
        · rw [List.getElem?_set_ne (Ne.symm hj)] at hw
          exact ⟨hj, hw⟩
      · rename_i hl
        have hl : ¬ i + 1 < l.length := fun z => by
          have z2 : Nat.blt (i + 1) l.length = true := by simpa using z
          rw [z2] at hl
          cases hl
        have hi : i < l.length := by
          unfold sto at hs1
          split at hs1
          · rename_i h1
            split at hs1
            · cases hs1
            · have h2 := (Option.some.inj hs1).symm
              subst h2
              simpa using h1
          · split at hs1
            · rename_i h1
              have h1 : i = ls.length := Nat.eq_of_beq_eq_true h1
              split at hs1
              · cases hs1
              · have h2 := (Option.some.inj hs1).symm
                subst h2
                simp; omega
            · cases hs1
        have hs := (Option.some.inj hs).symm
        subst hs
        by_cases hj : j < l.length
        · rw [List.getElem?_append_left hj] at hw
          exact ⟨by omega, hw⟩
        · rw [List.getElem?_append_right (by omega)] at hw
          have hz : j - l.length < 1 := (List.getElem?_eq_some_iff.mp hw).1
          rw [show j - l.length = 0 by omega] at hw
          cases hw
          cases hk
    obtain ⟨hj1, hw⟩ := key
    rcases sto_key hs1 hw with ⟨rfl, rfl⟩ | ⟨hj, hw⟩
    · exact h'.2.2 (j, .long x) List.mem_cons_self
    · refine h'.2.2 (j, en n0 cad w) (List.mem_cons_of_mem _ (List.mem_filter.mpr ⟨lsP_mem hw hk, ?_⟩))
      by_cases hj2 : j + 1 = i
      · have e : ¬ (en n0 cad w).category = 2 := by rw [en_cat]; exact sto_pre h hs1 hw hk hj2
        simp [hj, hj1, e]
      · simp [hj, hj1, hj2]
end LHS
theorem sto_set {ls : List Value} {i : Nat} {v w : Value} (h : ls[i]? = some w) (hk : okV w = true) : sto ls i v = some (ls.set i v) := by
  have hl : i < ls.length := (List.getElem?_eq_some_iff.mp h).1
  unfold sto
  rw [show Nat.blt i ls.length = true from by simpa using hl, h]
  cases w with
  | double y => cases hk
  | _ => rfl
/-- what holds all through a method's walk -/
def CXx (D : va_G) (dA : Nat → ClassId) (n0 : Nat) (cad : Nat → Nat) (E : AEnv) (p : Program) (R : Room) (s : State) (m : MethodId) (args : Array Value) (meth : Method) (c : Code) (mi : Nat) : Prop :=
  p.tables.exec = Jvm.exec ∧ c.code = mByt mi ∧ c.maxLocals = mMax mi ∧ s.vm.findClass (rN (mCls mi)) = some m.cls ∧ (∀ w ∈ TB, w.before args s = true) ∧ ((mNam mi).name = "<init>" → meth.name = "<init>") ∧ KF D dA s ∧ HF dA n0 cad E s s.heap ∧ n0 ≤ s.heap.size ∧ mDep mi ≤ R.frames ∧ 40 * mDep mi ≤ R.locals ∧ (E 0).1 = 8
/-- from a place of the code, in any heap that holds σ: to Q -/
def WW (D : va_G) (dA : Nat → ClassId) (n0 : Nat) (cad : Nat → Nat) (p : Program) (l : Launch) (e : Env) (R : Room) (s : State) (m : MethodId) (args : Array Value) (below : List Frame) (meth : Method) (c : Code) (Q : State → Prop) (mi z0 pc : Nat) (ls st : List Value) (σ : ASt) : Prop :=
  ∀ (H : Heap) (locs : List Loc) (cells slots : Nat) (la : Array Slot), va_P D clz (wsA dA n0 cad σ) H → va_S (AA n0) s.heap H locs → LH n0 cad la (mMax mi) ls → s.heap.size + cells = n0 + σ.1.length → z0 + slots = tot σ.1 → σ.1.length ≤ 1000 → W p l e R s m args below meth c H locs cells slots Q (F0 m pc la (st.map (en n0 cad)))
