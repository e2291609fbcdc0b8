/-! WHAT IS TO BE SHOWN of a stretch of code, as a proposition that unfolds by itself: 'vc'; it implies 'wp' -/
def sh (σ : ASt) (c k n : Nat) : Prop := σ.1[c]? = some (k, n)
def gI (σ : ASt) (c k : Nat) : Int32 := σ.2.1 c k
def rf (σ : ASt) (c k r : Nat) : Prop := σ.2.2 c k = r + 1
def QI (K : Int32 → ASt → Prop) : Option Value → ASt → Prop := fun r s => match r with
  | some (.int x) => K x s
  | _ => False
def QR (K : Nat → ASt → Prop) : Option Value → ASt → Prop := fun r s => match r with
  | some (.ref x) => K x s
  | _ => False
def QV (K : ASt → Prop) : Option Value → ASt → Prop := fun r s => match r with
  | none => K s
  | _ => False
def QL (K : Int64 → ASt → Prop) : Option Value → ASt → Prop := fun r s => match r with
  | some (.long x) => K x s
  | _ => False
/-- a call that answers an int; a reference; nothing -/
def cI (E : AEnv) (mi : Nat) (as : List Value) (σ : ASt) (K : Int32 → ASt → Prop) : Prop := wp E mi 0 as [] σ (QI K)
def cR (E : AEnv) (mi : Nat) (as : List Value) (σ : ASt) (K : Nat → ASt → Prop) : Prop := wp E mi 0 as [] σ (QR K)
def cV (E : AEnv) (mi : Nat) (as : List Value) (σ : ASt) (K : ASt → Prop) : Prop := wp E mi 0 as [] σ (QV K)
def cL (E : AEnv) (mi : Nat) (as : List Value) (σ : ASt) (K : Int64 → ASt → Prop) : Prop := wp E mi 0 as [] σ (QL K)
/-- the memory gets a name -/
def nw (σ : ASt) (K : ASt → Prop) : Prop := ∀ s, s = σ → K s
theorem nw_i {σ : ASt} {K : ASt → Prop} (h : K σ) : nw σ K := fun s hs => hs ▸ h
theorem nw_e {σ τ : ASt} {K : ASt → Prop} (he : σ = τ) (h : K τ) : nw σ K := fun s hs => (hs.trans he) ▸ h
def inI (a : Int) : Bool := decide (-2147483648 ≤ a ∧ a < 2147483648)
def swV (lo : Int) (x : Int32) (K : Nat → Prop) (d : Nat) : List Int → Int → Prop
  | [], _ => K d
  | t :: r, k => match inI (lo + k) with
    | true => (x = ic (lo + k) → K t.toNat) ∧ (¬ x = ic (lo + k) → swV lo x K d r (k + 1))
    | false => False
def lkV (x : Int32) (K : Nat → Prop) (d : Nat) : List (Int × Int) → Prop
  | [] => K d
  | t :: r => match inI t.1 with
    | true => (x = ic t.1 → K t.2.toNat) ∧ (¬ x = ic t.1 → lkV x K d r)
    | false => False
abbrev AK : Type := Nat → List Value → List Value → ASt → Prop
def v_alu (o : Instr) (pc : Nat) (ls st : List Value) (σ : ASt) (K : AK) : Prop := match st with
  | .int y :: .int x :: st => match o with
    | .idiv => ¬ y = 0 ∧ K pc ls (.int (x / y) :: st) σ
    | .irem => ¬ y = 0 ∧ K pc ls (.int (x - x / y * y) :: st) σ
    | o => match alu o x y with
      | some z => K pc ls (.int z :: st) σ
      | none => False
  | _ => False
def v_falu (o : Instr) (pc : Nat) (ls st : List Value) (σ : ASt) (K : AK) : Prop := match st with
  | .float y :: .float x :: st => match falu o x y with
    | some z => z &&& 0x7fffffff ≤ 0x7f800000 ∧ K pc ls (.float z :: st) σ
    | none => False
  | _ => False
def v_store (i pc : Nat) (ls st : List Value) (σ : ASt) (K : AK) : Prop := match st with
  | v :: st => match sto ls i v with
    | some ls' => K pc ls' st σ
    | none => False
  | _ => False
def v_aload (k pc : Nat) (ls st : List Value) (σ : ASt) (K : AK) : Prop := match st with
  | .int i :: .ref c :: st => ∃ n, sh σ c k n ∧ vp_in i n ∧ K pc ls (.int (gI σ c i.toNatClampNeg) :: st) σ
  | _ => False
def v_astore (k pc : Nat) (ls st : List Value) (σ : ASt) (K : AK) : Prop := match st with
  | .int x :: .int i :: .ref c :: st => ∃ n, sh σ c k n ∧ vp_in i n ∧ nw (wrI σ c i.toNatClampNeg (vp_nar (akT k) x)) (fun s => K pc ls st s)
  | _ => False
def v_cont (E : AEnv) (mi : Nat) (as : List Value) (pc : Nat) (ls rest : List Value) (σ : ASt) (K : AK) : Prop := match mRk mi with
  | 0 => cV E mi as σ (fun s => K pc ls rest s)
  | 3 => cR E mi as σ (fun x s => K pc ls (.ref x :: rest) s)
  | 4 => cL E mi as σ (fun x s => K pc ls (.long x :: rest) s)
  | _ => cI E mi as σ (fun x s => K pc ls (.int x :: rest) s)
def v_call (E : AEnv) (virt : Bool) (mi pc : Nat) (ls st : List Value) (σ : ASt) (K : AK) : Prop :=
  match (Nat.ble (mPar mi) st.length && ((st.take (mPar mi)).reverse).all (fun v => Nat.beq v.category 1) && Nat.ble (((st.drop (mPar mi)).map fun v => v.category).sum) 8) with
  | false => False
  | true => match virt with
    | false => v_cont E mi (st.take (mPar mi)).reverse pc ls (st.drop (mPar mi)) σ K
    | true => match (st.take (mPar mi)).reverse with
      | .ref c :: as => sh σ c (mCls mi) (nFl (mCls mi)) ∧ v_cont E mi (.ref c :: as) pc ls (st.drop (mPar mi)) σ K
      | _ => False
def vst (E : AEnv) (o : Instr) (pc : Nat) (ls st : List Value) (σ : ASt) (K : AK) (Q : Option Value → ASt → Prop) : Prop := match o with
  | .iconst n => K pc ls (.int (ic n) :: st) σ
  | .ldc n => K pc ls (.float (UInt32.ofNat n) :: st) σ
  | .iload i => match ls[i]? with
    | some (.int x) => K pc ls (.int x :: st) σ
    | _ => False
  | .aload i => match ls[i]? with
    | some (.ref x) => K pc ls (.ref x :: st) σ
    | _ => False
  | .fload i => match ls[i]? with
    | some (.float x) => K pc ls (.float x :: st) σ
    | _ => False
  | .istore i => match st with
    | .int x :: st => v_store i pc ls (.int x :: st) σ K
    | _ => False
  | .astore i => match st with
    | .ref x :: st => v_store i pc ls (.ref x :: st) σ K
    | _ => False
  | .fstore i => match st with
    | .float x :: st => v_store i pc ls (.float x :: st) σ K
    | _ => False
  | .iinc i n => match ls[i]? with
    | some (.int x) => K pc (ls.set i (.int (x + ic n))) st σ
    | _ => False
  | .iadd => v_alu .iadd pc ls st σ K
  | .isub => v_alu .isub pc ls st σ K
  | .imul => v_alu .imul pc ls st σ K
  | .iand => v_alu .iand pc ls st σ K
  | .ior => v_alu .ior pc ls st σ K
  | .ixor => v_alu .ixor pc ls st σ K
  | .ishl => v_alu .ishl pc ls st σ K
  | .ishr => v_alu .ishr pc ls st σ K
  | .iushr => v_alu .iushr pc ls st σ K
  | .idiv => v_alu .idiv pc ls st σ K
  | .irem => v_alu .irem pc ls st σ K
  | .ldc2_w n => K pc ls (.long (Int64.ofNat n) :: st) σ
  | .lload i => match ls[i]? with
    | some (.long x) => K pc ls (.long x :: st) σ
    | _ => False
  | .lstore i => match st with
    | .long x :: st => match stoL ls i x with
      | some ls' => K pc ls' st σ
      | none => False
    | _ => False
  | .ladd => match st with
    | .long y :: .long x :: st => K pc ls (.long (x + y) :: st) σ
    | _ => False
  | .lmul => match st with
    | .long y :: .long x :: st => K pc ls (.long (x * y) :: st) σ
    | _ => False
  | .lcmp => match st with
    | .long y :: .long x :: st => K pc ls (.int (lg_cmp x y) :: st) σ
    | _ => False
  | .i2l => match st with
    | .int x :: st => K pc ls (.long x.toInt64 :: st) σ
    | _ => False
  | .fdiv => v_falu .fdiv pc ls st σ K
  | .fmul => v_falu .fmul pc ls st σ K
  | .fsub => v_falu .fsub pc ls st σ K
  | .fcmp op => match st with
    | .float y :: .float x :: st => K pc ls (.int (Op.cmpValue (FP.fcmp x y) op) :: st) σ
    | _ => False
  | .i2f => match st with
    | .int x :: st => K pc ls (.float (FP.i2f x) :: st) σ
    | _ => False
  | .f2i => match st with
    | .float x :: st => K pc ls (.int (FP.f2i x) :: st) σ
    | _ => False
  | .i2c => match st with
    | .int x :: st => K pc ls (.int (x.toUInt32 % 65536).toInt32 :: st) σ
    | _ => False
  | .dup => match st with
    | v :: st => match Nat.beq v.category 1 with
      | true => K pc ls (v :: v :: st) σ
      | false => False
    | _ => False
  | .dup2 => match st with
    | v :: w :: st => match Nat.beq v.category 1 && Nat.beq w.category 1 with
      | true => K pc ls (v :: w :: v :: w :: st) σ
      | false => False
    | _ => False
  | .pop => match st with
    | v :: st => match Nat.beq v.category 1 with
      | true => K pc ls st σ
      | false => False
    | _ => False
  | .goto t => K t.toNat ls st σ
  | .ifCond c t => match st with
    | .int x :: st => (cnd c x 0 → K t.toNat ls st σ) ∧ (¬ cnd c x 0 → K pc ls st σ)
    | _ => False
  | .if_icmp c t => match st with
    | .int y :: .int x :: st => (cnd c x y → K t.toNat ls st σ) ∧ (¬ cnd c x y → K pc ls st σ)
    | _ => False
  | .tableswitch d lo _ ts => match st with
    | .int x :: st => swV lo x (fun t => K t ls st σ) d.toNat ts.toList 0
    | _ => False
  | .lookupswitch d ps => match st with
    | .int x :: st => lkV x (fun t => K t ls st σ) d.toNat ps.toList
    | _ => False
  | .getfield i => match st with
    | .ref c :: st => sh σ c (i / 100) (nFl (i / 100)) ∧ (match fTy (i / 100) (i % 100) with
      | 3 => ∃ r, rf σ c (i % 100) r ∧ K pc ls (.ref r :: st) σ
      | _ => K pc ls (.int (gI σ c (i % 100)) :: st) σ)
    | _ => False
  | .putfield i => match st with
    | v :: .ref c :: st => sh σ c (i / 100) (nFl (i / 100)) ∧ (match fTy (i / 100) (i % 100), v with
      | 3, .ref r => nw (wrR σ c (i % 100) r) (fun s => K pc ls st s)
      | 0, .int x => nw (wrI σ c (i % 100) x) (fun s => K pc ls st s)
      | 1, .int x => fN .boolean x = true ∧ nw (wrI σ c (i % 100) x) (fun s => K pc ls st s)
      | 2, .int x => fN .char x = true ∧ nw (wrI σ c (i % 100) x) (fun s => K pc ls st s)
      | _, _ => False)
    | _ => False
  | .getstatic j => K pc ls (.ref (1000 + j) :: st) σ
  | .iaload => v_aload 10 pc ls st σ K
  | .caload => v_aload 11 pc ls st σ K
  | .baload => v_aload 12 pc ls st σ K
  | .iastore => v_astore 10 pc ls st σ K
  | .castore => v_astore 11 pc ls st σ K
  | .bastore => v_astore 12 pc ls st σ K
  | .laload => match st with
    | .int i :: .ref c :: st => match Nat.ble 1000 c && Nat.blt c 1004 with
      | true => vp_in i (E (c - 1000)).1 ∧ K pc ls (.int ((E (c - 1000)).2 i.toNatClampNeg) :: st) σ
      | false => False
    | _ => False
  | .arraylength => match st with
    | .ref c :: st => match Nat.ble 1000 c && Nat.blt c 1004 with
      | true => K pc ls (.int (Int32.ofNat (E (c - 1000)).1) :: st) σ
      | false => False
    | _ => False
  | .instanceof k => match st with
    | .int i :: .ref c :: st => ∃ n r, sh σ c k n ∧ vp_in i n ∧ rf σ c i.toNatClampNeg r ∧ K pc ls (.ref r :: st) σ
    | _ => False
  | .multianewarray k _ => match st with
    | .ref v :: .int i :: .ref c :: st => ∃ n, sh σ c k n ∧ vp_in i n ∧ sh σ v (aCl k) (nFl (aCl k)) ∧ nw (wrR σ c i.toNatClampNeg v) (fun s => K pc ls st s)
    | _ => False
  | .invokedynamic 1 => match st with
    | .float b :: st => match Nat.ble ((st.map fun v => v.category).sum) 8 with
      | true => K pc ls (.int b.toInt32 :: st) σ
      | false => False
    | _ => False
  | .invokevirtual mi => v_call E true mi pc ls st σ K
  | .invokestatic mi => v_call E false mi pc ls st σ K
  | .ireturn => match st with
    | [.int v] => Q (some (.int v)) σ
    | _ => False
  | .freturn => match st with
    | [.int v] => fN .boolean v = true ∧ Q (some (.int v)) σ
    | _ => False
  | .areturn => match st with
    | [.ref v] => Q (some (.ref v)) σ
    | _ => False
  | .lreturn => match st with
    | [.long v] => Q (some (.long v)) σ
    | _ => False
  | .return_ => match st with
    | [] => Q none σ
    | _ => False
  | _ => False
def vc (E : AEnv) (mi : Nat) (stop : List Nat) (Q : Option Value → ASt → Prop) : Nat → Bool → AK
  | 0, _, pc, ls, st, σ => wp E mi pc ls st σ Q
  | n + 1, b, pc, ls, st, σ => match fnd (mCode mi) pc with
    | none => False
    | some (o, nx, ct) => match b && stop.any (Nat.beq pc) with
      | true => wp E mi pc (ls.take ct) st σ Q
      | false => vst E o nx (ls.take ct) st σ (vc E mi stop Q n true) Q
theorem inB_of {i : Int32} {n : Nat} (h : vp_in i n) : inB i n = true := decide_eq_true h
theorem cndB_iff (c : Jvm.ClassFile.Cond) (x y : Int32) : cndB c x y = true ↔ cnd c x y := by cases c <;> simp [cndB, cnd]
theorem ic_toInt {a : Int} (h : inI a = true) : (ic a).toInt = a := by
  have h : -2147483648 ≤ a ∧ a < 2147483648 := of_decide_eq_true h
  cases a with
  | ofNat k => exact Int32.toInt_ofNat_of_lt (by have h2 := h.2; simp at h2; omega)
  | negSucc k =>
    show (-(Int32.ofNat (k + 1))).toInt = _
    have h1 : (Int32.ofNat (k + 1)) = Int32.ofInt ((k + 1 : Nat) : Int) := rfl
    rw [h1, ← Int32.ofInt_neg, Int32.toInt_ofInt_of_le (by omega) (by omega)]
    omega
theorem swV_ok {lo : Int} {x : Int32} {K : Nat → Prop} {d : Nat} : ∀ (ts : List Int) (k : Int), swV lo x K d ts k → (∃ t, swT lo ts k x.toInt = some t ∧ K t.toNat) ∨ (swT lo ts k x.toInt = none ∧ K d)
  | [], k, h => Or.inr ⟨rfl, h⟩
  | t :: r, k, h => by
    rw [swV] at h
    cases hi : inI (lo + k) with
    | false => rw [hi] at h; exact h.elim
    | true =>
      rw [hi] at h
      rw [swT]
      by_cases hx : x = ic (lo + k)
      · exact Or.inl ⟨t, by rw [if_pos (by rw [hx]; exact ic_toInt hi)], h.1 hx⟩
      · rw [if_neg (fun z => hx (Int32.toInt_inj.mp (by rw [z, ic_toInt hi])))]
        exact swV_ok r (k + 1) (h.2 hx)
theorem lkV_ok {x : Int32} {K : Nat → Prop} {d : Int} : ∀ (ts : List (Int × Int)), lkV x K d.toNat ts → K (Op.lookupswitch.offset ts d x.toInt).toNat
  | [], h => h
  | (a, t) :: r, h => by
    rw [lkV] at h
    dsimp only at h
    cases hi : inI a with
    | false => rw [hi] at h; exact h.elim
    | true =>
      rw [hi] at h
      rw [Op.lookupswitch.offset_cons]
      by_cases hx : x = ic a
      · rw [if_pos (by rw [hx, ic_toInt hi])]; exact h.1 hx
      · rw [if_neg (fun z => hx (Int32.toInt_inj.mp (by rw [ic_toInt hi]; first | exact z | exact z.symm)))]
        exact lkV_ok r (h.2 hx)
section VC1
variable {E : AEnv} {mi pc0 nx ct : Nat} {ls0 : List Value} {Q : Option Value → ASt → Prop} {K : AK} {o : Instr}
theorem vs_go {st0 : List Value} {σ0 : ASt} (hf : fnd (mCode mi) pc0 = some (o, nx, ct)) (hK : ∀ pc ls st σ, K pc ls st σ → wp E mi pc ls st σ Q) {pc : Nat} {ls st : List Value} {σ : ASt} (hs : step E o nx (ls0.take ct) st0 σ0 = go pc ls st σ) (h : K pc ls st σ) : wp E mi pc0 ls0 st0 σ0 Q := wp_go hf hs (hK _ _ _ _ h)
theorem vs_alu {st : List Value} {σ : ASt} (hf : fnd (mCode mi) pc0 = some (o, nx, ct)) (hK : ∀ pc ls st σ, K pc ls st σ → wp E mi pc ls st σ Q) (hs : step E o nx (ls0.take ct) st σ = s_alu o nx (ls0.take ct) st σ) (h : v_alu o nx (ls0.take ct) st σ K) : wp E mi pc0 ls0 st σ Q := by
  unfold v_alu at h
  split at h
  · split at h
    · rename_i y x rest
      refine vs_go hf hK (hs.trans ?_) h.2
      simp only [s_alu, alu, if_neg h.1]
    · rename_i y x rest
      refine vs_go hf hK (hs.trans ?_) h.2
      simp only [s_alu, alu, if_neg h.1]
    · split at h
      · rename_i hz
        refine vs_go hf hK (hs.trans ?_) h
        simp only [s_alu, hz]
      · exact h.elim
  · exact h.elim
theorem vs_falu {st : List Value} {σ : ASt} (hf : fnd (mCode mi) pc0 = some (o, nx, ct)) (hK : ∀ pc ls st σ, K pc ls st σ → wp E mi pc ls st σ Q) (hs : step E o nx (ls0.take ct) st σ = s_falu o nx (ls0.take ct) st σ) (h : v_falu o nx (ls0.take ct) st σ K) : wp E mi pc0 ls0 st σ Q := by
  unfold v_falu at h
  split at h
  · split at h
    · rename_i hz
      refine vs_go hf hK (hs.trans ?_) h.2
      simp only [s_falu, hz, if_pos h.1]
    · exact h.elim
  · exact h.elim
theorem vs_store {st : List Value} {σ : ASt} {i : Nat} (hf : fnd (mCode mi) pc0 = some (o, nx, ct)) (hK : ∀ pc ls st σ, K pc ls st σ → wp E mi pc ls st σ Q) (hs : step E o nx (ls0.take ct) st σ = s_store i nx (ls0.take ct) st σ) (h : v_store i nx (ls0.take ct) st σ K) : wp E mi pc0 ls0 st σ Q := by
  unfold v_store at h
  split at h
  · split at h
    · rename_i hz
      refine vs_go hf hK (hs.trans ?_) h
      simp only [s_store, hz]
    · exact h.elim
  · exact h.elim
theorem vs_aload {st : List Value} {σ : ASt} {k : Nat} (hf : fnd (mCode mi) pc0 = some (o, nx, ct)) (hK : ∀ pc ls st σ, K pc ls st σ → wp E mi pc ls st σ Q) (hs : step E o nx (ls0.take ct) st σ = s_aload k nx (ls0.take ct) st σ) (h : v_aload k nx (ls0.take ct) st σ K) : wp E mi pc0 ls0 st σ Q := by
  unfold v_aload at h
  split at h
  · obtain ⟨n, h1, h2, h3⟩ := h
    refine vs_go hf hK (hs.trans ?_) h3
    unfold sh at h1
    simp only [s_aload, h1, inB_of h2, and_self, if_true]
    rfl
  · exact h.elim
theorem vs_astore {st : List Value} {σ : ASt} {k : Nat} (hf : fnd (mCode mi) pc0 = some (o, nx, ct)) (hK : ∀ pc ls st σ, K pc ls st σ → wp E mi pc ls st σ Q) (hs : step E o nx (ls0.take ct) st σ = s_astore k nx (ls0.take ct) st σ) (h : v_astore k nx (ls0.take ct) st σ K) : wp E mi pc0 ls0 st σ Q := by
  unfold v_astore at h
  split at h
  · obtain ⟨n, h1, h2, h3⟩ := h
    refine vs_go hf hK (hs.trans ?_) (h3 _ rfl)
    unfold sh at h1
    simp only [s_astore, h1, inB_of h2, and_self, if_true]
  · exact h.elim
theorem vs_cont {c : Nat} {as st rest : List Value} {σ : ASt} (hf : fnd (mCode mi) pc0 = some (o, nx, ct)) (hK : ∀ pc ls st σ, K pc ls st σ → wp E mi pc ls st σ Q) (hs : step E o nx (ls0.take ct) st σ = some (.inr (.inl (c, as, rest)))) (h : v_cont E c as nx (ls0.take ct) rest σ K) : wp E mi pc0 ls0 st σ Q := by
  unfold v_cont at h
  split at h
  · refine wp_cl hf hs (wp_mono h ?_)
    intro r s hq
    unfold QV at hq
    split at hq
    · exact hK _ _ _ _ hq
    · exact hq.elim
  · refine wp_cl hf hs (wp_mono h ?_)
    intro r s hq
    unfold QR at hq
    split at hq
    · exact hK _ _ _ _ hq
    · exact hq.elim
  · refine wp_cl hf hs (wp_mono h ?_)
    intro r s hq
    unfold QL at hq
    split at hq
    · exact hK _ _ _ _ hq
    · exact hq.elim
  · refine wp_cl hf hs (wp_mono h ?_)
    intro r s hq
    unfold QI at hq
    split at hq
    · exact hK _ _ _ _ hq
    · exact hq.elim
theorem vs_call {c : Nat} {st : List Value} {σ : ASt} (virt : Bool) (hf : fnd (mCode mi) pc0 = some (o, nx, ct)) (hK : ∀ pc ls st σ, K pc ls st σ → wp E mi pc ls st σ Q) (hs : step E o nx (ls0.take ct) st σ = s_call virt c st σ) (h : v_call E virt c nx (ls0.take ct) st σ K) : wp E mi pc0 ls0 st σ Q := by
  unfold v_call at h
  split at h
  · exact h.elim
  · rename_i hc
    split at h
    · refine vs_cont hf hK (hs.trans ?_) h
      simp only [s_call, hc]
    · split at h
      · rename_i r as ha
        refine vs_cont hf hK (hs.trans ?_) h.2
        have h1 := h.1
        unfold sh at h1
        rw [ha] at hc
        simp only [s_call, ha, hc, h1, if_true]
      · exact h.elim
end VC1
set_option maxHeartbeats 4000000 in
theorem vst_ok {E : AEnv} {mi pc0 nx ct : Nat} {ls0 : List Value} {Q : Option Value → ASt → Prop} {K : AK} {o : Instr} {st : List Value} {σ : ASt} (hf : fnd (mCode mi) pc0 = some (o, nx, ct)) (hK : ∀ pc ls st σ, K pc ls st σ → wp E mi pc ls st σ Q) (h : vst E o nx (ls0.take ct) st σ K Q) : wp E mi pc0 ls0 st σ Q := by
  unfold vst at h
  split at h
  · exact vs_go hf hK rfl h
  · exact vs_go hf hK rfl h
  · split at h
    · rename_i hz; exact vs_go hf hK (by simp only [step, hz]) h
    · exact h.elim
  · split at h
    · rename_i hz; exact vs_go hf hK (by simp only [step, hz]) h
    · exact h.elim
  · split at h
    · rename_i hz; exact vs_go hf hK (by simp only [step, hz]) h
    · exact h.elim
  · split at h
    · exact vs_store hf hK rfl h
    · exact h.elim
  · split at h
    · exact vs_store hf hK rfl h
    · exact h.elim
  · split at h
    · exact vs_store hf hK rfl h
    · exact h.elim
  · split at h
    · rename_i hz; exact vs_go hf hK (by simp only [step, hz]) h
    · exact h.elim
  · exact vs_alu hf hK rfl h
  · exact vs_alu hf hK rfl h
  · exact vs_alu hf hK rfl h
  · exact vs_alu hf hK rfl h
  · exact vs_alu hf hK rfl h
  · exact vs_alu hf hK rfl h
  · exact vs_alu hf hK rfl h
  · exact vs_alu hf hK rfl h
  · exact vs_alu hf hK rfl h
  · exact vs_alu hf hK rfl h
  · exact vs_alu hf hK rfl h
  · exact vs_go hf hK rfl h
  · split at h
    · rename_i hz; exact vs_go hf hK (by simp only [step, hz]) h
    · exact h.elim
  · split at h
    · split at h
      · rename_i hz; exact vs_go hf hK (by simp only [step, hz]) h
      · exact h.elim
    · exact h.elim
  · split at h
    · exact vs_go hf hK rfl h
    · exact h.elim
  · split at h
    · exact vs_go hf hK rfl h
    · exact h.elim
  · split at h
    · exact vs_go hf hK rfl h
    · exact h.elim
  · split at h
    · exact vs_go hf hK rfl h
    · exact h.elim
  · exact vs_falu hf hK rfl h
  · exact vs_falu hf hK rfl h
  · exact vs_falu hf hK rfl h
  · split at h
    · exact vs_go hf hK rfl h
    · exact h.elim
  · split at h
    · exact vs_go hf hK rfl h
    · exact h.elim
  · split at h
    · exact vs_go hf hK rfl h
    · exact h.elim
  · split at h
    · exact vs_go hf hK rfl h
    · exact h.elim
  · split at h
    · split at h
      · rename_i hz; exact vs_go hf hK (by simp only [step, hz]) h
      · exact h.elim
    · exact h.elim
  · split at h
    · split at h
      · rename_i hz; exact vs_go hf hK (by simp only [step, hz]) h
      · exact h.elim
    · exact h.elim
  · split at h
    · split at h
      · rename_i hz; exact vs_go hf hK (by simp only [step, hz]) h
      · exact h.elim
    · exact h.elim
  · exact vs_go hf hK rfl h
  · split at h
    · rename_i c t st x rest
      cases hc : cndB c x 0 with
      | true => exact vs_go hf hK (by simp only [step, hc]) (h.1 ((cndB_iff _ _ _).mp hc))
      | false => exact vs_go hf hK (by simp only [step, hc]) (h.2 (fun z => by rw [(cndB_iff _ _ _).mpr z] at hc; cases hc))
    · exact h.elim
  · split at h
    · rename_i c t st y x rest
      cases hc : cndB c x y with
      | true => exact vs_go hf hK (by simp only [step, hc]) (h.1 ((cndB_iff _ _ _).mp hc))
      | false => exact vs_go hf hK (by simp only [step, hc]) (h.2 (fun z => by rw [(cndB_iff _ _ _).mpr z] at hc; cases hc))
    · exact h.elim
  · split at h
    · rcases swV_ok _ _ h with ⟨t, h1, h2⟩ | ⟨h1, h2⟩
      · exact vs_go hf hK (by simp only [step, h1]) h2
      · exact vs_go hf hK (by simp only [step, h1]) h2
    · exact h.elim
  · split at h
    · exact vs_go hf hK rfl (lkV_ok _ h)
    · exact h.elim
  · split at h
    · obtain ⟨h1, h⟩ := h
      unfold sh at h1
      split at h
      · rename_i hty
        obtain ⟨r, h2, h3⟩ := h
        unfold rf at h2
        exact vs_go hf hK (by simp only [step, h1, if_true, hty, h2]) h3
      · rename_i hty
        refine vs_go hf hK ?_ h
        simp only [step, h1, if_true]
        rfl
    · exact h.elim
  · split at h
    · obtain ⟨h1, h⟩ := h
      unfold sh at h1
      split at h
      · rename_i hty; exact vs_go hf hK (by simp only [step, h1, if_true, hty]) (h _ rfl)
      · rename_i hty; exact vs_go hf hK (by simp only [step, h1, if_true, hty]) (h _ rfl)
      · rename_i hty; exact vs_go hf hK (by simp only [step, h1, if_true, hty, h.1]) (h.2 _ rfl)
      · rename_i hty; exact vs_go hf hK (by simp only [step, h1, if_true, hty, h.1]) (h.2 _ rfl)
      · exact h.elim
    · exact h.elim
  · exact vs_go hf hK rfl h
  · exact vs_aload hf hK rfl h
  · exact vs_aload hf hK rfl h
  · exact vs_aload hf hK rfl h
  · exact vs_astore hf hK rfl h
  · exact vs_astore hf hK rfl h
  · exact vs_astore hf hK rfl h
  · split at h
    · split at h
      · rename_i hz
        obtain ⟨h1, h⟩ := h
        simp only [Bool.and_eq_true, Nat.ble_eq, Nat.blt_eq] at hz
        exact vs_go hf hK (by simp only [step, hz.1, hz.2, inB_of h1, and_self, if_true]) h
      · exact h.elim
    · exact h.elim
  · split at h
    · split at h
      · rename_i hz
        simp only [Bool.and_eq_true, Nat.ble_eq, Nat.blt_eq] at hz
        exact vs_go hf hK (by simp only [step, hz.1, hz.2, and_self, if_true]) h
      · exact h.elim
    · exact h.elim
  · split at h
    · obtain ⟨n, r, h1, h2, h3, h⟩ := h
      unfold sh at h1
      unfold rf at h3
      exact vs_go hf hK (by simp only [step, h1, inB_of h2, and_self, if_true, h3]) h
    · exact h.elim
  · split at h
    · obtain ⟨n, h1, h2, h3, h⟩ := h
      unfold sh at h1 h3
      exact vs_go hf hK (by simp only [step, h1, inB_of h2, h3, and_self, if_true]) (h _ rfl)
    · exact h.elim
  · split at h
    · split at h
      · rename_i hz; exact vs_go hf hK (by simp only [step, hz]) h
      · exact h.elim
    · exact h.elim
  · exact vs_call true hf hK rfl h
  · exact vs_call false hf hK rfl h
  · split at h
    · exact wp_rt hf rfl h
    · exact h.elim
  · split at h
    · exact wp_rt hf (by simp only [step, h.1, if_true]) h.2
    · exact h.elim
  · split at h
    · exact wp_rt hf rfl h
    · exact h.elim
  · split at h
    · exact wp_rt hf rfl h
    · exact h.elim
  · split at h
    · exact wp_rt hf rfl h
    · exact h.elim
  · exact h.elim
theorem wp_cut {E : AEnv} {mi pc nx ct : Nat} {ls st : List Value} {σ : ASt} {Q : Option Value → ASt → Prop} {o : Instr} (hf : fnd (mCode mi) pc = some (o, nx, ct)) (h : wp E mi pc (ls.take ct) st σ Q) : wp E mi pc ls st σ Q := by
  obtain ⟨n, r, t, h1, h2⟩ := h
  refine ⟨n, r, t, ?_, h2⟩
  cases n with
  | zero => simp [ex] at h1
  | succ n =>
    rw [ex, hf] at h1
    rw [ex, hf]
    dsimp only at h1 ⊢
    rw [List.take_take, Nat.min_self] at h1
    exact h1
theorem vc_ok (E : AEnv) (mi : Nat) (stop : List Nat) (Q : Option Value → ASt → Prop) : ∀ (n : Nat) (b : Bool) (pc : Nat) (ls st : List Value) (σ : ASt), vc E mi stop Q n b pc ls st σ → wp E mi pc ls st σ Q
  | 0, _, _, _, _, _, h => h
  | n + 1, b, pc, ls, st, σ, h => by
    unfold vc at h
    split at h
    · exact h.elim
    · rename_i o nx ct hf
      split at h
      · exact wp_cut hf h
      · exact vst_ok hf (vc_ok E mi stop Q n true) h
/-! the same, where a conditional's way is said: 'D' has its place, and whether it jumps -/
def dcd : List (Nat × Bool) → Nat → Option Bool
  | [], _ => none
  | q :: t, pc => match Nat.beq q.1 pc with
    | true => some q.2
    | false => dcd t pc
def vdc (o : Instr) (d : Bool) (pc : Nat) (ls st : List Value) (σ : ASt) (K : AK) : Prop := match o with
  | .ifCond c t => match st with
    | .int x :: st => match d with
      | true => cnd c x 0 ∧ K t.toNat ls st σ
      | false => ¬ cnd c x 0 ∧ K pc ls st σ
    | _ => False
  | .if_icmp c t => match st with
    | .int y :: .int x :: st => match d with
      | true => cnd c x y ∧ K t.toNat ls st σ
      | false => ¬ cnd c x y ∧ K pc ls st σ
    | _ => False
  | _ => False
def vcD (E : AEnv) (mi : Nat) (stop : List Nat) (Q : Option Value → ASt → Prop) (D : List (Nat × Bool)) : Nat → Bool → AK
  | 0, _, pc, ls, st, σ => wp E mi pc ls st σ Q
  | n + 1, b, pc, ls, st, σ => match fnd (mCode mi) pc with
    | none => False
    | some (o, nx, ct) => match b && stop.any (Nat.beq pc) with
      | true => wp E mi pc (ls.take ct) st σ Q
      | false => match dcd D pc with
        | none => vst E o nx (ls.take ct) st σ (vcD E mi stop Q D n true) Q
        | some d => vdc o d nx (ls.take ct) st σ (vcD E mi stop Q D n true)
theorem vdc_ok {E : AEnv} {mi pc0 nx ct : Nat} {ls0 : List Value} {Q : Option Value → ASt → Prop} {K : AK} {o : Instr} {st : List Value} {σ : ASt} {d : Bool} (hf : fnd (mCode mi) pc0 = some (o, nx, ct)) (hK : ∀ pc ls st σ, K pc ls st σ → wp E mi pc ls st σ Q) (h : vdc o d nx (ls0.take ct) st σ K) : wp E mi pc0 ls0 st σ Q := by
  refine vst_ok (K := K) hf hK ?_
  unfold vdc at h
  split at h
  · split at h
    · cases d with
      | true => exact ⟨fun _ => h.2, fun z => absurd h.1 z⟩
      | false => exact ⟨fun z => absurd z h.1, fun _ => h.2⟩
    · exact h.elim
  · split at h
    · cases d with
      | true => exact ⟨fun _ => h.2, fun z => absurd h.1 z⟩
      | false => exact ⟨fun z => absurd z h.1, fun _ => h.2⟩
    · exact h.elim
  · exact h.elim
theorem vcD_ok (E : AEnv) (mi : Nat) (stop : List Nat) (Q : Option Value → ASt → Prop) (D : List (Nat × Bool)) : ∀ (n : Nat) (b : Bool) (pc : Nat) (ls st : List Value) (σ : ASt), vcD E mi stop Q D n b pc ls st σ → wp E mi pc ls st σ Q
  | 0, _, _, _, _, _, h => h
  | n + 1, b, pc, ls, st, σ, h => by
    unfold vcD at h
    split at h
    · exact h.elim
    · rename_i o nx ct hf
      split at h
      · exact wp_cut hf h
      · split at h
        · exact vst_ok hf (vcD_ok E mi stop Q D n true) h
        · exact vdc_ok hf (vcD_ok E mi stop Q D n true) h
