/-! A SMALL MACHINE beside the JVM: cells by number (no addresses), ints and references apart; 'ex' runs a method's normalised code. A method's contract is then said of 'ex' alone; the tie to the JVM is one theorem (part snd). -/
abbrev ASt : Type := List (Nat × Nat) × (Nat → Nat → Int32) × (Nat → Nat → Nat)
abbrev AEnv : Type := Nat → Nat × (Nat → Int32)
abbrev ARes : Type := (Nat × List Value × List Value × ASt) ⊕ (Nat × List Value × List Value) ⊕ (Option Value)
def wrI (σ : ASt) (c k : Nat) (x : Int32) : ASt := (σ.1, (fun q => if q = c then upd (σ.2.1 c) k x else σ.2.1 q), σ.2.2)
def wrR (σ : ASt) (c k r : Nat) : ASt := (σ.1, σ.2.1, (fun q => if q = c then va_up (σ.2.2 c) k (r + 1) else σ.2.2 q))
def pushC (σ : ASt) (k n : Nat) (f : Nat → Int32) : ASt := (σ.1 ++ [(k, n)], (fun q => if q = σ.1.length then f else σ.2.1 q), (fun q => if q = σ.1.length then (fun _ => 0) else σ.2.2 q))
/-- a written number -/
def ic (n : Int) : Int32 := match n with
  | .ofNat k => Int32.ofNat k
  | .negSucc k => -(Int32.ofNat (k + 1))
def fnd : List AEnt → Nat → Option (Instr × Nat × Nat)
  | [], _ => none
  | e :: t, pc => match Nat.beq e.1 pc with
    | true => some e.2
    | false => fnd t pc
def alu (o : Instr) (x y : Int32) : Option Int32 := match o with
  | .iadd => some (x + y)
  | .isub => some (x - y)
  | .imul => some (x * y)
  | .iand => some (x &&& y)
  | .ior => some (x ||| y)
  | .ixor => some (x ^^^ y)
  | .ishl => some (x <<< (y &&& 31))
  | .ishr => some (x >>> (y &&& 31))
  | .iushr => some (x.toUInt32 >>> (y.toUInt32 &&& Int32.toUInt32 31)).toInt32
  | .idiv => if y = 0 then none else some (x / y)
  | .irem => if y = 0 then none else some (x - x / y * y)
  | _ => none
def cnd (c : Jvm.ClassFile.Cond) (x y : Int32) : Prop := match c with
  | .eq => x = y
  | .ne => x ≠ y
  | .lt => x < y
  | .ge => y ≤ x
  | .gt => y < x
  | .le => x ≤ y
def cndB (c : Jvm.ClassFile.Cond) (x y : Int32) : Bool := match c with
  | .eq => decide (x = y)
  | .ne => decide (x ≠ y)
  | .lt => decide (x < y)
  | .ge => decide (y ≤ x)
  | .gt => decide (y < x)
  | .le => decide (x ≤ y)
def go (pc : Nat) (ls st : List Value) (σ : ASt) : Option ARes := some (.inl (pc, ls, st, σ))
def sto (ls : List Value) (i : Nat) (v : Value) : Option (List Value) := match Nat.blt i ls.length with
  | true => match ls[i]? with
    | some (.double _) => none
    | _ => some (ls.set i v)
  | false => match Nat.beq i ls.length with
    | true => match ls[i - 1]? with
      | some (.long _) => none
      | _ => some (ls ++ [v])
    | false => none
/-- a long at i; behind it a filler, of which nothing is said -/
def stoL (ls : List Value) (i : Nat) (x : Int64) : Option (List Value) := match sto ls i (.long x) with
  | none => none
  | some l => match Nat.blt (i + 1) l.length with
    | true => some (l.set (i + 1) (.double 0))
    | false => some (l ++ [.double 0])
def falu (o : Instr) (x y : UInt32) : Option UInt32 := match o with
  | .fdiv => some (FP.fdiv x y)
  | .fmul => some (FP.fmul x y)
  | .fsub => some (FP.fsub x y)
  | _ => none
def inB (i : Int32) (n : Nat) : Bool := decide (¬ (i < 0 ∨ n ≤ i.toNatClampNeg))
/-- an array's type by its kind -/
def akT (k : Nat) : FieldType := match k with
  | 10 => .int
  | 11 => .char
  | _ => .boolean
def fN (ty : FieldType) (x : Int32) : Bool := decide (narrow ty (.int x) = .int x) && fits ty (.int x)
def swT (lo : Int) : List Int → Int → Int → Option Int
  | [], _, _ => none
  | t :: r, k, x => if x = lo + k then some t else swT lo r (k + 1) x
def s_alu (o : Instr) (pc : Nat) (ls st : List Value) (σ : ASt) : Option ARes := match st with
  | .int y :: .int x :: st => match alu o x y with
    | some z => go pc ls (.int z :: st) σ
    | none => none
  | _ => none
def s_falu (o : Instr) (pc : Nat) (ls st : List Value) (σ : ASt) : Option ARes := match st with
  | .float y :: .float x :: st => match falu o x y with
    | some z => if z &&& 0x7fffffff ≤ 0x7f800000 then go pc ls (.float z :: st) σ else none
    | none => none
  | _ => none
def s_store (i pc : Nat) (ls st : List Value) (σ : ASt) : Option ARes := match st with
  | v :: st => match sto ls i v with
    | some ls' => go pc ls' st σ
    | none => none
  | _ => none
def s_aload (k pc : Nat) (ls st : List Value) (σ : ASt) : Option ARes := match st with
  | .int i :: .ref c :: st => match σ.1[c]? with
    | some (k', n) => if k' = k ∧ inB i n = true then go pc ls (.int (σ.2.1 c i.toNatClampNeg) :: st) σ else none
    | none => none
  | _ => none
def s_astore (k pc : Nat) (ls st : List Value) (σ : ASt) : Option ARes := match st with
  | .int x :: .int i :: .ref c :: st => match σ.1[c]? with
    | some (k', n) => if k' = k ∧ inB i n = true then go pc ls st (wrI σ c i.toNatClampNeg (vp_nar (akT k) x)) else none
    | none => none
  | _ => none
def s_call (virt : Bool) (mi : Nat) (st : List Value) (σ : ASt) : Option ARes :=
  let n := mPar mi
  let args := (st.take n).reverse
  let rest := st.drop n
  match (Nat.ble n st.length && args.all (fun v => Nat.beq v.category 1) && Nat.ble ((rest.map fun v => v.category).sum) 8) with
  | false => none
  | true => match virt with
    | false => some (.inr (.inl (mi, args, rest)))
    | true => match args with
      | .ref c :: _ => if σ.1[c]? = some (mCls mi, nFl (mCls mi)) then some (.inr (.inl (mi, args, rest))) else none
      | _ => none
def step (E : AEnv) (o : Instr) (pc : Nat) (ls st : List Value) (σ : ASt) : Option ARes := match o with
  | .iconst n => go pc ls (.int (ic n) :: st) σ
  | .ldc n => go pc ls (.float (UInt32.ofNat n) :: st) σ
  | .iload i => match ls[i]? with
    | some (.int x) => go pc ls (.int x :: st) σ
    | _ => none
  | .aload i => match ls[i]? with
    | some (.ref x) => go pc ls (.ref x :: st) σ
    | _ => none
  | .fload i => match ls[i]? with
    | some (.float x) => go pc ls (.float x :: st) σ
    | _ => none
  | .istore i => match st with
    | .int x :: st => s_store i pc ls (.int x :: st) σ
    | _ => none
  | .astore i => match st with
    | .ref x :: st => s_store i pc ls (.ref x :: st) σ
    | _ => none
  | .fstore i => match st with
    | .float x :: st => s_store i pc ls (.float x :: st) σ
    | _ => none
  | .iinc i n => match ls[i]? with
    | some (.int x) => go pc (ls.set i (.int (x + ic n))) st σ
    | _ => none
  | .iadd => s_alu .iadd pc ls st σ
  | .isub => s_alu .isub pc ls st σ
  | .imul => s_alu .imul pc ls st σ
  | .iand => s_alu .iand pc ls st σ
  | .ior => s_alu .ior pc ls st σ
  | .ixor => s_alu .ixor pc ls st σ
  | .ishl => s_alu .ishl pc ls st σ
  | .ishr => s_alu .ishr pc ls st σ
  | .iushr => s_alu .iushr pc ls st σ
  | .idiv => s_alu .idiv pc ls st σ
  | .irem => s_alu .irem pc ls st σ
  | .ldc2_w n => go pc ls (.long (Int64.ofNat n) :: st) σ
  | .lload i => match ls[i]? with
    | some (.long x) => go pc ls (.long x :: st) σ
    | _ => none
  | .lstore i => match st with
    | .long x :: st => match stoL ls i x with
      | some ls' => go pc ls' st σ
      | none => none
    | _ => none
  | .ladd => match st with
    | .long y :: .long x :: st => go pc ls (.long (x + y) :: st) σ
    | _ => none
  | .lmul => match st with
    | .long y :: .long x :: st => go pc ls (.long (x * y) :: st) σ
    | _ => none
  | .lcmp => match st with
    | .long y :: .long x :: st => go pc ls (.int (lg_cmp x y) :: st) σ
    | _ => none
  | .i2l => match st with
    | .int x :: st => go pc ls (.long x.toInt64 :: st) σ
    | _ => none
  | .fdiv => s_falu .fdiv pc ls st σ
  | .fmul => s_falu .fmul pc ls st σ
  | .fsub => s_falu .fsub pc ls st σ
  | .fcmp op => match st with
    | .float y :: .float x :: st => go pc ls (.int (Op.cmpValue (FP.fcmp x y) op) :: st) σ
    | _ => none
  | .i2f => match st with
    | .int x :: st => go pc ls (.float (FP.i2f x) :: st) σ
    | _ => none
  | .f2i => match st with
    | .float x :: st => go pc ls (.int (FP.f2i x) :: st) σ
    | _ => none
  | .i2c => match st with
    | .int x :: st => go pc ls (.int (x.toUInt32 % 65536).toInt32 :: st) σ
    | _ => none
  | .dup => match st with
    | v :: st => match Nat.beq v.category 1 with
      | true => go pc ls (v :: v :: st) σ
      | false => none
    | _ => none
  | .dup2 => match st with
    | v :: w :: st => match Nat.beq v.category 1 && Nat.beq w.category 1 with
      | true => go pc ls (v :: w :: v :: w :: st) σ
      | false => none
    | _ => none
  | .pop => match st with
    | v :: st => match Nat.beq v.category 1 with
      | true => go pc ls st σ
      | false => none
    | _ => none
  | .goto t => go t.toNat ls st σ
  | .ifCond c t => match st with
    | .int x :: st => match cndB c x 0 with
      | true => go t.toNat ls st σ
      | false => go pc ls st σ
    | _ => none
  | .if_icmp c t => match st with
    | .int y :: .int x :: st => match cndB c x y with
      | true => go t.toNat ls st σ
      | false => go pc ls st σ
    | _ => none
  | .tableswitch d lo _ ts => match st with
    | .int x :: st => match swT lo ts.toList 0 x.toInt with
      | some t => go t.toNat ls st σ
      | none => go d.toNat ls st σ
    | _ => none
  | .lookupswitch d ps => match st with
    | .int x :: st => go (Op.lookupswitch.offset ps.toList d x.toInt).toNat ls st σ
    | _ => none
  | .getfield i => match st with
    | .ref c :: st => if σ.1[c]? = some (i / 100, nFl (i / 100)) then (match fTy (i / 100) (i % 100) with
      | 3 => match σ.2.2 c (i % 100) with
        | 0 => none
        | r + 1 => go pc ls (.ref r :: st) σ
      | _ => go pc ls (.int (σ.2.1 c (i % 100)) :: st) σ) else none
    | _ => none
  | .putfield i => match st with
    | v :: .ref c :: st => if σ.1[c]? = some (i / 100, nFl (i / 100)) then (match fTy (i / 100) (i % 100), v with
      | 3, .ref r => go pc ls st (wrR σ c (i % 100) r)
      | 0, .int x => go pc ls st (wrI σ c (i % 100) x)
      | 1, .int x => if fN .boolean x = true then go pc ls st (wrI σ c (i % 100) x) else none
      | 2, .int x => if fN .char x = true then go pc ls st (wrI σ c (i % 100) x) else none
      | _, _ => none) else none
    | _ => none
  | .getstatic j => go pc ls (.ref (1000 + j) :: st) σ
  | .iaload => s_aload 10 pc ls st σ
  | .caload => s_aload 11 pc ls st σ
  | .baload => s_aload 12 pc ls st σ
  | .iastore => s_astore 10 pc ls st σ
  | .castore => s_astore 11 pc ls st σ
  | .bastore => s_astore 12 pc ls st σ
  | .laload => match st with
    | .int i :: .ref c :: st => if 1000 ≤ c ∧ c < 1004 ∧ inB i (E (c - 1000)).1 = true then go pc ls (.int ((E (c - 1000)).2 i.toNatClampNeg) :: st) σ else none
    | _ => none
  | .arraylength => match st with
    | .ref c :: st => if 1000 ≤ c ∧ c < 1004 then go pc ls (.int (Int32.ofNat (E (c - 1000)).1) :: st) σ else none
    | _ => none
  | .instanceof k => match st with
    | .int i :: .ref c :: st => match σ.1[c]? with
      | some (k', n) => if k' = k ∧ inB i n = true then (match σ.2.2 c i.toNatClampNeg with
        | 0 => none
        | r + 1 => go pc ls (.ref r :: st) σ) else none
      | none => none
    | _ => none
  | .multianewarray k _ => match st with
    | .ref v :: .int i :: .ref c :: st => match σ.1[c]? with
      | some (k', n) => if k' = k ∧ inB i n = true ∧ σ.1[v]? = some (aCl k, nFl (aCl k)) then go pc ls st (wrR σ c i.toNatClampNeg v) else none
      | none => none
    | _ => none
  | .newarray ty => match st with
    | .int n :: st => if ¬ n < 0 ∧ n.toNatClampNeg ≤ 100000 then go pc ls (.ref σ.1.length :: st) (pushC σ (match ty with | .int => 10 | .char => 11 | _ => 12) n.toNatClampNeg (fun _ => 0)) else none
    | _ => none
  | .anewarray k => match st with
    | .int n :: st => if ¬ n < 0 ∧ n.toNatClampNeg ≤ 100000 then go pc ls (.ref σ.1.length :: st) (pushC σ k n.toNatClampNeg (fun _ => 0)) else none
    | _ => none
  | .new ci => go pc ls (.ref σ.1.length :: st) (pushC σ ci (nFl ci) (fun _ => 0))
  | .nop => match st with
    | .ref _ :: st => match Nat.ble ((st.map fun v => v.category).sum) 8 with
      | true => go pc ls st σ
      | false => none
    | _ => none
  | .invokedynamic 0 => match st with
    | .ref 1000 :: st => match Nat.ble ((st.map fun v => v.category).sum) 8 with
      | true => go pc ls (.ref σ.1.length :: st) (pushC σ 10 8 (E 0).2)
      | false => none
    | _ => none
  | .invokedynamic 1 => match st with
    | .float b :: st => match Nat.ble ((st.map fun v => v.category).sum) 8 with
      | true => go pc ls (.int b.toInt32 :: st) σ
      | false => none
    | _ => none
  | .checkcast _ => match st with
    | .ref c :: st => match σ.1[c]? with
      | some (10, _) => go pc ls (.ref c :: st) σ
      | _ => none
    | _ => none
  | .invokevirtual mi => s_call true mi st σ
  | .invokestatic mi => s_call false mi st σ
  | .ireturn => match st with
    | [.int v] => some (.inr (.inr (some (.int v))))
    | _ => none
  | .freturn => match st with
    | [.int v] => if fN .boolean v = true then some (.inr (.inr (some (.int v)))) else none
    | _ => none
  | .areturn => match st with
    | [.ref v] => some (.inr (.inr (some (.ref v))))
    | _ => none
  | .lreturn => match st with
    | [.long v] => some (.inr (.inr (some (.long v))))
    | _ => none
  | .return_ => match st with
    | [] => some (.inr (.inr none))
    | _ => none
  | _ => none
def ex (E : AEnv) : Nat → Nat → Nat → List Value → List Value → ASt → Option (Option Value × ASt)
  | 0, _, _, _, _, _ => none
  | n + 1, mi, pc, ls, st, σ => match fnd (mCode mi) pc with
    | none => none
    | some (o, nx, ct) => match step E o nx (ls.take ct) st σ with
      | none => none
      | some (.inl (pc', ls', st', σ')) => ex E n mi pc' ls' st' σ'
      | some (.inr (.inl (c, as, st'))) => match ex E n c 0 as [] σ with
        | none => none
        | some (r, σ1) => ex E n mi nx (ls.take ct) (r.toList ++ st') σ1
      | some (.inr (.inr r)) => some (r, σ)
theorem ex_succ (E : AEnv) : ∀ (n mi pc : Nat) (ls st : List Value) (σ : ASt) (x : Option Value × ASt), ex E n mi pc ls st σ = some x → ex E (n + 1) mi pc ls st σ = some x := by
  intro n
  induction n with
  | zero => intro mi pc ls st σ x h; simp [ex] at h
  | succ n ih =>
    intro mi pc ls st σ x h
    rw [ex] at h
    rw [ex]
    cases hf : fnd (mCode mi) pc with
    | none => rw [hf] at h; cases h
    | some q =>
      obtain ⟨o, nx, ct⟩ := q
      rw [hf] at h
      dsimp only at h ⊢
      cases hs : step E o nx (ls.take ct) st σ with
      | none => rw [hs] at h; cases h
      | some r =>
        rw [hs] at h
        rcases r with ⟨pc', ls', st', σ'⟩ | ⟨c, as, st'⟩ | r
        · exact ih _ _ _ _ _ _ h
        · dsimp only at h ⊢
          cases hc : ex E n c 0 as [] σ with
          | none => rw [hc] at h; cases h
          | some y =>
            rw [hc] at h
            rw [ih _ _ _ _ _ _ hc]
            exact ih _ _ _ _ _ _ h
        · exact h
theorem ex_le (E : AEnv) {n k mi pc : Nat} {ls st : List Value} {σ : ASt} {x : Option Value × ASt} (h : ex E n mi pc ls st σ = some x) (hk : n ≤ k) : ex E k mi pc ls st σ = some x := by
  induction hk with
  | refl => exact h
  | step _ ih => exact ex_succ E _ _ _ _ _ _ _ ih
/-- from here on, the method ends, with Q -/
def wp (E : AEnv) (mi pc : Nat) (ls st : List Value) (σ : ASt) (Q : Option Value → ASt → Prop) : Prop := ∃ (n : Nat) (r : Option Value) (σ' : ASt), ex E n mi pc ls st σ = some (r, σ') ∧ Q r σ'
theorem wp_go {E : AEnv} {mi pc : Nat} {ls st : List Value} {σ : ASt} {Q : Option Value → ASt → Prop} {o : Instr} {nx ct pc' : Nat} {ls' st' : List Value} {σ' : ASt} (hf : fnd (mCode mi) pc = some (o, nx, ct)) (hs : step E o nx (ls.take ct) st σ = some (.inl (pc', ls', st', σ'))) (h : wp E mi pc' ls' st' σ' Q) : wp E mi pc ls st σ Q := by
  obtain ⟨n, r, t, h1, h2⟩ := h
  exact ⟨n + 1, r, t, by rw [ex, hf]; dsimp only; rw [hs]; exact h1, h2⟩
theorem wp_cl {E : AEnv} {mi pc : Nat} {ls st : List Value} {σ : ASt} {Q : Option Value → ASt → Prop} {o : Instr} {nx ct c : Nat} {as st' : List Value} (hf : fnd (mCode mi) pc = some (o, nx, ct)) (hs : step E o nx (ls.take ct) st σ = some (.inr (.inl (c, as, st')))) (h : wp E c 0 as [] σ (fun r σ1 => wp E mi nx (ls.take ct) (r.toList ++ st') σ1 Q)) : wp E mi pc ls st σ Q := by
  obtain ⟨n, r, t, h1, n2, r2, t2, h3, h4⟩ := h
  refine ⟨(n + n2) + 1, r2, t2, ?_, h4⟩
  rw [ex, hf]
  dsimp only
  rw [hs]
  dsimp only
  rw [ex_le E h1 (Nat.le_add_right n n2)]
  exact ex_le E h3 (Nat.le_add_left n2 n)
theorem wp_rt {E : AEnv} {mi pc : Nat} {ls st : List Value} {σ : ASt} {Q : Option Value → ASt → Prop} {o : Instr} {nx ct : Nat} {r : Option Value} (hf : fnd (mCode mi) pc = some (o, nx, ct)) (hs : step E o nx (ls.take ct) st σ = some (.inr (.inr r))) (h : Q r σ) : wp E mi pc ls st σ Q :=
  ⟨1, r, σ, by rw [ex, hf]; dsimp only; rw [hs], h⟩
theorem wp_mono {E : AEnv} {mi pc : Nat} {ls st : List Value} {σ : ASt} {Q Q' : Option Value → ASt → Prop} (h : wp E mi pc ls st σ Q) (hQ : ∀ r s, Q r s → Q' r s) : wp E mi pc ls st σ Q' := by
  obtain ⟨n, r, t, h1, h2⟩ := h
  exact ⟨n, r, t, h1, hQ _ _ h2⟩
