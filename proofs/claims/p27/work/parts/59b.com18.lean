/-! the component's changes -/
section COM18
variable {E : AEnv} {σ τ : ASt} {B : Nat} {U U' : Nat → Nat → Int32} {V W : Nat → Nat} {m n t : Nat} {Q : Option Value → ASt → Prop} {K : Int32 → ASt → Prop} {KV : ASt → Prop}
theorem cop_y {e : Int32} (h : nI 0 ≤ e) {a : Nat} (hK : ∀ U', Rel U' (opV e V W) → K (opA e a) (bS σ B U')) : ∀ U', Rel U' W → K (nI a) (bS σ B U') := by
  unfold opV opA at hK
  rw [if_pos h, if_pos h] at hK
  exact hK
theorem cop_n {e : Int32} (h : ¬ nI 0 ≤ e) (R : Rel U V) {a : Nat} (hK : ∀ U', Rel U' (opV e V W) → K (opA e a) (bS σ B U')) : K e (bS σ B U) := by
  unfold opV opA at hK
  rw [if_neg h, if_neg h] at hK
  exact hK U R
theorem le00 : nI 0 ≤ nI 0 := by decide
theorem inRg_lt {x : Int32} {a b : Nat} (ha : a < 2 ^ 31) (hb : b < 2 ^ 31) (h : x < nI a) : ¬ inRg x (nI a) (nI b) = true := fun z => by
  obtain ⟨j, h1, h2, rfl⟩ := (inRg_nn ha hb).mp z
  rw [nI_ltI (by omega) ha] at h
  omega
theorem inRg_gt {x : Int32} {a b : Nat} (ha : a < 2 ^ 31) (hb : b < 2 ^ 31) (h : ¬ x ≤ nI b) : ¬ inRg x (nI a) (nI b) = true := fun z => by
  obtain ⟨j, h1, h2, rfl⟩ := (inRg_nn ha hb).mp z
  exact h (nI_le h2 hb)
theorem inRg_mk {x : Int32} {a b : Nat} (ha : a < 2 ^ 31) (hb : b < 2 ^ 31) (h : ¬ x < nI a) (h2 : x ≤ nI b) : inRg x (nI a) (nI b) = true := by
  refine (inRg_nn ha hb).mpr ?_
  have h3 : ¬ x < nI 0 := fun z => h (by
    rw [Int32.lt_iff_toInt_lt] at z ⊢
    rw [nI_toInt ha]
    rw [nI_toInt (by decide)] at z
    omega)
  obtain ⟨j, hj, rfl⟩ := nI_of h3
  rw [nI_ltI hj ha] at h
  rw [nI_leI hj hb] at h2
  exact ⟨j, by omega, h2, rfl⟩
theorem c_isl (H : MI σ) (hB : isB B) (hw : WF m V) (R : Rel U V) {x : Int32} (hK : ∀ U', Rel U' (opV (eIsl V x) V (dIsl V (toN x))) → K (opA (eIsl V x) (V 1)) (bS σ B U')) : cI E 22 [.ref B, .int x] (bS σ B U) K := by
  have h1 := hw.1
  unfold W1 at h1
  have rg := R.1
  unfold RG at rg
  have e8 := nI_ltI (a := V 1) (b := 8) (by omega) (by decide)
  have no : ¬ inRg x (nI 0) (nI 99) = true → K (-1000001 : Int32) (bS σ B U) := fun h => by
    have e : eIsl V x = (-1000001 : Int32) := by unfold eIsl; rw [if_neg h]
    have := cop_n (by rw [e]; exact lt01) R hK
    rw [e] at this
    exact this
  refine sg22_0 ⟨fun g => no (inRg_lt (by decide) (by decide) g), fun g => ⟨fun g2 => ⟨shS H hB, ?_⟩, fun g2 => no (inRg_gt (by decide) (by decide) g2)⟩⟩
  have hr := inRg_mk (by decide) (by decide) g g2
  rw [bS_get0, rg.1]
  refine ⟨fun g3 => ?_, fun g3 => ?_⟩
  · have h8 := e8.mp g3
    have e : eIsl V x = nI 0 := by unfold eIsl; rw [if_pos hr, if_neg (by omega)]
    have hK' := cop_y (by rw [e]; exact le00) hK
    obtain ⟨j, _, hj, rfl⟩ := (inRg_nn (by decide) (by decide)).mp hr
    rw [toN_nI (by omega)] at hK'
    refine ⟨shS H hB, _, rS0 H hB, shS H hB, 8, _, shIA H hB, ?_, ?_, shI H hB (i := V 1) (by omega), ?_⟩
    · exact vi (by omega) (by decide)
    · exact rIAc H hB (by omega)
    · refine sg15_0 ⟨shI H hB (by omega), nw_e (wIl (by omega)) ⟨shI H hB (by omega), nw_e (wIl (by omega)) ⟨shI H hB (by omega), nw_e (wIl (by omega)) ⟨shI H hB (by omega), nw_e (wIl (by omega)) ⟨shI H hB (by omega), nw_e (wIl (by omega)) ⟨shS H hB, shS H hB, ?_⟩⟩⟩⟩⟩⟩
      rw [bS_get0]
      have c0 : (0 : Nat) ≠ 7 + V 1 := by omega
      rw [upU_c c0, upU_c c0, upU_c c0, upU_c c0, upU_c c0, rg.1, nI_add]
      refine nw_e bS_put0 ⟨shS H hB, ?_⟩
      rw [bS_get0, upU_s, show nI (V 1 + 1) - nI 1 = nI (V 1) from pk_sub (by omega)]
      refine hK' _ ?_
      have w1 : dIsl V j 1 = V 1 + 1 := by unfold dIsl; simp (disch := omega) only [upN_n, upN_s]
      have o : ∀ k, k ≠ 1 → (k < 32 + 5 * V 1 ∨ 37 + 5 * V 1 ≤ k) → dIsl V j k = V k := fun k h1 h2 => dIsl_o h1 h2
      obtain ⟨_, r2, r3, r4, r5⟩ := R
      refine ⟨?_, fun s hs => ?_, ⟨?_, fun a ha => ?_⟩, fun i hi => ?_, fun b hb => ?_⟩
      · unfold RG
        rw [w1, o 2 (by omega) (by omega), o 0 (by omega) (by omega), o 11 (by omega) (by omega), o 12 (by omega) (by omega), o 13 (by omega) (by omega), o 14 (by omega) (by omega)]
        simp (disch := omega) only [upU_s, upU_k, upU_c]
        exact ⟨trivial, rg.2⟩
      · rw [o _ (by omega) (by omega)]
        simp (disch := omega) only [upU_s, upU_k, upU_c]
        exact r2 s hs
      · rw [o _ (by omega) (by omega)]
        simp (disch := omega) only [upU_s, upU_k, upU_c]
        exact r3.1
      · rw [o 15 (by omega) (by omega)] at ha ⊢
        rw [o _ (by omega) (by omega), o _ (by omega) (by omega)]
        simp (disch := omega) only [upU_s, upU_k, upU_c]
        exact r3.2 a ha
      · rw [w1] at hi
        by_cases hiv : i = V 1
        · subst hiv
          have z : ∀ k, 32 + 5 * V 1 < k → k < 37 + 5 * V 1 → dIsl V j k = 0 := fun k h1 h2 => by
            unfold dIsl
            simp (disch := omega) only [upN_n, upN_s]
            exact zI_z 5 (by omega) (by omega)
          have e0 : dIsl V j (32 + 5 * V 1 + 0) = j := by unfold dIsl; simp (disch := omega) only [upN_n, upN_s]
          unfold RI
          rw [e0, z _ (by omega) (by omega), z _ (by omega) (by omega), z _ (by omega) (by omega), z _ (by omega) (by omega)]
          simp (disch := omega) only [upU_s, upU_k, upU_c]
          exact ⟨trivial, trivial, trivial, trivial, trivial⟩
        · have := r4 i (by omega)
          unfold RI at this ⊢
          rw [o _ (by omega) (by omega), o _ (by omega) (by omega), o _ (by omega) (by omega), o _ (by omega) (by omega), o _ (by omega) (by omega)]
          simp (disch := omega) only [upU_s, upU_k, upU_c]
          exact this
      · rw [o _ (by omega) (by omega)] at hb
        have := r5 b hb
        have w : ∀ k, dIsl V j (72 + 8 * b + k) = V (72 + 8 * b + k) := fun k => o _ (by omega) (by omega)
        have ee : endsM (dIsl V j) b = endsM V b := by unfold endsM; rw [w, w]
        have es : stOf (dIsl V j) b = stOf V b := by unfold stOf pntd; rw [w, w]
        unfold RB at this ⊢
        rw [ee, es, w, w, w, w, w, w, w]
        simp (disch := omega) only [upU_s, upU_k, upU_c]
        exact this
  · have e : eIsl V x = (-1000003 : Int32) := by
      unfold eIsl
      rw [if_pos hr, if_pos (by have : ¬ V 1 < 8 := fun z => g3 (e8.mpr z); omega)]
    have := cop_n (by rw [e]; exact lt03) R hK
    rw [e] at this
    exact this
theorem c_nbr (H : MI σ) (hB : isB B) (hw : WF m V) (R : Rel U V) {x y w : Int32} (hK : ∀ U', Rel U' (opV (eBrg V x y w) V (dBrg V (toN x) (toN y) (toN w))) → K (opA (eBrg V x y w) (V 2)) (bS σ B U')) : cI E 23 [.ref B, .int x, .int y, .int w] (bS σ B U) K := by
  have h1 := hw.1
  unfold W1 at h1
  have rg := R.1
  unfold RG at rg
  have e8 := nI_ltI (a := V 2) (b := 14) (by omega) (by decide)
  have no : ¬ (inIs V x = true ∧ inIs V y = true ∧ x ≠ y ∧ inRg w (nI 1) (nI 9) = true) → K (-1000001 : Int32) (bS σ B U) := fun h => by
    have e : eBrg V x y w = (-1000001 : Int32) := by unfold eBrg; rw [if_neg h]
    have := cop_n (by rw [e]; exact lt01) R hK
    rw [e] at this
    exact this
  refine sg23_0 ⟨shS H hB, c_isI H hB hw R ⟨fun g => no fun z => bI_3 g z.1, fun g => ⟨shS H hB, c_isI H hB hw R ⟨fun g2 => no fun z => bI_3 g2 z.2.1, fun g2 => ⟨fun g3 => no fun z => z.2.2.1 g3, fun g3 => ⟨fun g4 => no fun z => inRg_lt (by decide) (by decide) g4 z.2.2.2, fun g4 => ⟨fun g5 => ⟨shS H hB, ?_⟩, fun g5 => no fun z => inRg_gt (by decide) (by decide) g5 z.2.2.2⟩⟩⟩⟩⟩⟩⟩
  have hr := inRg_mk (by decide) (by decide) g4 g5
  have hall : inIs V x = true ∧ inIs V y = true ∧ x ≠ y ∧ inRg w (nI 1) (nI 9) = true := ⟨bI_1 g, bI_1 g2, g3, hr⟩
  rw [bS_get0, rg.2.1]
  refine ⟨fun g6 => ?_, fun g6 => ?_⟩
  · have h8 := e8.mp g6
    have e : eBrg V x y w = nI 0 := by unfold eBrg; rw [if_pos hall, if_neg (by omega)]
    have hK' := cop_y (by rw [e]; exact le00) hK
    obtain ⟨a1, a2⟩ := inIs_n hw (bI_1 g)
    obtain ⟨b1, b2⟩ := inIs_n hw (bI_1 g2)
    obtain ⟨c1, c2, c3⟩ := inRg_n (by decide) (by decide) hr
    generalize toN x = p at hK' a1 a2
    generalize toN y = q at hK' b1 b2
    generalize toN w = r at hK' c1 c2 c3
    subst a2 b2 c3
    refine ⟨shS H hB, _, rS1 H hB, shS H hB, 14, _, shBA H hB, ?_, ?_, shB H hB (i := V 2) (by omega), ?_⟩
    · exact vi (by omega) (by decide)
    · exact rBAc H hB (by omega)
    · have hp : 2 ^ p < 2 ^ 8 := Nat.pow_lt_pow_right (by decide) (by omega)
      have hq : 2 ^ q < 2 ^ 8 := Nat.pow_lt_pow_right (by decide) (by omega)
      refine sg7_0 ⟨shB H hB (by omega), nw_e (wB (by omega)) ⟨shB H hB (by omega), nw_e (wB (by omega)) ⟨shB H hB (by omega), ?_⟩⟩⟩
      rw [nI_shl (by omega), nI_shl (by omega), nI_or (by omega) (by omega)]
      refine nw_e (wB (by omega)) ⟨shB H hB (by omega), nw_e (wB (by omega)) ⟨shB H hB (by omega), nw_e (wB (by omega)) ⟨shB H hB (by omega), nw_e (wB (by omega)) ⟨shB H hB (by omega), nw_e (wB (by omega)) ⟨shB H hB (by omega), nw_e (wB (by omega)) ⟨shB H hB (by omega), nw_e (wB (by omega)) ⟨shS H hB, shS H hB, ?_⟩⟩⟩⟩⟩⟩⟩
      rw [bS_get0]
      have c0 : (0 : Nat) ≠ 15 + V 2 := by omega
      rw [upU_c c0, upU_c c0, upU_c c0, upU_c c0, upU_c c0, upU_c c0, upU_c c0, upU_c c0, upU_c c0, rg.2.1, nI_add]
      refine nw_e bS_put0 ⟨shS H hB, ?_⟩
      rw [bS_get0, upU_s, show nI (V 2 + 1) - nI 1 = nI (V 2) from pk_sub (by omega)]
      refine hK' _ ?_
      have w2 : dBrg V p q r 2 = V 2 + 1 := by unfold dBrg; simp (disch := omega) only [upN_n, upN_s]
      have o : ∀ k, k ≠ 2 → (k < 72 + 8 * V 2 ∨ 80 + 8 * V 2 ≤ k) → dBrg V p q r k = V k := fun k h1 h2 => dBrg_o h1 h2
      obtain ⟨_, r2, r3, r4, r5⟩ := R
      refine ⟨?_, fun s hs => ?_, ⟨?_, fun a ha => ?_⟩, fun i hi => ?_, fun b hb => ?_⟩
      · unfold RG
        rw [w2, o 1 (by omega) (by omega), o 0 (by omega) (by omega), o 11 (by omega) (by omega), o 12 (by omega) (by omega), o 13 (by omega) (by omega), o 14 (by omega) (by omega)]
        simp (disch := omega) only [upU_s, upU_k, upU_c]
        exact ⟨rg.1, trivial, rg.2.2⟩
      · rw [o _ (by omega) (by omega)]
        simp (disch := omega) only [upU_s, upU_k, upU_c]
        exact r2 s hs
      · rw [o _ (by omega) (by omega)]
        simp (disch := omega) only [upU_s, upU_k, upU_c]
        exact r3.1
      · rw [o 15 (by omega) (by omega)] at ha ⊢
        rw [o _ (by omega) (by omega), o _ (by omega) (by omega)]
        simp (disch := omega) only [upU_s, upU_k, upU_c]
        exact r3.2 a ha
      · rw [o _ (by omega) (by omega)] at hi
        have := r4 i hi
        unfold RI at this ⊢
        rw [o _ (by omega) (by omega), o _ (by omega) (by omega), o _ (by omega) (by omega), o _ (by omega) (by omega), o _ (by omega) (by omega)]
        simp (disch := omega) only [upU_s, upU_k, upU_c]
        exact this
      · rw [w2] at hb
        by_cases hbv : b = V 2
        · subst hbv
          have z : ∀ k, 72 + 8 * V 2 + 4 ≤ k → k < 80 + 8 * V 2 → dBrg V p q r k = 0 := fun k h1 h2 => by
            unfold dBrg
            simp (disch := omega) only [upN_n, upN_s]
            exact zB_z 8 (by omega) (by omega)
          have e0 : dBrg V p q r (72 + 8 * V 2 + 0) = p := by unfold dBrg; simp (disch := omega) only [upN_n, upN_s]
          have e1 : dBrg V p q r (72 + 8 * V 2 + 1) = q := by unfold dBrg; simp (disch := omega) only [upN_n, upN_s]
          have e2 : dBrg V p q r (72 + 8 * V 2 + 2) = r := by unfold dBrg; simp (disch := omega) only [upN_n, upN_s]
          have e3 : dBrg V p q r (72 + 8 * V 2 + 3) = 100 := by unfold dBrg; simp (disch := omega) only [upN_n, upN_s]
          have ee : endsM (dBrg V p q r) (V 2) = 2 ^ p ||| 2 ^ q := by unfold endsM; rw [e0, e1]
          have es : stOf (dBrg V p q r) (V 2) = 0 := by rw [stOf_no (z _ (by omega) (by omega)), e3]; rfl
          unfold RB
          rw [ee, es, e0, e1, e2, e3, z _ (by omega) (by omega), z _ (by omega) (by omega), z _ (by omega) (by omega)]
          simp (disch := omega) only [upU_s, upU_k, upU_c]
          exact ⟨trivial, trivial, trivial, trivial, trivial, trivial, trivial, trivial, trivial⟩
        · have := r5 b (by omega)
          have w : ∀ k, k < 8 → dBrg V p q r (72 + 8 * b + k) = V (72 + 8 * b + k) := fun k hk => o _ (by omega) (by omega)
          have ee : endsM (dBrg V p q r) b = endsM V b := by unfold endsM; rw [w _ (by omega), w _ (by omega)]
          have es : stOf (dBrg V p q r) b = stOf V b := by unfold stOf pntd; rw [w _ (by omega), w _ (by omega)]
          unfold RB at this ⊢
          rw [ee, es, w _ (by omega), w _ (by omega), w _ (by omega), w _ (by omega), w _ (by omega), w _ (by omega), w _ (by omega)]
          simp (disch := omega) only [upU_s, upU_k, upU_c]
          exact this
  · have e : eBrg V x y w = (-1000003 : Int32) := by
      unfold eBrg
      rw [if_pos hall, if_pos (by have : ¬ V 2 < 14 := fun z => g6 (e8.mpr z); omega)]
    have := cop_n (by rw [e]; exact lt03) R hK
    rw [e] at this
    exact this
theorem c_snd (H : MI σ) (hB : isB B) (hw : WF m V) (R : Rel U V) {x f : Int32} (hK : ∀ U', Rel U' (opV (eSnd V x f) V (dSnd V (toN x))) → K (opA (eSnd V x f) (cutV V (toN x))) (bS σ B U')) : cI E 24 [.ref B, .int x, .int f] (bS σ B U) K := by
  have h1 := hw.1
  unfold W1 at h1
  have no : ¬ (inBr V x = true ∧ inRg f (nI 0) (nI 1) = true) → K (-1000001 : Int32) (bS σ B U) := fun h => by
    have e : eSnd V x f = (-1000001 : Int32) := by unfold eSnd; rw [if_neg h]
    have := cop_n (by rw [e]; exact lt01) R hK
    rw [e] at this
    exact this
  refine sg24_0 ⟨shS H hB, c_isB H hB hw R ⟨fun g => no fun z => bI_3 g z.1, fun g => ⟨fun g2 => no fun z => inRg_lt (by decide) (by decide) g2 z.2, fun g2 => ⟨fun g3 => ⟨shS H hB, ?_⟩, fun g3 => no fun z => inRg_gt (by decide) (by decide) g3 z.2⟩⟩⟩⟩
  have hall : inBr V x = true ∧ inRg f (nI 0) (nI 1) = true := ⟨bI_1 g, inRg_mk (by decide) (by decide) g2 g3⟩
  obtain ⟨hx, ex⟩ := inBr_n hw (bI_1 g)
  have h5 := rsn_lt V (toN x)
  have r0 := nI_eq (a := rsn V (toN x)) (b := 0) (by omega) (by decide)
  have r4 := nI_eq (a := rsn V (toN x)) (b := 4) (by omega) (by decide)
  have no2 : ¬ (rsn V (toN x) = 0 ∨ (rsn V (toN x) = 4 ∧ f = nI 1)) → K (-1000002 : Int32) (bS σ B U) := fun h => by
    have e : eSnd V x f = (-1000002 : Int32) := by unfold eSnd; rw [if_pos hall, if_neg h]
    have := cop_n (by rw [e]; exact lt02) R hK
    rw [e] at this
    exact this
  have ok : (rsn V (toN x) = 0 ∨ (rsn V (toN x) = 4 ∧ f = nI 1)) → (sh (bS σ B U) B 3 11 ∧ cI E 41 [.ref B, .int x] (bS σ B U) (fun x6 s5 =>
            sh s5 B 3 11 ∧ ∃ r7, rf s5 B 1 r7 ∧ ∃ n8 r9, sh s5 r7 14 n8 ∧ vp_in x n8 ∧ rf s5 r7 (x).toNatClampNeg r9 ∧ sh s5 r9 1 9 ∧ cV E 9 [.ref r9] s5 (fun s10 =>
            K x6 s10))) := fun h => by
    have e : eSnd V x f = nI 0 := by unfold eSnd; rw [if_pos hall, if_pos h]
    have hK' := cop_y (by rw [e]; exact le00) hK
    generalize toN x = b at hK' hx ex
    subst ex
    exact ⟨shS H hB, c_los H hB hw R (by omega) ⟨shS H hB, _, rS1 H hB, 14, _, shBA H hB, vi (by omega) (by omega), rBAc H hB (by omega), shB H hB (by omega), c_tak H hB hw R hx hK'⟩⟩
  rw [show cI E 36 [.ref B, .int x] = cI E 36 [.ref B, .int (nI (toN x))] by rw [← ex]]
  have z00 : ¬ (nI 0 ≠ nI 0) := fun z => z rfl
  have z10 : nI 1 ≠ nI 0 := by decide
  refine c_rsn H hB hw R hx ⟨fun g4 => ⟨fun g5 => ok (Or.inl (r0.mp g5)), fun g5 => ⟨fun z => absurd z z00, fun _ => no2 fun z => z.elim (fun y => g5 (r0.mpr y)) (fun y => g4 y.2)⟩⟩, fun g4 => ⟨fun g5 => ⟨fun g6 => ok (Or.inl (r0.mp g6)), fun g6 => ⟨fun z => absurd z z00, fun _ => no2 fun z => z.elim (fun y => g6 (r0.mpr y)) (fun y => g5 (r4.mpr y.1))⟩⟩, fun g5 => ⟨fun g6 => ok (Or.inl (r0.mp g6)), fun g6 => ⟨fun _ => ok (Or.inr ⟨r4.mp (Classical.not_not.mp g5), Classical.not_not.mp g4⟩), fun z => absurd z10 z⟩⟩⟩⟩
theorem c_rec (H : MI σ) (hB : isB B) (hw : WF m V) (R : Rel U V) {x : Int32} (hK : ∀ U', Rel U' (opV (eRec V x) V (dRec V (toN x))) → K (opA (eRec V x) (V (72 + 8 * toN x + 3))) (bS σ B U')) : cI E 25 [.ref B, .int x] (bS σ B U) K := by
  have h1 := hw.1
  unfold W1 at h1
  refine sg25_0 ⟨shS H hB, c_isB H hB hw R ⟨fun g => ?_, fun g => ?_⟩⟩
  · obtain ⟨hx, ex⟩ := inBr_n hw (bI_1 g)
    have hin := bI_1 g
    have s1 : stOf V (toN x) = 1 ↔ pntd V (toN x) = true := st1
    have h3 := stOf_lt V (toN x)
    have ec := nI_eq (a := stOf V (toN x)) (b := 1) (by omega) (by decide)
    generalize hb : toN x = b at hK hx ex s1 h3 ec
    subst ex
    have rb := R.2.2.2.2 b hx
    refine ⟨shS H hB, _, rS1 H hB, 14, _, shBA H hB, vi (by omega) (by omega), rBAc H hB (by omega), shB H hB (by omega), ?_⟩
    rw [gB (by omega), rb.2.2.2.2.2.1]
    refine ⟨fun g2 => ?_, fun g2 => ?_⟩
    · have hp := s1.mp (ec.mp g2)
      have e : eRec V (nI b) = nI 0 := by unfold eRec; rw [if_pos hin, hb, if_pos hp]
      have hK' := cop_y (by rw [e]; exact le00) hK
      refine ⟨shS H hB, _, rS1 H hB, 14, _, shBA H hB, vi (by omega) (by omega), rBAc H hB (by omega), shB H hB (by omega), c_los2 H hB hw R hx fun U' r => ⟨shS H hB, _, rS1 H hB, 14, _, shBA H hB, vi (by omega) (by omega), rBAc H hB (by omega), shB H hB (by omega), ?_⟩⟩
      have rb' := r.2.2.2.2 b (by rw [show dRec V b 2 = V 2 from upN_n (by omega)]; exact hx)
      rw [gB (by omega), rb'.2.2.2.2.1, show dRec V b (72 + 8 * b + 3) = V (72 + 8 * b + 3) from upN_n (by omega)]
      exact hK' U' r
    · have hp : ¬ pntd V b = true := fun z => g2 (ec.mpr (s1.mpr z))
      have e : eRec V (nI b) = (-1000002 : Int32) := by unfold eRec; rw [if_pos hin, hb, if_neg hp]
      have := cop_n (by rw [e]; exact lt02) R hK
      rw [e] at this
      exact this
  · have e : eRec V x = (-1000001 : Int32) := by unfold eRec; rw [if_neg (fun z => ff (by rw [← bI_2 g]; exact z))]
    have := cop_n (by rw [e]; exact lt01) R hK
    rw [e] at this
    exact this
theorem c_pay (H : MI σ) (hB : isB B) (hw : WF m V) (R : Rel U V) {x : Int32} (hK : ∀ U', Rel U' (opV (ePay V x) V (dPay V (toN x))) → K (opA (ePay V x) (V 11 + toN x)) (bS σ B U')) : cI E 26 [.ref B, .int x] (bS σ B U) K := by
  have h1 := hw.1
  unfold W1 at h1
  have h5 := hw.2.2.2.2
  unfold W5 at h5
  have rg := R.1
  unfold RG at rg
  have no : ¬ inRg x (nI 1) (nI 999) = true → K (-1000001 : Int32) (bS σ B U) := fun h => by
    have e : ePay V x = (-1000001 : Int32) := by unfold ePay; rw [if_neg h]
    have := cop_n (by rw [e]; exact lt01) R hK
    rw [e] at this
    exact this
  refine sg26_0 ⟨fun g => no (inRg_lt (by decide) (by decide) g), fun g => ⟨fun g2 => ⟨shS H hB, ?_⟩, fun g2 => no (inRg_gt (by decide) (by decide) g2)⟩⟩
  have hr := inRg_mk (by decide) (by decide) g g2
  obtain ⟨c1, c2, c3⟩ := inRg_n (by decide) (by decide) hr
  have e0 : ePay V x = if V 11 + toN x ≤ 999999 then nI 0 else (-1000003 : Int32) := by unfold ePay; rw [if_pos hr]
  generalize toN x = a at hK c1 c2 c3 e0
  subst c3
  rw [bS_get0, rg.2.2.2.1, nI_add]
  have ec := nI_leI (a := V 11 + a) (b := 999999) (by omega) (by decide)
  refine ⟨fun g3 => ?_, fun g3 => ?_⟩
  · rw [if_pos (ec.mp g3)] at e0
    have hK' := cop_y (by rw [e0]; exact le00) hK
    refine ⟨shS H hB, c_rcv H hB R (by omega) fun U' r => ⟨shS H hB, ?_⟩⟩
    have rg' := r.1
    unfold RG at rg'
    rw [bS_get0, rg'.2.2.2.1, show dPay V a 11 = V 11 + a by unfold dPay; simp (disch := omega) only [upN_n, upN_s]]
    exact hK' U' r
  · rw [if_neg (fun z => g3 (ec.mpr z))] at e0
    have := cop_n (by rw [e0]; exact lt03) R hK
    rw [e0] at this
    exact this
theorem c_dys (H : MI σ) (hB : isB B) (hw : WF m V) (R : Rel U V) {x : Int32} (hK : ∀ U', Rel U' (opV (eDys V x) V (dDays (toN x) V)) → K (opA (eDys V x) (cDays (toN x) V)) (bS σ B U')) : cI E 28 [.ref B, .int x] (bS σ B U) K := by
  have h5 := hw.2.2.2.2
  unfold W5 at h5
  have rg := R.1
  unfold RG at rg
  have no : ¬ inRg x (nI 1) (nI 99) = true → K (-1000001 : Int32) (bS σ B U) := fun h => by
    have e : eDys V x = (-1000001 : Int32) := by unfold eDys; rw [if_neg h]
    have := cop_n (by rw [e]; exact lt01) R hK
    rw [e] at this
    exact this
  refine sg28_0 ⟨fun g => no (inRg_lt (by decide) (by decide) g), fun g => ⟨fun g2 => ⟨shS H hB, ?_⟩, fun g2 => no (inRg_gt (by decide) (by decide) g2)⟩⟩
  have hr := inRg_mk (by decide) (by decide) g g2
  obtain ⟨c1, c2, c3⟩ := inRg_n (by decide) (by decide) hr
  have e0 : eDys V x = if V 0 + toN x ≤ 9999 then nI 0 else (-1000003 : Int32) := by unfold eDys; rw [if_pos hr]
  generalize toN x = a at hK c1 c2 c3 e0
  subst c3
  rw [bS_get0, rg.2.2.1, nI_add]
  have ec := nI_leI (a := V 0 + a) (b := 9999) (by omega) (by decide)
  refine ⟨fun g3 => ?_, fun g3 => ?_⟩
  · have h99 := ec.mp g3
    rw [if_pos h99] at e0
    have hK' := cop_y (by rw [e0]; exact le00) hK
    refine c_dysL H hB (by omega) a 0 0 (V 0) V U (by omega) (hw.to (Nat.le_refl _) (by omega)) (by omega) R fun U' r => ?_
    rw [Nat.zero_add]
    exact hK' U' r
  · rw [if_neg (fun z => g3 (ec.mpr z))] at e0
    have := cop_n (by rw [e0]; exact lt03) R hK
    rw [e0] at this
    exact this
/-- the written tables of the script's world -/
def EOK (E : AEnv) : Prop := (E 1).1 = 8 ∧ (E 2).1 = 8 ∧ ∀ k, k < 8 → (E 1).2 k = nI (loS (nI k)) ∧ (E 2).2 k = nI (hiS (nI k))
theorem eok_law {L : Nat} {xs : Nat → Int32} : EOK (lawE L xs) := ⟨rfl, rfl, fun k hk => by
  have h1 : ∀ k, k < 8 → (tbK 1).getD k 0 = nI (loS (nI k)) ∧ (tbK 2).getD k 0 = nI (hiS (nI k)) := by decide
  exact h1 k hk⟩
theorem c_set (hE : EOK E) (H : MI σ) (hB : isB B) (hw : WF m V) (R : Rel U V) {w v : Int32} (hK : ∀ U', Rel U' (opV (eSet w v) V (dSet V (toN w) (toN v))) → K (opA (eSet w v) (V (3 + toN w))) (bS σ B U')) : cI E 27 [.ref B, .int w, .int v] (bS σ B U) K := by
  have h1 := hw.1
  unfold W1 at h1
  obtain ⟨t1, t2, t3⟩ := hE
  have no : ¬ (inRg w (nI 0) (nI 7) = true ∧ inRg v (nI (loS w)) (nI (hiS w)) = true) → K (-1000001 : Int32) (bS σ B U) := fun h => by
    have e : eSet w v = (-1000001 : Int32) := by unfold eSet; rw [if_neg h]
    have := cop_n (by rw [e]; exact lt01) R hK
    rw [e] at this
    exact this
  have hh := hiS_lt w
  have hl : loS w ≤ 1 := by unfold loS; split <;> omega
  refine sg27_0 ⟨fun g => no fun z => inRg_lt (by decide) (by decide) g z.1, fun g => ⟨fun g2 => no fun z => ?_, fun g2 => ?_⟩⟩
  · obtain ⟨j, _, hj, rfl⟩ := (inRg_nn (by decide) (by decide)).mp z.1
    exact absurd g2 (nI_ge (by omega) (by decide))
  · have g3 : w ≤ nI 7 := by
      obtain ⟨j, hj, rfl⟩ := nI_of g
      have : ¬ 8 ≤ j := fun z => g2 ((nI_leI (by decide) hj).mpr z)
      exact nI_le (by omega) (by decide)
    have hr := inRg_mk (by decide) (by decide) g g3
    obtain ⟨k, _, hk, rfl⟩ := (inRg_nn (by decide) (by decide)).mp hr
    rw [t1, t2, cl k (by omega), (t3 k (by omega)).1, (t3 k (by omega)).2]
    refine ⟨vi (by omega) (by decide), fun g4 => no fun z => inRg_lt (by omega) (by omega) g4 z.2, fun g4 => ⟨vi (by omega) (by decide), fun g5 => ?_, fun g5 => no fun z => inRg_gt (by omega) (by omega) g5 z.2⟩⟩
    have hv := inRg_mk (by omega) (by omega) g4 g5
    have e : eSet (nI k) v = nI 0 := by unfold eSet; rw [if_pos ⟨hr, hv⟩]
    have hK' := cop_y (by rw [e]; exact le00) hK
    obtain ⟨q, _, hq, rfl⟩ := (inRg_nn (by omega) (by omega)).mp hv
    rw [toN_nI (by omega), toN_nI (by omega)] at hK'
    refine ⟨shS H hB, _, rS2 H hB, 8, shSe H hB, vi (by omega) (by decide), shS H hB, _, rS2 H hB, 8, shSe H hB, vi (by omega) (by decide), ?_⟩
    rw [bS_get (by decide), R.2.1 k (by omega)]
    refine nw_e (bS_put (by decide)) (hK' _ ?_)
    obtain ⟨r1, r2, r3, r4, r5⟩ := R
    have o : ∀ j, j ≠ 3 + k → dSet V k q j = V j := fun j h => upN_n h
    refine ⟨r1.keep (fun j => by simp (disch := omega) only [upU_s, upU_k, upU_c]) (o _ (by omega)) (o _ (by omega)) (o _ (by omega)) (o _ (by omega)) (o _ (by omega)) (o _ (by omega)) (o _ (by omega)), fun s hs => ?_, ⟨?_, fun a ha => ?_⟩, fun i hi => ?_, fun b hb => ?_⟩
    · by_cases hs2 : s = k
      · subst hs2
        rw [upU_s, show dSet V s q (3 + s) = q from upN_s _ _ _]
      · rw [upU_k hs2, o _ (by omega)]
        exact r2 s hs
    · rw [o _ (by omega)]
      simp (disch := omega) only [upU_s, upU_k, upU_c]
      exact r3.1
    · rw [o _ (by omega)] at ha ⊢
      rw [o _ (by omega), o _ (by omega)]
      simp (disch := omega) only [upU_s, upU_k, upU_c]
      exact r3.2 a ha
    · rw [o _ (by omega)] at hi
      have := r4 i hi
      unfold RI at this ⊢
      rw [o _ (by omega), o _ (by omega), o _ (by omega), o _ (by omega), o _ (by omega)]
      simp (disch := omega) only [upU_s, upU_k, upU_c]
      exact this
    · rw [o _ (by omega)] at hb
      have := r5 b hb
      have w : ∀ j, dSet V k q (72 + 8 * b + j) = V (72 + 8 * b + j) := fun j => o _ (by omega)
      have ee : endsM (dSet V k q) b = endsM V b := by unfold endsM; rw [w, w]
      have es : stOf (dSet V k q) b = stOf V b := by unfold stOf pntd; rw [w, w]
      unfold RB at this ⊢
      rw [ee, es, w, w, w, w, w, w, w]
      simp (disch := omega) only [upU_s, upU_k, upU_c]
      exact this
end COM18
