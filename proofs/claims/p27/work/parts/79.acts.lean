/-! p27: the law's acts -/
section ACT
variable {E : AEnv} {σ τ : ASt} {V W : Nat → Nat} {m n t N M : Nat} {Hs : Nat → Nat → Nat} {Tx : Nat → Nat} {Q : Option Value → ASt → Prop} {K : Int32 → ASt → Prop}
theorem prd {k : Nat} (h : 0 < k) : nI k - nI 1 = nI (k - 1) := by
  obtain ⟨c, rfl⟩ : ∃ c, k = c + 1 := ⟨k - 1, by omega⟩
  rw [← nI_add, Int32.add_sub_cancel, Nat.add_sub_cancel]
theorem prd0 : nI 0 - nI 1 = (-1 : Int32) := by decide
theorem prd_lt {k : Nat} (hk : k < 2 ^ 31) : (nI k - nI 1 < nI 0) ↔ k = 0 := by
  by_cases h : k = 0
  · rw [h]
    exact ⟨fun _ => rfl, fun _ => by decide⟩
  · rw [prd (by omega), nI_ltI (by omega) (by decide)]
    omega
/-- a number less one, between bounds -/
theorem prd_rg {k a b : Nat} (hk : k < 2 ^ 31) (ha : a < 2 ^ 31) (hb : b < 2 ^ 31) : inRg (nI k - nI 1) (nI a) (nI b) = true ↔ a + 1 ≤ k ∧ k ≤ b + 1 := by
  by_cases h : k = 0
  · rw [h, prd0]
    refine ⟨fun z => ?_, fun z => by omega⟩
    exfalso
    obtain ⟨j, h1, h2, e⟩ := (inRg_nn ha hb).mp z
    exact nI_neg (by decide) (by omega) e.symm
  · rw [prd (by omega)]
    constructor
    · intro z
      obtain ⟨j, h1, h2, e⟩ := (inRg_nn ha hb).mp z
      rw [nI_eq (by omega) (by omega)] at e
      omega
    · intro z
      exact (inRg_nn ha hb).mpr ⟨k - 1, by omega, by omega, rfl⟩
theorem rg_n {k a b : Nat} (hk : k < 2 ^ 31) (ha : a < 2 ^ 31) (hb : b < 2 ^ 31) : inRg (nI k) (nI a) (nI b) = true ↔ a ≤ k ∧ k ≤ b := by
  constructor
  · intro z
    obtain ⟨j, h1, h2, e⟩ := (inRg_nn ha hb).mp z
    rw [nI_eq (by omega) (by omega)] at e
    omega
  · intro z
    exact (inRg_nn ha hb).mpr ⟨k, by omega, by omega, rfl⟩
section A
variable {x y : Int32} {h : Nat}
/-! island -/
theorem ac_53 (L : LJ N σ V n Hs t Tx) {fx b0 : Int32} {bad : Prop} (hb1 : bad → b0 = nI 1) (hb0 : ¬ bad → b0 = nI 0) (hbad : bad ↔ ¬ inRg fx (nI 0) (nI 99) = true) (hK : ∀ τ, AR N V n Hs τ → Q (some (.int (nI 1))) τ) :
    wp E 104 53 [.ref 0, .int x, .int y, .int (nI h), .int (nI (V 1)), .int (nI (V 2)), .int fx] [.int b0] σ Q := by
  have hw := L.2.2.1
  have h12 := hw.w12
  have e8 : nI (V 1) = nI 8 ↔ V 1 = 8 := nI_eq (by omega) (by decide)
  by_cases hb : bad
  · rw [hb1 hb]
    have he : eIsl V fx = (-1000001 : Int32) := by unfold eIsl; rw [if_neg (hbad.mp hb)]
    refine sg104_53 ⟨L.sh, j_aisl L (fun _ τ L2 => ?_) (fun z => absurd z (by rw [he]; exact lt01))⟩
    rw [he]
    refine ⟨fun z => absurd z one0, fun _ => ⟨nn, L2.sh, j_cnt L2 ⟨fun _ => sg104_114 ⟨?_, fN1, hK τ L2.ar0⟩, fun z => absurd one0 z⟩⟩⟩
    rw [cnt_1]
    exact nn
  · rw [hb0 hb]
    have hr : inRg fx (nI 0) (nI 99) = true := Classical.not_not.mp (fun z => hb (hbad.mpr z))
    by_cases h8 : V 1 = 8
    · have he : eIsl V fx = (-1000003 : Int32) := by unfold eIsl; rw [if_pos hr, if_pos h8]
      refine sg104_53 ⟨L.sh, j_aisl L (fun _ τ L2 => ?_) (fun z => absurd z (by rw [he]; exact lt03))⟩
      rw [he]
      refine ⟨fun _ => ⟨fun z => absurd (e8.mpr h8) z, fun _ => ⟨nn, L2.sh, j_cnt L2 ⟨fun z => absurd rfl z, fun _ => ⟨fun z => absurd (e8.mpr h8) z, fun _ => sg104_114 ⟨?_, fN1, hK τ L2.ar0⟩⟩⟩⟩⟩, fun z => absurd rfl z⟩
      rw [cnt_1]
      exact nn
    · have he : eIsl V fx = nI 0 := by unfold eIsl; rw [if_pos hr, if_neg h8]
      refine sg104_53 ⟨L.sh, j_aisl L (fun z => absurd (by rw [he]; exact z_le) z) (fun _ τ L2 => ?_)⟩
      refine ⟨fun _ => ⟨fun _ => ⟨nn, L2.sh, j_cnt L2 ⟨fun z => absurd rfl z, fun _ => ⟨fun _ => sg104_114 ⟨?_, fN1, hK τ (L2.ar1 (by omega))⟩, fun z => absurd (fun g => h8 (e8.mp g)) z⟩⟩⟩, fun z => absurd (fun g => h8 (e8.mp g)) z⟩, fun z => absurd rfl z⟩
      rw [cnt_1, nI_add]
      have e1 : dIsl V (toN fx) 1 = V 1 + 1 := by unfold dIsl; rw [upN_s]
      rw [e1]
      exact nn
/-! bridge -/
theorem rea_new (hE : endsOK W) {b i j : Nat} (hb : b < W 2) (hb14 : b < 14) (ho : opn W b = true) (e0 : W (72 + 8 * b + 0) = i) (e1 : W (72 + 8 * b + 1) = j) (hi : i < 8) (hj : j < 8) : reachV W i 99 = reachV W j 99 := by
  have hends : ∀ k, (endsM W b).testBit k = true ↔ k = i ∨ k = j := fun k => by
    unfold endsM
    rw [e0, e1, Nat.testBit_or, Bool.or_eq_true, Nat.testBit_two_pow, Nat.testBit_two_pow, decide_eq_true_eq, decide_eq_true_eq]
    omega
  have hh : hit (reachV W i 99) (endsM W b) = true := hit_iff.mpr ⟨i, rea_self, (hends i).mpr (Or.inl rfl)⟩
  have hs := reach_closed hE (wo := 99) hi b hb (by rw [use_opn hb14]; exact ho) hh
  have hij : (reachV W i 99).testBit j = true := hs j ((hends j).mpr (Or.inr rfl))
  exact subM.anti (rea_tr hE hj (rea_sym hE hi hj hij)) (rea_tr hE hi hij)
theorem q_rea (hw : WF m V) {i : Nat} (hi : i < V 1) : qRea V (nI i) = nI (reachV V i 99) := by
  have h12 := hw.w12
  unfold qRea
  rw [if_pos (is_in hw hi), toN_nI (by omega)]
theorem ac_224 (L : LJ N σ V n Hs t Tx) {i j w : Nat} (hi : i ≤ V 1) (hj : j < V 1) (hw11 : w < 1000) {b0 : Int32} {bad : Prop} (hb1 : bad → b0 = nI 1) (hb0 : ¬ bad → b0 = nI 0) (hbad : bad ↔ (i = V 1 ∨ i = j ∨ w = 0 ∨ 9 < w)) (hK : ∀ τ, AR N V n Hs τ → Q (some (.int (nI 1))) τ) :
    wp E 104 224 [.ref 0, .int x, .int y, .int (nI h), .int (nI (V 1)), .int (nI (V 2)), .int (nI i), .int (nI j), .int (nI w)] [.int b0] σ Q := by
  have hw := L.2.2.1
  have h12 := hw.w12
  have e14 : nI (V 2) = nI 14 ↔ V 2 = 14 := nI_eq (by omega) (by decide)
  by_cases hb : bad
  · rw [hb1 hb]
    have hbb := hbad.mp hb
    have he : eBrg V (nI i) (nI j) (nI w) = (-1000001 : Int32) := by
      unfold eBrg
      rw [if_neg]
      rintro ⟨g1, g2, g3, g4⟩
      rw [rg_n (by omega) (by decide) (by decide)] at g4
      rcases hbb with z | z | z | z
      · exact is_no hw (by omega) (by omega) g1
      · exact g3 (by rw [z])
      · omega
      · omega
    refine sg104_224 ⟨L.sh, j_abrg L (fun _ τ L2 => ?_) (fun z => absurd z (by rw [he]; exact lt01))⟩
    rw [he]
    exact ⟨fun z => absurd z one0, fun _ => sg104_264 ⟨nn, fun _ => ⟨fN1, hK τ L2.ar0⟩, fun z => absurd (by decide) z⟩⟩
  · rw [hb0 hb]
    have hbb : ¬ (i = V 1 ∨ i = j ∨ w = 0 ∨ 9 < w) := fun z => hb (hbad.mpr z)
    have hg : inIs V (nI i) = true ∧ inIs V (nI j) = true ∧ nI i ≠ nI j ∧ inRg (nI w) (nI 1) (nI 9) = true := ⟨is_in hw (by omega), is_in hw hj, nI_ne (by omega) (by omega) (by omega), (rg_n (by omega) (by decide) (by decide)).mpr (by omega)⟩
    by_cases h14 : V 2 = 14
    · have he : eBrg V (nI i) (nI j) (nI w) = (-1000003 : Int32) := by unfold eBrg; rw [if_pos hg, if_pos h14]
      refine sg104_224 ⟨L.sh, j_abrg L (fun _ τ L2 => ?_) (fun z => absurd z (by rw [he]; exact lt03))⟩
      rw [he]
      exact ⟨fun _ => ⟨fun z => absurd (e14.mpr h14) z, fun _ => sg104_264 ⟨nn, fun _ => ⟨fN1, hK τ L2.ar0⟩, fun z => absurd (by decide) z⟩⟩, fun z => absurd rfl z⟩
    · have he : eBrg V (nI i) (nI j) (nI w) = nI 0 := by unfold eBrg; rw [if_pos hg, if_neg h14]
      refine sg104_224 ⟨L.sh, j_abrg L (fun z => absurd (by rw [he]; exact z_le) z) (fun _ τ L2 => ?_)⟩
      rw [toN_nI (by omega), toN_nI (by omega), toN_nI (by omega)] at L2
      have hw2 := L2.2.2.1
      have e2 : dBrg V i j w 2 = V 2 + 1 := by unfold dBrg; rw [upN_s]
      have a0 : dBrg V i j w (72 + 8 * V 2 + 0) = i := by unfold dBrg; simp (disch := omega) only [upN_n, upN_s]
      have a1 : dBrg V i j w (72 + 8 * V 2 + 1) = j := by unfold dBrg; simp (disch := omega) only [upN_n, upN_s]
      have a2 : dBrg V i j w (72 + 8 * V 2 + 2) = w := by unfold dBrg; simp (disch := omega) only [upN_n, upN_s]
      have a3 : dBrg V i j w (72 + 8 * V 2 + 3) = 100 := by unfold dBrg; simp (disch := omega) only [upN_n, upN_s]
      have a4 : dBrg V i j w (72 + 8 * V 2 + 4) = 0 := by
        unfold dBrg
        simp (disch := omega) only [upN_n, upN_s]
        exact zB_z 8 (by omega) (by omega)
      have f1 : dBrg V i j w 1 = V 1 := dBrg_o (by omega) (by omega)
      have ho : opn (dBrg V i j w) (V 2) = true := by unfold opn; rw [a3, a4]; rfl
      have hst : stOf (dBrg V i j w) (V 2) = 0 := by unfold stOf pntd; rw [a3, a4]; rfl
      refine ⟨fun _ => ⟨fun _ => sg104_264 ⟨nn, fun z => absurd z (nI_nn (by omega)), fun _ => ⟨L2.sh, j_brg L2 ⟨?_, L2.sh, j_brg L2 ⟨?_, L2.sh, j_brg L2 ⟨?_, L2.sh, j_brg L2 ⟨?_, L2.sh, j_brg L2 ⟨?_, L2.sh, j_rea L2 ⟨L2.sh, j_rea L2 ⟨?_, fN1, hK τ (L2.ar1 (by omega))⟩⟩⟩⟩⟩⟩⟩⟩⟩, fun z => absurd (fun g => h14 (e14.mp g)) z⟩, fun z => absurd rfl z⟩
      · rw [qb0 hw2 (by omega), a0]; exact nn
      · rw [qb1 hw2 (by omega), a1]; exact nn
      · rw [qb2 hw2 (by omega), a2]; exact nn
      · rw [qb3 hw2 (by omega), a3]; exact nn
      · rw [qb4 hw2 (by omega), hst]; exact nn
      · rw [q_rea hw2 (by omega), q_rea hw2 (by omega), rea_new hw2.ends (by omega) (by omega) ho a0 a1 (by omega) (by omega)]
        exact nn
theorem ac_190 (L : LJ N σ V n Hs t Tx) {i j w u : Nat} (hi : i ≤ V 1) (hj : j < V 1) (hu : w + u ≤ 10) (hK : ∀ τ, AR N V n Hs τ → Q (some (.int (nI 1))) τ) :
    wp E 104 190 [.ref 0, .int x, .int y, .int (nI h), .int (nI (V 1)), .int (nI (V 2)), .int (nI i), .int (nI j)] [.int (nI u), .int (nI w)] σ Q := by
  have h12 := L.2.2.1.w12
  have g : ∀ b0 : Int32, ((i = V 1 ∨ i = j ∨ w + u = 0 ∨ 9 < w + u) → b0 = nI 1) → (¬ (i = V 1 ∨ i = j ∨ w + u = 0 ∨ 9 < w + u) → b0 = nI 0) → wp E 104 224 [.ref 0, .int x, .int y, .int (nI h), .int (nI (V 1)), .int (nI (V 2)), .int (nI i), .int (nI j), .int (nI w + nI u)] [.int b0] σ Q := fun b0 h1 h0 => by
    rw [nI_add]
    exact ac_224 L hi hj (by omega) h1 h0 Iff.rfl hK
  have ei : nI i = nI (V 1) ↔ i = V 1 := nI_eq (by omega) (by omega)
  have ej : nI i = nI j ↔ i = j := nI_eq (by omega) (by omega)
  have e0 : nI w + nI u = nI 0 ↔ w + u = 0 := by rw [nI_add]; exact nI_eq (by omega) (by decide)
  have e10 : nI w + nI u = nI 10 ↔ w + u = 10 := by rw [nI_add]; exact nI_eq (by omega) (by decide)
  refine sg104_190 ⟨fun z => g _ (fun _ => rfl) (fun q => absurd (Or.inl (ei.mp z)) q), fun z1 => ⟨fun z => g _ (fun _ => rfl) (fun q => absurd (Or.inr (Or.inl (ej.mp z))) q), fun z2 => ⟨fun z => g _ (fun _ => rfl) (fun q => absurd (Or.inr (Or.inr (Or.inl (e0.mp z)))) q), fun z3 => ⟨fun z => g _ (fun q => ?_) (fun _ => rfl), fun z => g _ (fun _ => rfl) (fun q => absurd (Or.inr (Or.inr (Or.inr (by have := e10.mp (Classical.not_not.mp z); omega)))) q)⟩⟩⟩⟩
  exfalso
  rcases q with q | q | q | q
  · exact z1 (ei.mpr q)
  · exact z2 (ej.mpr q)
  · exact z3 (e0.mpr q)
  · exact z (e10.mpr (by omega))
theorem ac_123b (L : LJ N σ V n Hs t Tx) (h6 : h < 6) (hK : ∀ τ, AR N V n Hs τ → Q (some (.int (nI 1))) τ) :
    wp E 104 123 [.ref 0, .int x, .int y, .int (nI h), .int (nI (V 1)), .int (nI (V 2))] [] σ Q := by
  have h12 := L.2.2.1.w12
  have w1 := L.2.2.1.1
  unfold W1 at w1
  refine sg104_123 ⟨fun z => absurd z (nI_ge (by omega) (by decide)), fun _ => ?_⟩
  rw [nI_add]
  refine j_low (by omega) (by omega) (j_low (by omega) (by omega) (j_low (by decide) (by decide) ?_))
  have hi := lowV_lt y (k := V 1 + 1) (by omega)
  have hj := lowV_lt (y >>> ((nI 4) &&& 31)) (k := V 1) (by omega)
  have h4 := lowV_lt (y >>> ((nI 16) &&& 31)) (k := 4) (by decide)
  have e4 : nI (lowV (y >>> ((nI 16) &&& 31)) 4) = nI 0 ↔ lowV (y >>> ((nI 16) &&& 31)) 4 = 0 := nI_eq (by omega) (by decide)
  refine ⟨fun z => sg104_171 (j_low (by decide) (by decide) (j_low (by decide) (by decide) ⟨fun _ => ?_, fun q => absurd z q⟩)), fun z => sg104_171 (j_low (by decide) (by decide) (j_low (by decide) (by decide) ⟨fun q => absurd q z, fun _ => ?_⟩))⟩
  · have h9 := lowV_lt (y >>> ((nI 8) &&& 31)) (k := 9) (by decide)
    exact ac_190 L (by omega) hj (by omega) hK
  · have h9 := lowV_lt (y >>> ((nI 8) &&& 31)) (k := 11) (by decide)
    exact ac_190 L (by omega) hj (by omega) hK
/-! pay -/
theorem cnt_13 : qCnt V n t (nI 13) = nI (V 11) := rfl
theorem ac_407 (L : LJ N σ V n Hs t Tx) {c : Nat} (hc : c ≤ 1000) {b0 : Int32} (hb1 : (c = 0 ∨ c = 1000) → b0 = nI 1) (hb0 : ¬ (c = 0 ∨ c = 1000) → b0 = nI 0) (hK : ∀ τ, AR N V n Hs τ → Q (some (.int (nI 1))) τ) :
    wp E 104 407 [.ref 0, .int x, .int y, .int (nI h), .int (nI (V 1)), .int (nI (V 2)), .int (nI c)] [.int b0] σ Q := by
  have hw := L.2.2.1
  have h5 := hw.2.2.2.2
  unfold W5 at h5
  have hr := rg_n (k := c) (a := 1) (b := 999) (by omega) (by decide) (by decide)
  by_cases hb : c = 0 ∨ c = 1000
  · rw [hb1 hb]
    have he : ePay V (nI c) = (-1000001 : Int32) := by unfold ePay; rw [if_neg (fun z => by have := hr.mp z; omega)]
    refine sg104_407 ⟨L.sh, j_cnt L ⟨L.sh, j_apay L (fun _ τ L2 => ?_) (fun z => absurd z (by rw [he]; exact lt01))⟩⟩
    rw [he]
    exact ⟨fun z => absurd z one0, fun _ => sg104_453 ⟨nn, fN1, hK τ L2.ar0⟩⟩
  · rw [hb0 hb]
    by_cases hl : V 11 + c ≤ 999999
    · have he : ePay V (nI c) = nI 0 := by unfold ePay; rw [if_pos (hr.mpr (by omega)), toN_nI (by omega), if_pos hl]
      refine sg104_407 ⟨L.sh, j_cnt L ⟨L.sh, j_apay L (fun z => absurd (by rw [he]; exact z_le) z) (fun _ τ L2 => ?_)⟩⟩
      rw [cnt_13, toN_nI (by omega), nI_add]
      exact ⟨fun _ => ⟨fun _ => sg104_453 ⟨nn, fN1, hK τ (L2.ar1 (by omega))⟩, fun z => absurd (nI_le hl (by decide)) z⟩, fun z => absurd rfl z⟩
    · have he : ePay V (nI c) = (-1000003 : Int32) := by unfold ePay; rw [if_pos (hr.mpr (by omega)), toN_nI (by omega), if_neg hl]
      refine sg104_407 ⟨L.sh, j_cnt L ⟨L.sh, j_apay L (fun _ τ L2 => ?_) (fun z => absurd z (by rw [he]; exact lt03))⟩⟩
      rw [cnt_13, he, nI_add]
      exact ⟨fun _ => ⟨fun z => absurd z (nI_ge (by omega) (by omega)), fun _ => sg104_453 ⟨nn, fN1, hK τ L2.ar0⟩⟩, fun z => absurd rfl z⟩
/-! days -/
theorem cnt_0 : qCnt V n t (nI 0) = nI (V 0) := rfl
theorem cnt_11 : qCnt V n t (nI 11) = nI (smN V 2 (V 1)) := rfl
theorem ac_581 (L : LJ N τ V n Hs t Tx) (hQ : Q (some (.int (nI 1))) τ) {x6 x7 x9 x10 x11 e : Int32} : wp E 104 581 [.ref 0, .int x, .int y, .int (nI h), .int (nI (V 1)), .int (nI (V 2)), .int x6, .int x7, .int (nI (V 0)), .int x9, .int x10, .int x11] [.int e, .int e] τ Q :=
  sg104_581 ⟨nn, L.sh, j_cnt L ⟨by rw [cnt_0]; exact nn, fN1, hQ⟩⟩
theorem ac_509 (L : LJ N σ V n Hs t Tx) {c : Nat} (hc : c ≤ 100) {b0 : Int32} (hb1 : (c = 0 ∨ c = 100) → b0 = nI 1) (hb0 : ¬ (c = 0 ∨ c = 100) → b0 = nI 0) (hK : ∀ τ, AR N V n Hs τ → Q (some (.int (nI 1))) τ) :
    wp E 104 509 [.ref 0, .int x, .int y, .int (nI h), .int (nI (V 1)), .int (nI (V 2)), .int (nI c)] [.int b0] σ Q := by
  have hw := L.2.2.1
  have h5 := hw.2.2.2.2
  unfold W5 at h5
  have hr := rg_n (k := c) (a := 1) (b := 99) (by omega) (by decide) (by decide)
  refine sg104_509 ⟨L.sh, j_cnt L ?_⟩
  rw [cnt_0]
  by_cases hb : c = 0 ∨ c = 100
  · rw [hb1 hb]
    have he : eDys V (nI c) = (-1000001 : Int32) := by unfold eDys; rw [if_neg (fun z => by have := hr.mp z; omega)]
    refine ⟨fun z => absurd z one0, fun _ => sg104_533 ⟨L.sh, j_cnt L ⟨L.sh, j_adys L (fun _ τ L2 => ?_) (fun z => absurd z (by rw [he]; exact lt01))⟩⟩⟩
    rw [he]
    exact ⟨fun _ => ⟨fun z => absurd z one0, fun _ => ac_581 L2 (hK τ L2.ar0)⟩, fun z => absurd one0 z⟩
  · rw [hb0 hb]
    refine ⟨fun _ => ⟨L.sh, j_ifd L fun s1 L1 => ?_⟩, fun z => absurd rfl z⟩
    have hq : qIfd V (nI c) = nI (cDays c V) := by unfold qIfd; rw [if_pos (hr.mpr (by omega)), toN_nI (by omega)]
    rw [hq]
    by_cases hl : V 0 + c ≤ 9999
    · have he : eDys V (nI c) = nI 0 := by unfold eDys; rw [if_pos (hr.mpr (by omega)), toN_nI (by omega), if_pos hl]
      refine sg104_533 ⟨L1.sh, j_cnt L1 ⟨L1.sh, j_adys L1 (fun z => absurd (by rw [he]; exact z_le) z) (fun _ τ L2 => ?_)⟩⟩
      rw [toN_nI (by omega)] at L2 ⊢
      obtain ⟨-, d0, d1, d2⟩ := dys_all c (V 0) N V L.2.2.2.1 (hw.to (Nat.le_refl _) (by omega)) (by omega)
      rw [cnt_11, nI_add]
      refine ⟨fun z => absurd rfl z, fun _ => ⟨fun _ => ⟨nn, L2.sh, j_cnt L2 ⟨?_, L2.sh, j_cnt L2 ⟨?_, fN1, hK τ (L2.ar1 (by omega))⟩⟩⟩, fun z => absurd (nI_le hl (by decide)) z⟩⟩
      · rw [cnt_0, d0]; exact nn
      · rw [cnt_11, d1, d2, nI_add]; exact nn
    · have he : eDys V (nI c) = (-1000003 : Int32) := by unfold eDys; rw [if_pos (hr.mpr (by omega)), toN_nI (by omega), if_neg hl]
      refine sg104_533 ⟨L1.sh, j_cnt L1 ⟨L1.sh, j_adys L1 (fun _ τ L2 => ?_) (fun z => absurd z (by rw [he]; exact lt03))⟩⟩
      rw [he]
      refine ⟨fun z => absurd rfl z, fun _ => ⟨fun z => ?_, fun _ => ⟨fun _ => ac_581 L2 (hK τ L2.ar0), fun z => absurd rfl z⟩⟩⟩
      rw [nI_add] at z
      exact absurd z (nI_ge (by omega) (by omega))
/-! set -/
theorem cnt_20 {k : Nat} (hk : k < 8) : qCnt V n t (nI (20 + k)) = nI (V (3 + k)) := by
  have hc : k = 0 ∨ k = 1 ∨ k = 2 ∨ k = 3 ∨ k = 4 ∨ k = 5 ∨ k = 6 ∨ k = 7 := by omega
  rcases hc with rfl | rfl | rfl | rfl | rfl | rfl | rfl | rfl <;> rfl
theorem ac_755 (hE : EOK E) (L : LJ N σ V n Hs t Tx) {w : Nat} (hw8 : w ≤ 8) {v b0 x8 : Int32} (hb1 : nI 0 ≤ eSet (nI w) v → b0 = nI 0) (hb0 : ¬ nI 0 ≤ eSet (nI w) v → b0 = nI 1) (hK : ∀ τ, AR N V n Hs τ → Q (some (.int (nI 1))) τ) :
    wp E 104 755 [.ref 0, .int x, .int y, .int (nI h), .int (nI (V 1)), .int (nI (V 2)), .int (nI w), .int v, .int x8] [.int b0] σ Q := by
  have e8 : nI w = nI 8 ↔ w = 8 := nI_eq (by omega) (by decide)
  have hbad : ¬ nI 0 ≤ eSet (nI w) v → eSet (nI w) v = (-1000001 : Int32) := fun hn => by
    unfold eSet at hn ⊢
    split
    · rename_i g
      rw [if_pos g] at hn
      exact absurd z_le hn
    · rfl
  by_cases h8 : w = 8
  · have he : ¬ nI 0 ≤ eSet (nI w) v := fun z => by
      have := (eSet_ok z).1
      rw [toN_nI (by omega)] at this
      omega
    rw [hb0 he]
    refine sg104_755 ⟨fun z => absurd (e8.mpr h8) z, fun _ => sg104_777 ⟨L.sh, j_aset hE L (fun _ τ L2 => ?_) (fun z => absurd z he)⟩⟩
    rw [hbad he]
    exact ⟨fun z => absurd z one0, fun _ => sg104_799 ⟨nn, fun _ => ⟨fN1, hK τ L2.ar0⟩, fun z => absurd (e8.mpr h8) z⟩⟩
  · have h8' : ¬ nI w = nI 8 := fun z => h8 (e8.mp z)
    refine sg104_755 ⟨fun _ => ⟨L.sh, ?_⟩, fun z => absurd h8' z⟩
    rw [nI_add]
    refine j_cnt L ?_
    rw [cnt_20 (by omega)]
    by_cases he : nI 0 ≤ eSet (nI w) v
    · rw [hb1 he]
      refine sg104_777 ⟨L.sh, j_aset hE L (fun z => absurd he z) (fun _ τ L2 => ?_)⟩
      obtain ⟨-, -, -, -, ev⟩ := eSet_ok he
      rw [toN_nI (by omega)] at L2 ⊢
      refine ⟨fun _ => sg104_799 ⟨nn, fun z => absurd z h8', fun _ => ⟨L2.sh, ?_⟩⟩, fun z => absurd rfl z⟩
      rw [nI_add]
      refine j_cnt L2 ⟨fun _ => ⟨?_, fN1, hK τ (L2.ar1 (by omega))⟩, fun z => absurd rfl z⟩
      rw [cnt_20 (by omega)]
      unfold dSet
      rw [upN_s, ← ev]
      exact nn
    · rw [hb0 he]
      refine sg104_777 ⟨L.sh, j_aset hE L (fun _ τ L2 => ?_) (fun z => absurd z he)⟩
      rw [hbad he]
      refine ⟨fun z => absurd z one0, fun _ => sg104_799 ⟨nn, fun z => absurd z h8', fun _ => ⟨L2.sh, ?_⟩⟩⟩
      rw [nI_add]
      refine j_cnt L2 ⟨fun z => absurd z one0, fun _ => ⟨?_, fN1, hK τ L2.ar0⟩⟩
      rw [cnt_20 (by omega)]
      exact nn
theorem set_ok {w : Nat} (hw8 : w ≤ 8) {v : Int32} : nI 0 ≤ eSet (nI w) v ↔ w ≠ 8 ∧ ¬ v < nI (loS (nI w)) ∧ ¬ nI (hiS (nI w)) < v := by
  have hr := rg_n (k := w) (a := 0) (b := 7) (by omega) (by decide) (by decide)
  have hv : inRg v (nI (loS (nI w))) (nI (hiS (nI w))) = true ↔ ¬ v < nI (loS (nI w)) ∧ ¬ nI (hiS (nI w)) < v := by
    unfold inRg
    simp only [Bool.and_eq_true, Bool.not_eq_true', decide_eq_false_iff_not]
  unfold eSet
  split
  · rename_i g
    have := hr.mp g.1
    exact ⟨fun _ => ⟨by omega, hv.mp g.2⟩, fun _ => z_le⟩
  · rename_i g
    refine ⟨fun z => absurd z lt01, fun z => absurd ⟨hr.mpr (by omega), hv.mpr z.2⟩ g⟩
theorem not_le_gt {a b : Int32} : a ≤ b ↔ ¬ b < a := by
  rw [Int32.le_iff_toInt_le, Int32.lt_iff_toInt_lt]
  omega
theorem ac_718 (hE : EOK E) (L : LJ N σ V n Hs t Tx) {w : Nat} (hw8 : w ≤ 8) {v b0 : Int32} (hb : w ≠ 8 → b0 = nI (hiS (nI w))) (hK : ∀ τ, AR N V n Hs τ → Q (some (.int (nI 1))) τ) :
    wp E 104 718 [.ref 0, .int x, .int y, .int (nI h), .int (nI (V 1)), .int (nI (V 2)), .int (nI w), .int v] [.int b0] σ Q := by
  have e8 : nI w = nI 8 ↔ w = 8 := nI_eq (by omega) (by decide)
  have e1 : nI w = nI 1 ↔ w = 1 := nI_eq (by omega) (by decide)
  have so := set_ok hw8 (v := v)
  have good : nI 0 ≤ eSet (nI w) v → wp E 104 755 [.ref 0, .int x, .int y, .int (nI h), .int (nI (V 1)), .int (nI (V 2)), .int (nI w), .int v, .int b0] [.int (nI 0)] σ Q := fun he => ac_755 hE L hw8 (fun _ => rfl) (fun z => absurd he z) hK
  have bad : ¬ nI 0 ≤ eSet (nI w) v → wp E 104 755 [.ref 0, .int x, .int y, .int (nI h), .int (nI (V 1)), .int (nI (V 2)), .int (nI w), .int v, .int b0] [.int (nI 1)] σ Q := fun he => ac_755 hE L hw8 (fun z => absurd z he) (fun _ => rfl) hK
  refine sg104_718 ⟨fun z => bad fun q => (so.mp q).1 (e8.mp z), fun z8 => ⟨fun z1 => ?_, fun z1 => ?_⟩⟩
  · have h8 : w ≠ 8 := fun q => z8 (e8.mpr q)
    have hl : loS (nI w) = 0 := by unfold loS; rw [if_neg z1]
    rw [hl] at so
    refine ⟨fun z => bad fun q => (so.mp q).2.1 z, fun z0 => ⟨fun z => good (so.mpr ⟨h8, z0, by rw [← hb h8]; exact not_le_gt.mp z⟩), fun z => bad fun q => z (not_le_gt.mpr (by rw [hb h8]; exact (so.mp q).2.2))⟩⟩
  · have h8 : w ≠ 8 := fun q => z8 (e8.mpr q)
    have hl : loS (nI w) = 1 := by unfold loS; rw [if_pos (Classical.not_not.mp z1)]
    rw [hl] at so
    refine ⟨fun z => bad fun q => (so.mp q).2.1 z, fun z0 => ⟨fun z => good (so.mpr ⟨h8, z0, by rw [← hb h8]; exact not_le_gt.mp z⟩), fun z => bad fun q => z (not_le_gt.mpr (by rw [hb h8]; exact (so.mp q).2.2))⟩⟩
theorem ac_642s (hE : EOK E) (L : LJ N σ V n Hs t Tx) (h21 : h < 21) (hK : ∀ τ, AR N V n Hs τ → Q (some (.int (nI 1))) τ) :
    wp E 104 642 [.ref 0, .int x, .int y, .int (nI h), .int (nI (V 1)), .int (nI (V 2))] [] σ Q := by
  refine sg104_642 ⟨fun z => absurd z (nI_ge (by omega) (by decide)), fun _ => j_low (by decide) (by decide) (j_low (by decide) (by decide) ?_)⟩
  have h9 := lowV_lt y (k := 9) (by decide)
  generalize lowV y 9 = w at h9 ⊢
  have ew : ∀ k, k < 9 → (nI w = nI k ↔ w = k) := fun k hk => nI_eq (by omega) (by omega)
  have go : ∀ b0 : Int32, (w ≠ 8 → b0 = nI (hiS (nI w))) → wp E 104 718 [.ref 0, .int x, .int y, .int (nI h), .int (nI (V 1)), .int (nI (V 2)), .int (nI w), .int (nI (lowV (y >>> ((nI 4) &&& 31)) 103) - nI 1)] [.int b0] σ Q := fun b0 hb => ac_718 hE L (by omega) hb hK
  refine ⟨fun z0 => ⟨fun z1 => ⟨fun z3 => go _ fun _ => ?_, fun z3 => ⟨fun z6 => ⟨fun z4 => go _ fun h8 => ?_, fun z4 => go _ fun _ => ?_⟩, fun z6 => go _ fun _ => ?_⟩⟩, fun z1 => go _ fun _ => ?_⟩, fun z0 => go _ fun _ => ?_⟩
  · rw [z3]; decide
  · have hc : w = 2 ∨ w = 5 ∨ w = 7 := by
      have a0 : w ≠ 0 := fun q => z0 ((ew 0 (by decide)).mpr q)
      have a1 : w ≠ 1 := fun q => z1 ((ew 1 (by decide)).mpr q)
      have a3 : w ≠ 3 := fun q => z3 ((ew 3 (by decide)).mpr q)
      have a6 : w ≠ 6 := fun q => z6 ((ew 6 (by decide)).mpr q)
      have a4 : w ≠ 4 := fun q => z4 ((ew 4 (by decide)).mpr q)
      omega
    rcases hc with rfl | rfl | rfl <;> decide
  · rw [Classical.not_not.mp z4]; decide
  · rw [Classical.not_not.mp z6]; decide
  · rw [Classical.not_not.mp z1]; decide
  · rw [Classical.not_not.mp z0]; decide
end A
theorem j_acts (hE : EOK E) (L : LJ N σ V n Hs t Tx) {x y : Int32} (hK : ∀ τ, AR N V n Hs τ → K (nI 1) τ) : cI E 104 [.ref 0, .int x, .int y] σ K := by
  have h12 := L.2.2.1.w12
  have hQ : ∀ τ, AR N V n Hs τ → QI K (some (.int (nI 1))) τ := fun τ h => hK τ h
  refine sg104_0 (j_low (by decide) (by decide) ⟨L.sh, j_cnt L ⟨L.sh, j_cnt L ?_⟩⟩)
  have h24 := lowV_lt x (k := 24) (by decide)
  rw [cnt_1, cnt_2]
  generalize lowV x 24 = h at h24 ⊢
  refine ⟨fun z2 => ?_, fun z2 => j_low (by decide) (by decide) ?_⟩
  · by_cases h6 : h < 6
    · exact ac_123b L h6 hQ
    refine sg104_123 ⟨fun _ => ?_, fun z => absurd (nI_le (by omega) (by omega)) z⟩
    by_cases h11 : h < 11
    · refine sg104_351 ⟨fun z => absurd z (nI_ge h11 (by decide)), fun _ => ⟨fun _ => j_crews L (by decide) fun τ hA => ⟨fN1, hQ τ hA⟩, fun _ => j_crews L (by decide) fun τ hA => ⟨fN1, hQ τ hA⟩⟩⟩
    refine sg104_351 ⟨fun _ => ?_, fun z => absurd (nI_le (by omega) (by omega)) z⟩
    by_cases he : h = 11
    · subst he
      refine sg104_374 ⟨fun z => absurd rfl z, fun _ => j_low (by decide) (by decide) ?_⟩
      have hc := lowV_lt y (k := 1001) (by decide)
      generalize lowV y 1001 = c at hc ⊢
      have e0 : nI c = nI 0 ↔ c = 0 := nI_eq (by omega) (by decide)
      have e1 : nI c = nI 1000 ↔ c = 1000 := nI_eq (by omega) (by decide)
      refine ⟨fun z => ac_407 L (by omega) (fun _ => rfl) (fun q => absurd (Or.inl (e0.mp z)) q) hQ, fun z0 => ⟨fun z => ac_407 L (by omega) (fun q => ?_) (fun _ => rfl) hQ, fun z => ac_407 L (by omega) (fun _ => rfl) (fun q => absurd (Or.inr (e1.mp (Classical.not_not.mp z))) q) hQ⟩⟩
      rcases q with q | q
      · exact absurd (e0.mpr q) z0
      · exact absurd (e1.mpr q) z
    refine sg104_374 ⟨fun _ => ?_, fun z => absurd (Classical.not_not.mp z) (nI_ne (by omega) (by decide) he)⟩
    by_cases h17 : h < 17
    · refine sg104_462 ⟨fun z => absurd z (nI_ge h17 (by decide)), fun _ => j_low (by decide) (by decide) ?_⟩
      have dys : ∀ c : Nat, c ≤ 100 → (nI c = nI 0 → wp E 104 509 [.ref 0, .int x, .int y, .int (nI h), .int (nI (V 1)), .int (nI (V 2)), .int (nI c)] [.int (nI 1)] σ (QI K)) ∧ (¬ nI c = nI 0 → (nI c ≠ nI 100 → wp E 104 509 [.ref 0, .int x, .int y, .int (nI h), .int (nI (V 1)), .int (nI (V 2)), .int (nI c)] [.int (nI 0)] σ (QI K)) ∧ (¬ nI c ≠ nI 100 → wp E 104 509 [.ref 0, .int x, .int y, .int (nI h), .int (nI (V 1)), .int (nI (V 2)), .int (nI c)] [.int (nI 1)] σ (QI K))) := fun c hc => by
        have e0 : nI c = nI 0 ↔ c = 0 := nI_eq (by omega) (by decide)
        have e1 : nI c = nI 100 ↔ c = 100 := nI_eq (by omega) (by decide)
        refine ⟨fun z => ac_509 L hc (fun _ => rfl) (fun q => absurd (Or.inl (e0.mp z)) q) hQ, fun z0 => ⟨fun z => ac_509 L hc (fun q => ?_) (fun _ => rfl) hQ, fun z => ac_509 L hc (fun _ => rfl) (fun q => absurd (Or.inr (e1.mp (Classical.not_not.mp z))) q) hQ⟩⟩
        rcases q with q | q
        · exact absurd (e0.mpr q) z0
        · exact absurd (e1.mpr q) z
      refine ⟨fun _ => sg104_487 (j_low (by decide) (by decide) (dys _ ?_)), fun _ => sg104_487 (j_low (by decide) (by decide) (dys _ ?_))⟩
      · have := lowV_lt y (k := 15) (by decide)
        omega
      · have := lowV_lt y (k := 101) (by decide)
        omega
    refine sg104_462 ⟨fun _ => ?_, fun z => absurd (nI_le (by omega) (by omega)) z⟩
    by_cases h21 : h < 21
    · exact ac_642s hE L h21 hQ
    refine sg104_642 ⟨fun _ => sg104_839 (j_reads L fun τ hA => ⟨fN1, hQ τ hA⟩), fun z => absurd (nI_le (by omega) (by omega)) z⟩
  · have hk := lowV_lt y (k := 102) (by decide)
    generalize lowV y 102 = k at hk ⊢
    have hr := prd_rg (k := k) (a := 0) (b := 99) (by omega) (by decide) (by decide)
    have el := prd_lt (k := k) (by omega)
    have e100 : nI k - nI 1 = nI 100 ↔ k = 101 := by
      by_cases h0 : k = 0
      · rw [h0, prd0]
        exact ⟨fun z => absurd z (by decide), fun z => by omega⟩
      · rw [prd (by omega), nI_eq (by omega) (by decide)]
        omega
    have hbad : (k = 0 ∨ k = 101) ↔ ¬ inRg (nI k - nI 1) (nI 0) (nI 99) = true := by
      rw [hr]
      omega
    refine ⟨fun z => ac_53 L (fun _ => rfl) (fun q => absurd (Or.inl (el.mp z)) q) hbad hQ, fun z0 => ⟨fun z => ac_53 L (fun q => ?_) (fun _ => rfl) hbad hQ, fun z => ac_53 L (fun _ => rfl) (fun q => absurd (Or.inr (e100.mp (Classical.not_not.mp z))) q) hbad hQ⟩⟩
    rcases q with q | q
    · exact absurd (el.mpr q) z0
    · exact absurd (e100.mpr q) z
end ACT
