/-! p27: the law types a text -/
section TYP
variable {E : AEnv} {σ τ : ASt} {V W : Nat → Nat} {m n t N : Nat} {Hs : Nat → Nat → Nat} {Tx : Nat → Nat} {Q : Option Value → ASt → Prop} {K : Int32 → ASt → Prop}
theorem cnS_cong {T : Nat → Nat} : ∀ k, (∀ j, j < k → T j = Tx j) → cnS T k = cnS Tx k
  | 0, _ => rfl
  | k + 1, h => by rw [cnS, cnS, cnS_cong k (fun j hj => h j (by omega)), h k (by omega)]
theorem cnS_up {c : Nat} : cnS (upN Tx t c) (t + 1) = cnS Tx t + (if c = 59 then 1 else 0) := by
  rw [cnS, upN_s, cnS_cong t (fun j hj => upN_n (by omega))]
theorem j_ch (L : LJ N σ V n Hs t Tx) {c : Nat} (hc : 32 ≤ c ∧ c ≤ 126) (ht : t < 60) (hK : ∀ τ, LJ N τ V n Hs (t + 1) (upN Tx t c) → K (nI (t + 1)) τ) : cI E 78 [.ref 0, .int (nI c)] σ K := by
  refine u_typ L.1 L.2.1 fun τ hf hc2 => ?_
  have hr : inRg (nI c) (nI 32) (nI 126) = true := (inRg_nn (by decide) (by decide)).mpr ⟨c, hc.1, hc.2, rfl⟩
  unfold nTyp fTyp at hc2
  unfold qTyp
  rw [if_pos hr, if_neg (by omega)] at hc2 ⊢
  rw [if_pos hr, if_neg (by omega), toN_nI (by omega)] at hc2
  refine hK τ ⟨hf.mi L.1, hc2, L.2.2.1, L.2.2.2.1, L.2.2.2.2.1, fun j hj => ?_⟩
  by_cases hjt : j = t
  · rw [hjt, upN_s]; exact hc.2
  · rw [upN_n hjt]; exact L.2.2.2.2.2 j (by omega)
theorem gt0 {k : Nat} (hk : k < 1000) : ¬ nI (k + 1) ≤ nI 0 := nI_ge (by omega) (by omega)
theorem nI_dv {a b : Nat} (ha : a < 2 ^ 31) (hb : b < 2 ^ 31) (h0 : 0 < b) : nI a / nI b = nI (a / b) := by
  refine Int32.toInt_inj.mp ?_
  rw [nI_toInt (Nat.lt_of_le_of_lt (Nat.div_le_self a b) ha)]
  rw [lg_idiv_nonneg (by rw [nI_toInt ha]; omega) (by rw [nI_toInt hb]; omega), nI_toInt ha, nI_toInt hb]
  rfl
theorem n10 : ¬ nI 10 = 0 := nI_ne0 (by decide) (by decide)
theorem fN1 : fN .boolean (nI 1) = true := by decide
/-- after the hundreds, the tens -/
theorem num_43 (L : LJ N σ V n Hs t Tx) {j : Nat} (hj : j < 1000) (ht : t < 60) (hK : ∀ τ Tx', LJ N τ V n Hs (t + 1) Tx' → cnS Tx' (t + 1) = cnS Tx t → Q (some (.int (nI 1))) τ) : wp E 100 43 [.ref 0, .int (nI j)] [] σ Q := by
  refine sg100_43 ⟨n10, L.sh, ?_⟩
  rw [nI_rem (by omega) (by decide) (by decide), nI_add]
  have h10 : j % 10 < 10 := Nat.mod_lt _ (by decide)
  refine j_ch L (by omega) ht fun τ L2 => ⟨gt0 (by omega), fN1, hK τ _ L2 ?_⟩
  rw [cnS_up, if_neg (by omega)]
  rfl
theorem num_20 (L : LJ N σ V n Hs t Tx) {j : Nat} (hj : j < 1000) (ht : t + 1 < 60) (hK : ∀ τ t' Tx', LJ N τ V n Hs t' Tx' → t' ≤ t + 2 → cnS Tx' t' = cnS Tx t → Q (some (.int (nI 1))) τ) : wp E 100 20 [.ref 0, .int (nI j)] [] σ Q := by
  refine sg100_20 ⟨fun _ => num_43 L hj (by omega) fun τ Tx' L2 h2 => hK τ _ _ L2 (by omega) h2, fun _ => ⟨n10, n10, L.sh, ?_⟩⟩
  have hd : j / 10 < 100 := by omega
  rw [nI_dv (by omega) (by decide) (by decide), nI_rem (by omega) (by decide) (by decide), nI_add]
  have h10 : j / 10 % 10 < 10 := Nat.mod_lt _ (by decide)
  refine j_ch L (by omega) (by omega) fun τ L2 => ⟨gt0 (by omega), num_43 L2 hj ht fun τ2 Tx' L3 h3 => hK τ2 _ _ L3 (by omega) ?_⟩
  rw [h3, cnS_up, if_neg (by omega)]
  rfl
theorem j_num (L : LJ N σ V n Hs t Tx) {j : Nat} (hj : j < 1000) (ht : t + (if j < 100 then 2 else 3) ≤ 60) (hK : ∀ τ t' Tx', LJ N τ V n Hs t' Tx' → t' ≤ t + (if j < 100 then 2 else 3) → cnS Tx' t' = cnS Tx t → K (nI 1) τ) : cI E 100 [.ref 0, .int (nI j)] σ K := by
  refine sg100_0 ⟨fun h => ?_, fun h => ⟨nI_ne0 (by decide) (by decide), L.sh, ?_⟩⟩
  · rw [nI_ltI (by omega) (by decide)] at h
    rw [if_pos h] at ht hK
    exact num_20 L hj (by omega) fun τ t' Tx' L2 h2 h3 => hK τ t' Tx' L2 h2 h3
  · rw [nI_ltI (by omega) (by decide)] at h
    rw [if_neg h] at ht hK
    rw [nI_dv (by omega) (by decide) (by decide), nI_add]
    refine j_ch L (by omega) (by omega) fun τ L2 => ⟨gt0 (by omega), num_20 L2 hj (by omega) fun τ2 t' Tx' L3 h2 h3 => hK τ2 _ _ L3 (by omega) ?_⟩
    rw [h3, cnS_up, if_neg (by omega)]
    rfl
theorem one0 : ¬ nI 1 = nI 0 := by decide
theorem sub1 {a b : Nat} (ha : a < 1000) (hb : b < 1000) (hb0 : 0 < b) : nI a ≠ nI b - nI 1 ↔ a + 1 ≠ b := by
  have e : nI b - nI 1 = nI (b - 1) := by
    obtain ⟨c, rfl⟩ : ∃ c, b = c + 1 := ⟨b - 1, by omega⟩
    rw [← nI_add, Int32.add_sub_cancel, Nat.add_sub_cancel]
  rw [e, Ne, nI_eq (by omega) (by omega)]
  omega
section ORD
variable {x y : Int32} {k n0 w : Nat}
/-- the order's end -/
theorem ty_361 (L : LJ N σ V n Hs t Tx) (ht : t < 60) (hk : k < n0) (hn : n0 < 6)
    (h1 : ∀ τ Tx', LJ N τ V n Hs (t + 1) Tx' → cnS Tx' (t + 1) = cnS Tx t + 1 ∨ (∃ j, j < t + 1 ∧ Tx' j = 46) ∧ k + 1 = n0 → wp E 101 23 [.ref 0, .int x, .int (nI n0), .int (nI 1), .int (nI (k + 1))] [] τ Q) :
    wp E 101 361 [.ref 0, .int x, .int (nI n0), .int (nI 1), .int (nI k), .int y, .int (nI w)] [] σ Q := by
  have semi : ∀ s, LJ N s V n Hs t Tx → cI E 78 [.ref 0, .int (nI 59)] s (fun x2 s1 => ¬ x2 ≤ (nI 0) ∧ wp E 101 404 [.ref 0, .int x, .int (nI n0), .int (nI 1), .int (nI k), .int y, .int (nI w)] [.int (nI 1)] s1 Q) := fun s Ls =>
    j_ch Ls (by omega) ht fun τ L2 => ⟨gt0 (by omega), sg101_404 (by
      rw [nI_add]
      exact h1 τ _ L2 (Or.inl (by rw [cnS_up, if_pos rfl])))⟩
  refine sg101_361 ⟨one0, fun _ => ⟨L.sh, semi σ L⟩, fun hl => j_low (by decide) (by decide) ⟨fun _ => ⟨L.sh, semi σ L⟩, fun _ => ⟨L.sh, j_ch L (by omega) ht fun τ L2 => ⟨gt0 (by omega), sg101_404 ?_⟩⟩⟩⟩
  rw [nI_add]
  have hl : k + 1 = n0 := Classical.not_not.mp (fun z => hl ((sub1 (by omega) (by omega) (by omega)).mpr z))
  exact h1 τ _ L2 (Or.inr ⟨⟨t, by omega, upN_s _ _ _⟩, hl⟩)
theorem ty_349 (L : LJ N σ V n Hs t Tx) {j : Nat} (hj : j < 100) (ht : t + 2 < 60) (hk : k < n0) (hn : n0 < 6)
    (h1 : ∀ τ t' Tx', LJ N τ V n Hs t' Tx' → t' ≤ t + 3 → cnS Tx' t' = cnS Tx t + 1 ∨ (∃ j, j < t' ∧ Tx' j = 46) ∧ k + 1 = n0 → wp E 101 23 [.ref 0, .int x, .int (nI n0), .int (nI 1), .int (nI (k + 1))] [] τ Q) :
    wp E 101 349 [.ref 0, .int x, .int (nI n0), .int (nI 1), .int (nI k), .int y, .int (nI w)] [.int (nI j), .ref 0] σ Q := by
  refine sg101_349 (j_num L (by omega) (by rw [if_pos hj]; omega) fun τ t' Tx' L2 h2 h3 => ⟨one0, ty_361 L2 ?_ hk hn fun τ2 T2 L3 h4 => h1 τ2 _ _ L3 ?_ ?_⟩)
  · rw [if_pos hj] at h2; omega
  · rw [if_pos hj] at h2; omega
  · rw [h3] at h4; exact h4
/-- the second and the third number of a bridge's order -/
theorem ty_com (L : LJ N σ V n Hs t Tx) (ht : t + 7 ≤ 60) (hk : k < n0) (hn : n0 < 6)
    (h1 : ∀ τ t' Tx', LJ N τ V n Hs t' Tx' → t' ≤ t + 7 → cnS Tx' t' = cnS Tx t + 1 ∨ (∃ j, j < t' ∧ Tx' j = 46) ∧ k + 1 = n0 → wp E 101 23 [.ref 0, .int x, .int (nI n0), .int (nI 1), .int (nI (k + 1))] [] τ Q) :
    cI E 78 [.ref 0, .int (nI 44)] σ (fun x2 s1 =>
    ¬ x2 ≤ (nI 0) ∧ sh s1 0 5 8 ∧ cI E 76 [.ref 0, .int (nI 1)] s1 (fun x4 s3 =>
    cI E 96 [.int (y >>> ((nI 3) &&& 31)), .int (x4 + (nI 1))] s3 (fun x6 s5 =>
    cI E 100 [.ref 0, .int x6] s5 (fun x8 s7 =>
    ¬ x8 = (nI 0) ∧ sh s7 0 5 8 ∧ cI E 78 [.ref 0, .int (nI 44)] s7 (fun x10 s9 =>
    ¬ x10 ≤ (nI 0) ∧ cI E 96 [.int (x >>> ((nI 24) &&& 31)), .int (nI 9)] s9 (fun x12 s11 =>
    (x12 ≠ (nI 0) →
      cI E 96 [.int (y >>> ((nI 4) &&& 31)), .int (nI 9)] s11 (fun x14 s13 =>
      wp E 101 349 [.ref 0, .int x, .int (nI n0), .int (nI 1), .int (nI k), .int y, .int (nI w)] [.int ((nI 1) + x14), .ref 0] s13 Q)) ∧
    (¬ x12 ≠ (nI 0) →
      cI E 96 [.int (y >>> ((nI 4) &&& 31)), .int (nI 12)] s11 (fun x16 s15 =>
      wp E 101 349 [.ref 0, .int x, .int (nI n0), .int (nI 1), .int (nI k), .int y, .int (nI w)] [.int x16, .ref 0] s15 Q)))))))) := by
  have w1 := L.w1
  refine j_ch L (by omega) (by omega) fun τ L2 => ⟨gt0 (by omega), L2.sh, j_cnt L2 ?_⟩
  rw [cnt_1, nI_add]
  refine j_low (by omega) (by omega) ?_
  have hl := lowV_lt (y >>> ((nI 3) &&& 31)) (k := V 1 + 1) (by omega)
  refine j_num L2 (by omega) (by rw [if_pos (by omega)]; omega) fun τ2 t2 T2 L3 h2 h3 => ⟨one0, L3.sh, ?_⟩
  rw [if_pos (by omega)] at h2
  rw [cnS_up, if_neg (by decide)] at h3
  refine j_ch L3 (by omega) (by omega) fun τ3 L4 => ⟨gt0 (by omega), j_low (by decide) (by decide) ⟨fun _ => j_low (by decide) (by decide) ?_, fun _ => j_low (by decide) (by decide) ?_⟩⟩
  · have h9 := lowV_lt (y >>> ((nI 4) &&& 31)) (k := 9) (by decide)
    rw [nI_add]
    refine ty_349 L4 (by omega) (by omega) hk hn fun τ4 t4 T4 L5 h4 h5 => h1 τ4 t4 T4 L5 (by omega) ?_
    rw [cnS_up, if_neg (by decide), h3] at h5
    exact h5
  · have h9 := lowV_lt (y >>> ((nI 4) &&& 31)) (k := 12) (by decide)
    refine ty_349 L4 (by omega) (by omega) hk hn fun τ4 t4 T4 L5 h4 h5 => h1 τ4 t4 T4 L5 (by omega) ?_
    rw [cnS_up, if_neg (by decide), h3] at h5
    exact h5
theorem ty_257 (L : LJ N σ V n Hs t Tx) (ht : (w = 2 ∨ w = 3 → t + 7 ≤ 60) ∧ t < 60) (hk : k < n0) (hn : n0 < 6)
    (h1 : ∀ τ t' Tx', LJ N τ V n Hs t' Tx' → t' ≤ t + 7 → (w ≠ 2 ∧ w ≠ 3 → t' ≤ t + 1) → cnS Tx' t' = cnS Tx t + 1 ∨ (∃ j, j < t' ∧ Tx' j = 46) ∧ k + 1 = n0 → wp E 101 23 [.ref 0, .int x, .int (nI n0), .int (nI 1), .int (nI (k + 1))] [] τ Q) (hw : w < 11) :
    wp E 101 257 [.ref 0, .int x, .int (nI n0), .int (nI 1), .int (nI k), .int y, .int (nI w)] [.int (nI 1)] σ Q := by
  refine sg101_257 ⟨fun h => ?_, fun h => ⟨fun h2 => ty_361 L ht.2 hk hn fun τ Tx' L2 h3 => h1 τ _ Tx' L2 (by omega) (fun _ => Nat.le_refl _) h3, fun h => ?_⟩⟩
  · have hw2 : w = 2 := (nI_eq (by omega) (by decide)).mp h
    exact ⟨one0, L.sh, ty_com L (ht.1 (Or.inl hw2)) hk hn fun τ t' Tx' L2 h2 h3 => h1 τ t' Tx' L2 h2 (fun z => absurd hw2 z.1) h3⟩
  · have hw3 : w = 3 := (nI_eq (by omega) (by decide)).mp (Classical.not_not.mp h)
    exact ⟨one0, L.sh, ty_com L (ht.1 (Or.inr hw3)) hk hn fun τ t' Tx' L2 h2 h3 => h1 τ t' Tx' L2 h2 (fun z => absurd hw3 z.2) h3⟩
theorem ty_246 (L : LJ N σ V n Hs t Tx) {j : Nat} (hj : j < 1000) (ht : t + 9 ≤ 60) (hjw : w = 2 ∨ w = 3 → j < 100) (hk : k < n0) (hn : n0 < 6) (hw : w < 11)
    (h1 : ∀ τ t' Tx', LJ N τ V n Hs t' Tx' → t' ≤ t + 9 → cnS Tx' t' = cnS Tx t + 1 ∨ (∃ j, j < t' ∧ Tx' j = 46) ∧ k + 1 = n0 → wp E 101 23 [.ref 0, .int x, .int (nI n0), .int (nI 1), .int (nI (k + 1))] [] τ Q) :
    wp E 101 246 [.ref 0, .int x, .int (nI n0), .int (nI 1), .int (nI k), .int y, .int (nI w)] [.int (nI j), .ref 0] σ Q := by
  have h3 : (if j < 100 then 2 else 3) ≤ 3 := by split <;> omega
  by_cases hc : w = 2 ∨ w = 3
  · have hj1 := hjw hc
    refine sg101_246 (j_num L hj (by rw [if_pos hj1]; omega) fun τ t' Tx' L2 h2 h4 => ⟨one0, ?_⟩)
    rw [if_pos hj1] at h2
    refine ty_257 L2 ⟨fun _ => by omega, by omega⟩ hk hn (fun τ2 t2 T2 L3 h5 _ h6 => h1 τ2 t2 T2 L3 (by omega) ?_) hw
    rw [h4] at h6
    exact h6
  · refine sg101_246 (j_num L hj (by omega) fun τ t' Tx' L2 h2 h4 => ⟨one0, ?_⟩)
    refine ty_257 L2 ⟨fun z => absurd z hc, by omega⟩ hk hn (fun τ2 t2 T2 L3 _ h5 h6 => h1 τ2 t2 T2 L3 ?_ ?_) hw
    · have := h5 ⟨fun z => hc (Or.inl z), fun z => hc (Or.inr z)⟩
      omega
    · rw [h4] at h6
      exact h6
theorem ty_123 (L : LJ N σ V n Hs t Tx) {c : Nat} (hc : 32 ≤ c ∧ c ≤ 126 ∧ c ≠ 59) (ht : t + 10 ≤ 60) (hk : k < n0) (hn : n0 < 6) (hw : w < 11)
    (h1 : ∀ τ t' Tx', LJ N τ V n Hs t' Tx' → t' ≤ t + 10 → cnS Tx' t' = cnS Tx t + 1 ∨ (∃ j, j < t' ∧ Tx' j = 46) ∧ k + 1 = n0 → wp E 101 23 [.ref 0, .int x, .int (nI n0), .int (nI 1), .int (nI (k + 1))] [] τ Q) :
    wp E 101 123 [.ref 0, .int x, .int (nI n0), .int (nI 1), .int (nI k), .int y, .int (nI w)] [.int (nI c), .ref 0] σ Q := by
  have w1 := L.w1
  refine sg101_123 ⟨L.sh, j_ch L ⟨hc.1, hc.2.1⟩ (by omega) fun s1 L1 => ⟨gt0 (by omega), ?_⟩⟩
  have nx : ∀ (j : Nat) (s : ASt), j < 1000 → (w = 2 ∨ w = 3 → j < 100) → LJ N s V n Hs (t + 1) (upN Tx t c) → wp E 101 246 [.ref 0, .int x, .int (nI n0), .int (nI 1), .int (nI k), .int y, .int (nI w)] [.int (nI j), .ref 0] s Q := fun j s hj hjw Ls =>
    ty_246 Ls hj (by omega) hjw hk hn hw fun τ t' Tx' L2 h2 h3 => h1 τ t' Tx' L2 (by omega) (by
      rw [cnS_up, if_neg hc.2.2] at h3
      exact h3)
  refine ⟨fun a => ⟨fun b => ⟨fun _ => j_low (by decide) (by decide) ⟨fun _ => j_low (by decide) (by decide) ?_, fun _ => j_low (by decide) (by decide) ?_⟩, fun _ => ⟨L1.sh, j_cnt L1 ?_⟩⟩, fun _ => ⟨L1.sh, j_cnt L1 ?_⟩⟩, fun a => j_low (by decide) (by decide) ⟨fun _ => j_low (by decide) (by decide) ?_, fun _ => j_low (by decide) (by decide) ?_⟩⟩
  · have := lowV_lt (y >>> ((nI 2) &&& 31)) (k := 20) (by decide)
    rw [nI_add]
    exact nx _ _ (by omega) (fun _ => by omega) L1
  · have := lowV_lt (y >>> ((nI 2) &&& 31)) (k := 200) (by decide)
    refine nx _ _ (by omega) (fun hq => ?_) L1
    rw [nI_leI (by decide) (by omega)] at b
    omega
  · rw [cnt_2, nI_add]
    refine j_low (by omega) (by omega) ?_
    have := lowV_lt (y >>> ((nI 2) &&& 31)) (k := V 2 + 1) (by omega)
    exact nx _ _ (by omega) (fun _ => by omega) L1
  · rw [cnt_1]
    have h1 := L.2.2.1.1
    unfold W1 at h1
    refine j_low (by omega) (by omega) ?_
    have := lowV_lt (y >>> ((nI 2) &&& 31)) (k := V 1) (by omega)
    exact nx _ _ (by omega) (fun _ => by omega) L1
  · have := lowV_lt (y >>> ((nI 2) &&& 31)) (k := 50) (by decide)
    exact nx _ _ (by omega) (fun _ => by omega) L1
  · have := lowV_lt (y >>> ((nI 2) &&& 31)) (k := 120) (by decide)
    refine nx _ _ (by omega) (fun hq => ?_) L1
    rw [nI_leI (by decide) (by omega)] at a
    omega
end ORD
/-- the loop over the orders -/
theorem ty_loop {x : Int32} {n0 : Nat} (hn : n0 < 6) (hK : ∀ τ t' Tx', LJ N τ V n Hs t' Tx' → cnS Tx' t' = n0 ∨ (∃ j, j < t' ∧ Tx' j = 46) → Q (some (.int (nI 1))) τ) : ∀ (d k t : Nat) (Tx : Nat → Nat) (σ : ASt), k + d = n0 → t ≤ 10 * k → (cnS Tx t = k ∨ (∃ j, j < t ∧ Tx j = 46) ∧ k = n0) → LJ N σ V n Hs t Tx → wp E 101 23 [.ref 0, .int x, .int (nI n0), .int (nI 1), .int (nI k)] [] σ Q
  | 0, k, t, Tx, σ, hk, ht, hT, L => by
    refine sg101_23 ⟨fun _ => ⟨fN1, hK σ t Tx L ?_⟩, fun z => absurd (nI_le (by omega) (by omega)) z⟩
    rcases hT with h | h
    · exact Or.inl (by omega)
    · exact Or.inr h.1
  | d + 1, k, t, Tx, σ, hk, ht, hT, L => by
    have hT : cnS Tx t = k := by
      rcases hT with h | h
      · exact h
      · omega
    have nx : ∀ (c : Nat) (y : Int32), 32 ≤ c ∧ c ≤ 126 ∧ c ≠ 59 → wp E 101 123 [.ref 0, .int x, .int (nI n0), .int (nI 1), .int (nI k), .int y, .int (nI (lowV y 11))] [.int (nI c), .ref 0] σ Q := fun c y hc =>
      ty_123 L hc (by omega) (by omega) hn (lowV_lt _ (by decide)) fun τ t' Tx' L2 h2 h3 => ty_loop hn hK d (k + 1) t' Tx' τ (by omega) (by omega) (by rw [hT] at h3; exact h3) L2
    refine sg101_23 ⟨fun z => absurd z (nI_ge (by omega) (by omega)), fun _ => j_low (by decide) (by decide) ⟨one0, fun _ => ⟨fun _ => ⟨fun _ => ⟨fun _ => ⟨fun _ => ⟨fun _ => ?_, fun _ => ?_⟩, fun _ => ?_⟩, fun _ => ?_⟩, fun _ => ?_⟩, fun _ => ?_⟩, fun _ => ?_⟩⟩
    · exact nx 100 _ (by decide)
    · exact nx 112 _ (by decide)
    · exact nx 114 _ (by decide)
    · exact nx 102 _ (by decide)
    · exact nx 115 _ (by decide)
    · exact nx 98 _ (by decide)
    · exact nx 105 _ (by decide)
theorem j_types (L : LJ N σ V n Hs t Tx) {x : Int32} (hK : ∀ τ t' Tx', LJ N τ V n Hs t' Tx' → cnS Tx' t' = lowV x 6 ∨ (∃ j, j < t' ∧ Tx' j = 46) → K (nI 1) τ) : cI E 101 [.ref 0, .int x] σ K := by
  refine sg101_0 (j_low (by decide) (by decide) ⟨L.sh, u_clr L.1 L.2.1 fun τ hf hc => ⟨?_, ?_⟩⟩)
  · exact nI_nlt (Nat.zero_le _) (by have := L.t60; omega)
  · exact ty_loop (lowV_lt _ (by decide)) hK (lowV x 6) 0 0 Tx τ (by omega) (by omega) (Or.inl rfl) ⟨hf.mi L.1, hc, L.2.2.1, L.2.2.2.1, L.2.2.2.2.1, fun j hj => absurd hj (Nat.not_lt_zero _)⟩
end TYP
