/-! p27: the law's would -/
section WLD
variable {E : AEnv} {σ τ : ASt} {V W : Nat → Nat} {m n t N M : Nat} {Hs : Nat → Nat → Nat} {Tx : Nat → Nat} {Q : Option Value → ASt → Prop} {K : Int32 → ASt → Prop}
theorem pinL_rg {b : Nat} : ∀ (d : Nat) (W : Nat → Nat) (k : Nat), pinL b d W k = (-1000004 : Int32) ∨ ∃ j, k ≤ j ∧ j < k + d ∧ pinL b d W k = nI j
  | 0, _, _ => Or.inl rfl
  | d + 1, W, k => by
    rw [pinL]
    split
    · rcases pinL_rg (b := b) d (dDay W) (k + 1) with h | ⟨j, h1, h2, h3⟩
      · exact Or.inl h
      · exact Or.inr ⟨j, by omega, by omega, h3⟩
    · exact Or.inr ⟨k, Nat.le_refl _, by omega, rfl⟩
theorem alnL_rg {R : Nat} : ∀ (d : Nat) (W : Nat → Nat) (k : Nat), alnL R d W k = (-1000004 : Int32) ∨ ∃ j, k ≤ j ∧ j < k + d ∧ alnL R d W k = nI j
  | 0, _, _ => Or.inl rfl
  | d + 1, W, k => by
    rw [alnL]
    split
    · rcases alnL_rg (R := R) d (dDay W) (k + 1) with h | ⟨j, h1, h2, h3⟩
      · exact Or.inl h
      · exact Or.inr ⟨j, by omega, by omega, h3⟩
    · exact Or.inr ⟨k, Nat.le_refl _, by omega, rfl⟩
/-- NONE, or a day from 1 to 200 -/
def dayOK (x : Int32) : Prop := x = (-1000004 : Int32) ∨ ∃ j, 1 ≤ j ∧ j ≤ 200 ∧ x = nI j
theorem aln_ok : dayOK (qAln V) := by
  unfold qAln
  rw [alnL, if_pos (by rw [Nat.and_self, Nat.xor_self])]
  rcases alnL_rg (R := reachV V 0 99) 200 (dDay V) 1 with h | ⟨j, h1, h2, h3⟩
  · exact Or.inl h
  · exact Or.inr ⟨j, h1, by omega, h3⟩
theorem pin_1 (hw : WF m V) {b : Nat} (hb : b < V 2) (hp : pntd V b = true) : dayOK (qPin V (nI b)) := by
  have h12 := hw.w12
  unfold qPin
  rw [if_pos (br_in hw hb), toN_nI (by omega), if_pos hp, pinL, if_pos hp]
  rcases pinL_rg (b := b) 200 (dDay V) 1 with h | ⟨j, h1, h2, h3⟩
  · exact Or.inl h
  · exact Or.inr ⟨j, h1, by omega, h3⟩
theorem pin_0 (hw : WF m V) {b : Nat} (hb : b < V 2) (hp : ¬ pntd V b = true) : qPin V (nI b) = (-1000002 : Int32) := by
  have h12 := hw.w12
  unfold qPin
  rw [if_pos (br_in hw hb), toN_nI (by omega), if_neg hp]
theorem rus_1 (hw : WF m V) {b : Nat} (hb : b < V 2) (hp : pntd V b = true) : qRus V (nI b) = (-1000002 : Int32) := by
  have h12 := hw.w12
  unfold qRus
  rw [if_pos (br_in hw hb), toN_nI (by omega), if_pos hp]
theorem rus_0 (hw : WF m V) {b : Nat} (hb : b < V 2) (hp : ¬ pntd V b = true) : ∃ j, qRus V (nI b) = nI j ∧ j ≤ 100 ∧ (j = 0 ↔ stOf V b = 2) := by
  have h12 := hw.w12
  have h3 := hw.2.2.1 b hb
  refine ⟨(V (72 + 8 * b + 3) + V (72 + 8 * b + 2) - 1) / V (72 + 8 * b + 2), ?_, ?_, ?_⟩
  · unfold qRus
    rw [if_pos (br_in hw hb), toN_nI (by omega), if_neg hp]
  · have : (V (72 + 8 * b + 3) + V (72 + 8 * b + 2) - 1) / V (72 + 8 * b + 2) < 101 := Nat.div_lt_of_lt_mul (by omega)
    omega
  · unfold stOf
    rw [if_neg hp]
    by_cases h0 : 0 < V (72 + 8 * b + 3)
    · rw [if_pos h0]
      have := Nat.div_pos (a := V (72 + 8 * b + 3) + V (72 + 8 * b + 2) - 1) (b := V (72 + 8 * b + 2)) (by omega) (by omega)
      omega
    · rw [if_neg h0]
      have := Nat.div_eq_of_lt (a := V (72 + 8 * b + 3) + V (72 + 8 * b + 2) - 1) (b := V (72 + 8 * b + 2)) (by omega)
      omega
theorem qw1 (hw : WF m V) {b : Nat} (hb : b < V 2) : qWhy V (nI b) (nI 1) = if rsn V b = 4 then nI (low (cutV V b)) else (-1000004 : Int32) := by
  have h12 := hw.w12
  unfold qWhy
  rw [if_pos ⟨br_in hw hb, by decide⟩, if_neg (by decide), toN_nI (by omega)]
theorem bs_coat : ∀ k, bsN V k ≠ 99 → V (72 + 8 * bsN V k + 3) ≤ V 10
  | 0, h => absurd rfl h
  | k + 1, h => by
    rw [bsN] at h ⊢
    split
    · rename_i h2
      exact h2.1
    · rename_i h2
      rw [if_neg h2] at h
      exact bs_coat k h
theorem ifd_ok (hw : WF 9999 V) {c : Nat} (hc : c < 101) (h0 : c ≠ 0) (h1 : c ≠ 100) : ∃ j, j < 2 ^ 31 ∧ qIfd V (nI c) = nI j := by
  have h5 := hw.2.2.2.2
  unfold W5 at h5
  have hr := rg_n (k := c) (a := 1) (b := 99) (by omega) (by decide) (by decide)
  have := cDays_le c 9999 V hw (by omega)
  refine ⟨cDays c V, by omega, ?_⟩
  unfold qIfd
  rw [if_pos (hr.mpr (by omega)), toN_nI (by omega)]
theorem ifd_no {c : Nat} (hc : c = 0 ∨ c = 100) : qIfd V (nI c) = (-1000001 : Int32) := by
  have hr := rg_n (k := c) (a := 1) (b := 99) (by omega) (by decide) (by decide)
  unfold qIfd
  rw [if_neg (fun z => by have := hr.mp z; omega)]
section W
variable {x : Int32} {b c : Nat}
/-- the last two -/
theorem wo_tl (hw : WF 9999 V) (hc : c < 101) {s : ASt} (hQ : Q (some (.int (nI 1))) s) :
    (nI c = (nI 0) → ¬ qIfd V (nI c) ≠ (-1000001 : Int32) ∧ fN .boolean (nI 1) = true ∧ Q (some (.int (nI 1))) s) ∧
    (¬ nI c = (nI 0) → (nI c ≠ (nI 100) → ¬ qIfd V (nI c) < (nI 0) ∧ fN .boolean (nI 1) = true ∧ Q (some (.int (nI 1))) s) ∧
      (¬ nI c ≠ (nI 100) → ¬ qIfd V (nI c) ≠ (-1000001 : Int32) ∧ fN .boolean (nI 1) = true ∧ Q (some (.int (nI 1))) s)) := by
  have e0 : nI c = nI 0 ↔ c = 0 := nI_eq (by omega) (by decide)
  have e1 : nI c = nI 100 ↔ c = 100 := nI_eq (by omega) (by decide)
  refine ⟨fun z => ⟨?_, fN1, hQ⟩, fun z0 => ⟨fun z1 => ⟨?_, fN1, hQ⟩, fun z1 => ⟨?_, fN1, hQ⟩⟩⟩
  · rw [ifd_no (Or.inl (e0.mp z))]; exact nn
  · obtain ⟨j, hj, e⟩ := ifd_ok hw hc (fun q => z0 (e0.mpr q)) (fun q => z1 (e1.mpr q))
    rw [e]
    exact nI_nn hj
  · rw [ifd_no (Or.inr (e1.mp (Classical.not_not.mp z1)))]; exact nn
theorem wo_al (hw : WF 9999 V) (hc : c < 101) {s : ASt} (hQ : Q (some (.int (nI 1))) s) {P : Prop} {R : Prop} (hP : P) (h1 : P → R) :
    (qAln V = (-1000004 : Int32) → R) ∧ (¬ qAln V = (-1000004 : Int32) → ¬ qAln V ≤ (nI 0) ∧ ¬ (nI 200) < qAln V ∧ R) := by
  refine ⟨fun _ => h1 hP, fun z => ?_⟩
  rcases aln_ok (V := V) with h | ⟨j, g1, g2, e⟩
  · exact absurd h z
  · rw [e]
    exact ⟨nI_ge (by omega) (by omega), nI_nlt g2 (by decide), h1 hP⟩
theorem wo_249 (L : LJ N σ V n Hs t Tx) (hc : c < 101) (hQ : Q (some (.int (nI 1))) σ) {x3 x4 x5 x6 x7 : Int32} :
    wp E 99 249 [.ref 0, .int x, .int (nI (V 2)), .int x3, .int x4, .int x5, .int x6, .int x7, .int (bsI (bsV V)), .int (qAln V), .int (nI c), .int (qIfd V (nI c))] [.int (nI 1)] σ Q := by
  have hw := L.2.2.1
  have h12 := hw.w12
  have w2 := hw.2.1
  unfold W2 at w2
  have tl := wo_tl (Q := Q) hw hc hQ
  refine sg99_249 ⟨one0, fun _ => wo_al hw hc hQ tl id, fun hb => ?_⟩
  have hl : bsV V = 99 ∨ bsV V < V 2 := bsN_lt V (V 2)
  have h99 : bsV V ≠ 99 := fun q => hb (by unfold bsI; rw [if_pos q])
  have hbl : bsV V < V 2 := by omega
  have e : bsI (bsV V) = nI (bsV V) := by unfold bsI; rw [if_neg h99]
  have hr := bsN_ok V (V 2) h99
  have hr : rsn V (bsV V) = 0 := hr
  have hco : V (72 + 8 * bsV V + 3) ≤ V 10 := bs_coat (V 2) h99
  have e27 : qCnt V n t (nI 27) = nI (V 10) := cnt_20 (k := 7) (by decide)
  rw [e]
  refine ⟨nI_nn (by omega), nI_ge hbl (by omega), L.sh, j_why L ?_⟩
  rw [qw0 hw hbl, hr]
  refine ⟨nn, L.sh, j_brg L ⟨L.sh, j_cnt L ?_⟩⟩
  rw [qb3 hw hbl, e27]
  exact ⟨nI_nlt hco (by omega), wo_al hw hc hQ tl id⟩
theorem wo_161 (L : LJ N σ V n Hs t Tx) (hb : b < V 2) (hc : c < 101) (hQ : Q (some (.int (nI 1))) σ) {x5 : Int32} :
    wp E 99 161 [.ref 0, .int x, .int (nI (V 2)), .int (nI b), .int (nI (rsn V b)), .int x5, .int (qRus V (nI b)), .int (qPin V (nI b)), .int (bsI (bsV V)), .int (qAln V), .int (nI c), .int (qIfd V (nI c))] [] σ Q := by
  have hw := L.2.2.1
  have h12 := hw.w12
  have hrl := rsn_le (V := V) (b := b)
  have e1 : nI (rsn V b) = nI 1 ↔ pntd V b = true := (nI_eq (by omega) (by decide)).trans rsn_x1
  refine sg99_161 ⟨fun z => ?_, fun z => ?_⟩
  · have hp : ¬ pntd V b = true := fun q => z (e1.mpr q)
    obtain ⟨j, ej, hj, h0⟩ := rus_0 hw hb hp
    have hsl := st_le (V := V) (b := b)
    have e0 : nI j = nI 0 ↔ j = 0 := nI_eq (by omega) (by decide)
    have e2 : nI (stOf V b) = nI 2 ↔ stOf V b = 2 := nI_eq (by omega) (by decide)
    have l249 : ∀ x6 : Int32, wp E 99 249 [.ref 0, .int x, .int (nI (V 2)), .int (nI b), .int (nI (rsn V b)), .int x5, .int x6, .int (-1000002 : Int32), .int (bsI (bsV V)), .int (qAln V), .int (nI c), .int (qIfd V (nI c))] [.int (nI 1)] σ Q := fun x6 => wo_249 L hc hQ
    rw [ej, pin_0 hw hb hp]
    refine ⟨nn, nI_nn (by omega), nI_nlt hj (by decide), fun y => ⟨L.sh, j_brg L ?_⟩, fun y => ⟨L.sh, j_brg L ?_⟩⟩
    · rw [qb4 hw hb]
      exact ⟨fun _ => ⟨nn, l249 _⟩, fun q => absurd (e0.mpr (h0.mpr (e2.mp (Classical.not_not.mp q)))) y⟩
    · rw [qb4 hw hb]
      exact ⟨fun q => absurd (e2.mpr (h0.mp (e0.mp (Classical.not_not.mp y)))) q, fun _ => ⟨nn, l249 _⟩⟩
  · have hp : pntd V b = true := e1.mp (Classical.not_not.mp z)
    rw [rus_1 hw hb hp]
    refine ⟨nn, fun _ => wo_249 L hc hQ, fun y => ?_⟩
    rcases pin_1 hw hb hp with h | ⟨j, g1, g2, e⟩
    · exact absurd h y
    · have l249 := wo_249 (E := E) (Q := Q) (x := x) (x3 := nI b) (x4 := nI (rsn V b)) (x5 := x5) (x6 := (-1000002 : Int32)) (x7 := qPin V (nI b)) L hc hQ
      rw [e] at l249 ⊢
      exact ⟨nI_ge (by omega) (by omega), nI_nlt g2 (by decide), l249⟩
end W
theorem j_would (L : LJ N σ V n Hs t Tx) {x : Int32} (hK : ∀ τ, LJ N τ V n Hs t Tx → K (nI 1) τ) : cI E 99 [.ref 0, .int x] σ K := by
  have hw := L.2.2.1
  have h12 := hw.w12
  refine sg99_0 ⟨L.sh, j_cnt L ?_⟩
  rw [cnt_2, nI_add]
  refine j_low (by omega) (by omega) ⟨L.sh, j_why L ⟨L.sh, j_why L ⟨L.sh, j_rus L ⟨L.sh, j_pin L fun s1 L1 => ⟨L1.sh, j_bst L1 ⟨L1.sh, j_aln L1 fun s2 L2 => j_low (by decide) (by decide) ⟨L2.sh, j_ifd L2 fun s3 L3 => ?_⟩⟩⟩⟩⟩⟩⟩
  have hc := lowV_lt (x >>> ((nI 5) &&& 31)) (k := 101) (by decide)
  generalize lowV (x >>> ((nI 5) &&& 31)) 101 = c at hc ⊢
  have hbl := lowV_lt x (k := V 2 + 1) (by omega)
  generalize lowV x (V 2 + 1) = b at hbl ⊢
  have eb : nI b = nI (V 2) ↔ b = V 2 := nI_eq (by omega) (by omega)
  have hQ : QI K (some (.int (nI 1))) s3 := hK s3 L3
  refine ⟨fun z => ?_, fun z => ?_⟩
  · have hb : b < V 2 := by
      have : b ≠ V 2 := fun q => z (eb.mpr q)
      omega
    have hrl := rsn_le (V := V) (b := b)
    have hRl := reach_lt hw.ends (i := 0) (wo := 99) (by decide)
    have e4 : nI (rsn V b) = nI 4 ↔ rsn V b = 4 := nI_eq (by omega) (by decide)
    have l161 : ∀ x5 : Int32, wp E 99 161 [.ref 0, .int x, .int (nI (V 2)), .int (nI b), .int (nI (rsn V b)), .int x5, .int (qRus V (nI b)), .int (qPin V (nI b)), .int (bsI (bsV V)), .int (qAln V), .int (nI c), .int (qIfd V (nI c))] [] s3 (QI K) := fun x5 => wo_161 L3 hb hc hQ
    rw [qw0 hw hb, qw1 hw hb]
    refine ⟨nI_nn (by omega), nI_nlt hrl (by decide), fun y => ?_, fun y => ?_⟩
    · rw [if_neg (fun q => y (e4.mpr q))]
      exact ⟨nn, l161 _⟩
    · have h4 := e4.mp (Classical.not_not.mp y)
      rw [if_pos h4]
      obtain ⟨g1, g2, g3⟩ := low_cut hw.ends h12.2 (rsn_x4 h4)
      refine ⟨nI_ge g1 (by omega), L3.sh, j_cnt L3 ?_⟩
      rw [cnt_3, bt_i (by omega) (by omega), g3]
      exact ⟨nn, l161 _⟩
  · have hb : b = V 2 := eb.mp (Classical.not_not.mp z)
    have hno : ¬ inBr V (nI b) = true := br_no hw (by omega) (by omega)
    have q0 : qWhy V (nI b) (nI 0) = (-1000001 : Int32) := by unfold qWhy; rw [if_neg (fun q => hno q.1)]
    have q1 : qWhy V (nI b) (nI 1) = (-1000001 : Int32) := by unfold qWhy; rw [if_neg (fun q => hno q.1)]
    have q2 : qRus V (nI b) = (-1000001 : Int32) := by unfold qRus; rw [if_neg hno]
    have q3 : qPin V (nI b) = (-1000001 : Int32) := by unfold qPin; rw [if_neg hno]
    rw [q0, q1, q2, q3]
    exact ⟨nn, nn, nn, nn, wo_249 L3 hc hQ⟩
end WLD
