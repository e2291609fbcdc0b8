/-! p27: the law's holds -/
section HLD
variable {E : AEnv} {σ τ : ASt} {V W : Nat → Nat} {m n t N M : Nat} {Hs : Nat → Nat → Nat} {Tx : Nat → Nat} {Q : Option Value → ASt → Prop} {K : Int32 → ASt → Prop}
theorem st_0 (hw : WF m V) {b : Nat} (hb : b < V 2) : stOf V b = 0 ↔ opn V b = true := by
  have h4 := hw.2.2.1 b hb
  unfold stOf opn pntd
  by_cases h1 : V (72 + 8 * b + 4) = 1
  · rw [h1, if_pos (by decide : Nat.beq 1 1 = true)]
    exact ⟨fun z => absurd z (by decide), fun z => absurd z (by simp)⟩
  · have h0 : V (72 + 8 * b + 4) = 0 := by omega
    rw [h0, if_neg (by decide)]
    by_cases hc : 0 < V (72 + 8 * b + 3)
    · rw [if_pos hc]
      exact ⟨fun _ => by simp [hc], fun _ => rfl⟩
    · rw [if_neg hc]
      exact ⟨fun z => absurd z (by decide), fun z => by
        rw [Bool.and_eq_true] at z
        have := z.2
        rw [Nat.blt_eq] at this
        exact absurd this hc⟩
theorem or0 {S : Nat} (hS : S < 2 ^ 31) : nI S ||| nI 0 = nI S := by rw [nI_or hS (by decide), Nat.or_zero]
theorem ends_I (hw : WF m V) {b : Nat} (hb : b < V 2) : (nI 1 <<< (nI (V (72 + 8 * b + 0)) &&& 31)) ||| (nI 1 <<< (nI (V (72 + 8 * b + 1)) &&& 31)) = nI (endsM V b) := by
  have h12 := hw.w12
  have h3 := hw.2.2.1 b hb
  have p0 : 2 ^ V (72 + 8 * b + 0) < 2 ^ 31 := Nat.pow_lt_pow_right (by decide) (by omega)
  have p1 : 2 ^ V (72 + 8 * b + 1) < 2 ^ 31 := Nat.pow_lt_pow_right (by decide) (by omega)
  rw [nI_shl (by omega), nI_shl (by omega), nI_or p0 p1]
  rfl
theorem ho_39 (L : LJ N σ V n Hs t Tx) {S0 : Nat} (hS : S0 < 2 ^ 8) {j a4 a5 a6 a7 : Int32} (hQ : wp E 98 29 [.ref 0, .int (nI (V 1)), .int (nI (V 2)), .int (nI (gsN V S0 (V 2))), .int a4, .int a5, .int a6, .int a7, .int (j + nI 1)] [] σ Q) : ∀ d k : Nat, k + d = V 2 → wp E 98 39 [.ref 0, .int (nI (V 1)), .int (nI (V 2)), .int (nI (gsN V S0 k)), .int a4, .int a5, .int a6, .int a7, .int j, .int (nI k)] [] σ Q
  | 0, k, hk => by
    have h12 := L.2.2.1.w12
    obtain rfl : k = V 2 := by omega
    exact sg98_39 ⟨fun _ => hQ, fun z => absurd (nI_le (Nat.le_refl _) (by omega)) z⟩
  | d + 1, k, hk => by
    have hw := L.2.2.1
    have h12 := hw.w12
    have hkb : k < V 2 := by omega
    have nx := ho_39 L hS hQ d (k + 1) (by omega)
    have hg := gs_lt hw.ends hS k (by omega)
    have hel := ends_lt hw.ends hkb
    rw [gsN] at nx
    refine sg98_39 ⟨fun z => absurd z (nI_ge hkb (by omega)), fun _ => ⟨L.sh, j_brg L ⟨L.sh, j_brg L ⟨L.sh, j_brg L ?_⟩⟩⟩⟩
    have hsl := st_le (V := V) (b := k)
    rw [qb0 hw hkb, qb1 hw hkb, qb4 hw hkb, ends_I hw hkb, or0 (by omega), nI_and (by omega) (by omega), nI_or (by omega) (by omega), nI_add]
    have e0 : nI (stOf V k) = nI 0 ↔ opn V k = true := (nI_eq (by omega) (by decide)).trans (st_0 hw hkb)
    have eh : nI (gsN V S0 k &&& endsM V k) = nI 0 ↔ hit (gsN V S0 k) (endsM V k) = false := by
      rw [nI_eq (Nat.lt_of_le_of_lt Nat.and_le_left (by omega)) (by decide)]
      unfold hit
      rw [Bool.not_eq_false']
      exact ⟨fun z => by rw [z]; rfl, fun z => Nat.eq_of_beq_eq_true z⟩
    refine ⟨fun z => ?_, fun z => ⟨fun y => ?_, fun y => ?_⟩⟩
    · have : opn V k = false := by
        cases ho : opn V k with
        | false => rfl
        | true => exact absurd (e0.mpr ho) z
      rw [this, if_neg (by simp)] at nx
      exact nx
    · rw [eh.mp y, Bool.and_false, if_neg ff] at nx
      exact nx
    · have ho := e0.mp (Classical.not_not.mp z)
      have hh : hit (gsN V S0 k) (endsM V k) = true := by
        cases hq : hit (gsN V S0 k) (endsM V k) with
        | true => rfl
        | false => exact absurd (eh.mpr hq) y
      rw [ho, hh, if_pos (by rfl)] at nx
      exact nx
theorem cnt_14 : qCnt V n t (nI 14) = nI (V 12) := rfl
theorem cnt_15 : qCnt V n t (nI 15) = nI (V 13) := rfl
theorem cnt_16 : qCnt V n t (nI 16) = nI (V 14) := rfl
theorem ho_29 (L : LJ N σ V n Hs t Tx) (hQ : wp E 98 193 [.ref 0, .int (nI (V 1)), .int (nI (V 2)), .int (nI (reachV V 0 99)), .int (nI 0), .int (nI 0), .int (nI 0), .int (nI 0), .int (nI 1), .int (nI 0)] [] σ Q) : ∀ d j : Nat, j + d = 8 → wp E 98 29 [.ref 0, .int (nI (V 1)), .int (nI (V 2)), .int (nI (itG V j)), .int (nI 0), .int (nI 0), .int (nI 0), .int (nI 0), .int (nI j)] [] σ Q
  | 0, j, hj => by
    have hw := L.2.2.1
    have h12 := hw.w12
    have w1 := hw.1
    unfold W1 at w1
    have w5 := hw.2.2.2.2
    unfold W5 at w5
    have hc := L.2.2.2.1.1
    unfold IC at hc
    obtain rfl : j = 8 := by omega
    refine sg98_29 ⟨fun _ => ⟨L.sh, j_cnt L ?_⟩, fun z => absurd (nI_le (Nat.le_refl _) (by decide)) z⟩
    rw [cnt_3, itG_8 hw.ends h12.2]
    refine ⟨nn, nI_nlt (by omega) (by omega), nI_nlt (by omega) (by omega), nI_nlt (by omega) (by omega), L.sh, j_cnt L ⟨L.sh, j_cnt L ⟨L.sh, j_cnt L ⟨L.sh, j_cnt L ⟨?_, L.sh, j_cnt L ⟨?_, L.sh, j_cnt L ⟨?_, hQ⟩⟩⟩⟩⟩⟩⟩
    · rw [cnt_16, cnt_13, cnt_14, cnt_15, nI_add, nI_add, nI_add, hc]
      exact nn
    · rw [cnt_13]
      exact nI_nn (by omega)
    · rw [cnt_0]
      exact nI_nlt (by omega) (by omega)
  | d + 1, j, hj => by
    have nx := ho_29 L hQ d (j + 1) (by omega)
    refine sg98_29 ⟨fun z => absurd z (nI_ge (by omega) (by omega)), fun _ => ?_⟩
    refine ho_39 L (itG_lt L.2.2.1.ends j) ?_ (V 2) 0 (by omega)
    rw [nI_add]
    exact nx
/-! bridges -/
theorem set_bit {p : Nat → Bool} {k j : Nat} (hj : j < k) (hk : k ≤ 14) (hp : p j = true) : (nI (setN p k) >>> (nI j &&& 31)) &&& nI 1 = nI 1 := by
  have h1 := setN_lt' p hk
  rw [bt_i (by omega) (by omega), bt_tb, setN_b, hp]
  simp [hj, bI]
theorem cnt_4 : qCnt V n t (nI 4) = nI (setN (isSt V 0) (V 2)) := rfl
theorem cnt_5 : qCnt V n t (nI 5) = nI (setN (isSt V 1) (V 2)) := rfl
theorem cnt_6 : qCnt V n t (nI 6) = nI (setN (isSt V 2) (V 2)) := rfl
theorem is_st {c b : Nat} (h : stOf V b = c) : isSt V c b = true := by unfold isSt; rw [h]; exact Nat.beq_refl c
theorem ho_193 (L : LJ N σ V n Hs t Tx) (hN : N < 2 ^ 31) (hQ : wp E 98 386 [.ref 0, .int (nI (V 1)), .int (nI (V 2)), .int (nI (reachV V 0 99)), .int (nI 0), .int (nI 0), .int (nI (pcN V (V 2))), .int (nI 0), .int (nI 1), .int (nI 0)] [] σ Q) : ∀ d k : Nat, k + d = V 2 → wp E 98 193 [.ref 0, .int (nI (V 1)), .int (nI (V 2)), .int (nI (reachV V 0 99)), .int (nI 0), .int (nI 0), .int (nI (pcN V k)), .int (nI 0), .int (nI 1), .int (nI k)] [] σ Q
  | 0, k, hk => by
    have h12 := L.2.2.1.w12
    obtain rfl : k = V 2 := by omega
    exact sg98_193 ⟨fun _ => hQ, fun z => absurd (nI_le (Nat.le_refl _) (by omega)) z⟩
  | d + 1, k, hk => by
    have hw := L.2.2.1
    have h12 := hw.w12
    have hkb : k < V 2 := by omega
    have h3 := hw.2.2.1 k hkb
    have w5 := hw.2.2.2.2
    unfold W5 at w5
    have hB := L.2.2.2.1.2.1 k hkb
    unfold IBb at hB
    have hsl := st_le (V := V) (b := k)
    have nx := ho_193 L hN hQ d (k + 1) (by omega)
    have es : ∀ c, c ≤ 2 → (nI (stOf V k) = nI c ↔ stOf V k = c) := fun c hc => nI_eq (by omega) (by omega)
    have hp1 : stOf V k = 1 ↔ V (72 + 8 * k + 4) = 1 := by
      rw [st_1]
      unfold pntd
      exact ⟨fun z => Nat.eq_of_beq_eq_true z, fun z => by rw [z]; rfl⟩
    -- behind the count of painted ones
    have go : wp E 98 231 [.ref 0, .int (nI (V 1)), .int (nI (V 2)), .int (nI (reachV V 0 99)), .int (nI 0), .int (nI 0), .int (nI (pcN V k)), .int (nI 0), .int (nI 1), .int (nI k), .int (nI (V (72 + 8 * k + 3)))] [.int (nI (V (72 + 8 * k + 4))), .int (nI (pcN V k))] σ Q := by
      have last : ∀ c, stOf V k = c → wp E 98 322 [.ref 0, .int (nI (V 1)), .int (nI (V 2)), .int (nI (reachV V 0 99)), .int (nI 0), .int (nI 0), .int (nI (pcN V (k + 1))), .int (nI 0), .int (nI 1), .int (nI k), .int (nI (V (72 + 8 * k + 3)))] [.int (nI (setN (isSt V c) (V 2)))] σ Q := fun c hc => by
        refine sg98_322 ⟨by rw [set_bit hkb h12.2 (is_st hc)]; exact nn, L.sh, j_brg L ?_⟩
        rw [qb4 hw hkb, nI_add]
        refine ⟨fun z => ⟨L.sh, j_brg L ?_⟩, fun z => ⟨L.sh, j_brg L ?_⟩⟩
        · rw [qb4 hw hkb]
          exact ⟨fun _ => nx, fun y => absurd z y⟩
        · have h1 := hp1.mp ((es 1 (by decide)).mp (Classical.not_not.mp z))
          have h2 := hB.2.2.2 h1
          rw [qb5 hw hkb]
          refine ⟨nI_ge (by omega) (by omega), L.sh, j_brg L ?_⟩
          rw [qb4 hw hkb]
          exact ⟨fun y => absurd y z, fun _ => ⟨nI_ge h2.2 (by decide), nx⟩⟩
      refine sg98_231 ⟨nI_nn (by omega), nI_nlt (by omega) (by decide), L.sh, j_brg L ⟨L.sh, j_brg L ?_⟩⟩
      rw [qb0 hw hkb, qb1 hw hkb, nI_add]
      refine ⟨nI_ne (by omega) (by omega) hB.1, L.sh, j_brg L ⟨L.sh, j_cnt L ?_⟩⟩
      rw [qb6 hw hkb, cnt_0]
      refine ⟨nI_nlt hB.2.2.1 (by omega), L.sh, j_brg L ?_⟩
      rw [qb4 hw hkb]
      refine ⟨fun z => ⟨L.sh, j_brg L ?_⟩, fun z => ⟨L.sh, j_cnt L ?_⟩⟩
      · rw [qb4 hw hkb]
        refine ⟨fun y => ⟨L.sh, j_cnt L ?_⟩, fun y => ⟨L.sh, j_cnt L ?_⟩⟩
        · rw [cnt_6]
          have : stOf V k = 2 := by
            have a0 : stOf V k ≠ 0 := fun q => z ((es 0 (by decide)).mpr q)
            have a1 : stOf V k ≠ 1 := fun q => y ((es 1 (by decide)).mpr q)
            omega
          exact last 2 this
        · rw [cnt_5]
          exact last 1 ((es 1 (by decide)).mp (Classical.not_not.mp y))
      · rw [cnt_4]
        exact last 0 ((es 0 (by decide)).mp (Classical.not_not.mp z))
    refine sg98_193 ⟨fun z => absurd z (nI_ge hkb (by omega)), fun _ => ⟨one0, L.sh, j_brg L ⟨L.sh, j_brg L ?_⟩⟩⟩
    rw [qb3 hw hkb, qb4 hw hkb]
    refine ⟨fun z => ?_, fun z => ?_⟩
    · have h0 : V (72 + 8 * k + 4) = 0 := by
        have : V (72 + 8 * k + 4) ≠ 1 := fun q => z ((es 1 (by decide)).mpr (hp1.mpr q))
        omega
      rw [h0] at go
      exact go
    · rw [hp1.mp ((es 1 (by decide)).mp (Classical.not_not.mp z))] at go
      exact go
/-! islands -/
section IS
variable {i : Nat}
theorem qi (hw : WF m V) (hi : i < V 1) (w : Int32) : qIsl V (nI i) w = if w = nI 0 then bI (bt (reachV V 0 99) i)
    else if w = nI 1 then nI (V (32 + 5 * i + 1))
    else if w = nI 2 then nI (V (32 + 5 * i + 0))
    else if w = nI 3 then nI (V (32 + 5 * i + 2))
    else if w = nI 4 then nI (V (32 + 5 * i + 3))
    else if w = nI 5 then nI (V (32 + 5 * i + 4))
    else if w = nI 6 then nI (oaN V i (V 2))
    else if w = nI 7 then fwD V i 8 1 0
    else (-1000001 : Int32) := by
  have h12 := hw.w12
  unfold qIsl
  rw [if_pos (is_in hw hi), toN_nI (by omega)]
theorem qi1 (hw : WF m V) (hi : i < V 1) : qIsl V (nI i) (nI 1) = nI (V (32 + 5 * i + 1)) := by rw [qi hw hi]; rfl
theorem qi3 (hw : WF m V) (hi : i < V 1) : qIsl V (nI i) (nI 3) = nI (V (32 + 5 * i + 2)) := by rw [qi hw hi]; rfl
theorem qi4 (hw : WF m V) (hi : i < V 1) : qIsl V (nI i) (nI 4) = nI (V (32 + 5 * i + 3)) := by rw [qi hw hi]; rfl
theorem qi5 (hw : WF m V) (hi : i < V 1) : qIsl V (nI i) (nI 5) = nI (V (32 + 5 * i + 4)) := by rw [qi hw hi]; rfl
theorem qi7 (hw : WF m V) (hi : i < V 1) : qIsl V (nI i) (nI 7) = fwD V i 8 1 0 := by rw [qi hw hi]; rfl
end IS
theorem bI_b {b : Bool} : bI b = nI 1 ↔ b = true := by cases b <;> decide
theorem ho_386 (L : LJ N σ V n Hs t Tx) {a6 : Int32} (hQ : wp E 98 571 [.ref 0, .int (nI (V 1)), .int (nI (V 2)), .int (nI (reachV V 0 99)), .int (nI (grN V (V 1))), .int (nI (gG V (V 1))), .int a6, .int (nI (smN V 4 (V 1))), .int (nI 1), .int (nI 0)] [] σ Q) : ∀ d i : Nat, i + d = V 1 → wp E 98 386 [.ref 0, .int (nI (V 1)), .int (nI (V 2)), .int (nI (reachV V 0 99)), .int (nI (grN V i)), .int (nI (gG V i)), .int a6, .int (nI (smN V 4 i)), .int (nI 1), .int (nI i)] [] σ Q
  | 0, i, hi => by
    have h12 := L.2.2.1.w12
    obtain rfl : i = V 1 := by omega
    exact sg98_386 ⟨fun _ => hQ, fun z => absurd (nI_le (Nat.le_refl _) (by omega)) z⟩
  | d + 1, i, hi => by
    have hw := L.2.2.1
    have h12 := hw.w12
    have hib : i < V 1 := by omega
    have w4 := hw.2.2.2.1 i hib
    have w5 := hw.2.2.2.2
    unfold W5 at w5
    have hI := L.2.2.2.1.2.2.1 i hib
    unfold IWi at hI
    have nx := ho_386 L hQ d (i + 1) (by omega)
    have hgl := gG_lt hw.ends i (by omega)
    have hrl := reach_lt hw.ends (i := i) (wo := 99) (by omega)
    have hRl := reach_lt hw.ends (i := 0) (wo := 99) (by decide)
    have ri := rch_iff hw.ends (i := i) (by omega)
    have eR : nI (reachV V i 99) = nI (reachV V 0 99) ↔ bt (reachV V 0 99) i = true := (nI_eq (by omega) (by omega)).trans ri
    have f8 := fwD_8 (V := V) (i := i)
    have l505 : ∀ b : Int32, wp E 98 505 [.ref 0, .int (nI (V 1)), .int (nI (V 2)), .int (nI (reachV V 0 99)), .int (nI (grN V (i + 1))), .int (nI (gG V (i + 1))), .int a6, .int (nI (smN V 4 (i + 1))), .int (nI 1), .int (nI i)] [.int b, .int b] σ Q := fun b => by
      refine sg98_505 ⟨nn, L.sh, j_isl L ⟨L.sh, j_isl L ?_⟩⟩
      rw [qi1 hw hib, qi4 hw hib]
      refine ⟨nI_nlt hI.1 (by omega), L.sh, j_isl L ⟨L.sh, j_cnt L ?_⟩⟩
      rw [qi4 hw hib, cnt_0]
      refine ⟨nI_nlt w4.2.2 (by omega), L.sh, j_isl L ⟨L.sh, j_cnt L ?_⟩⟩
      rw [qi3 hw hib, cnt_0, nI_add]
      exact ⟨nI_nlt hI.2.1 (by omega), nx⟩
    have l470 : ∀ b : Int32, wp E 98 470 [.ref 0, .int (nI (V 1)), .int (nI (V 2)), .int (nI (reachV V 0 99)), .int (nI (grN V (i + 1))), .int (nI (gG V (i + 1))), .int a6, .int (nI (smN V 4 (i + 1))), .int (nI 1), .int (nI i)] [.int b, .int b] σ Q := fun b => by
      refine sg98_470 ⟨nn, L.sh, j_isl L ?_⟩
      rw [qi7 hw hib, bt_i (by omega) (by omega)]
      refine ⟨fun z => ⟨fun y => l505 _, fun y => absurd (f8.mpr (bI_2 y)) z⟩, fun z => ⟨fun y => absurd ((bI_0 _).mpr (f8.mp (Classical.not_not.mp z))) y, fun y => l505 _⟩⟩
    have l414 : ∀ b0 : Nat, grN V (i + 1) = grN V i + b0 → wp E 98 414 [.ref 0, .int (nI (V 1)), .int (nI (V 2)), .int (nI (reachV V 0 99)), .int (nI (grN V i)), .int (nI (gG V i)), .int a6, .int (nI (smN V 4 i)), .int (nI 1), .int (nI i)] [.int (nI b0), .int (nI (grN V i))] σ Q := fun b0 hb => by
      refine sg98_414 ⟨L.sh, j_rea L ⟨L.sh, j_isl L ⟨L.sh, j_rea L ?_⟩⟩⟩
      rw [q_rea hw hib, qi5 hw hib, nI_add, ← hb, nI_or (by omega) (by omega), ← gG_or hw.ends (by omega), nI_add, bt_i (by omega) (by omega)]
      refine ⟨fun z => ⟨fun y => l470 _, fun y => absurd (eR.mpr (bI_b.mp (Classical.not_not.mp y))) z⟩, fun z => ⟨fun y => absurd (bI_b.mpr (eR.mp (Classical.not_not.mp z))) y, fun y => l470 _⟩⟩
    have hg := grN_s hw.ends (n := i) (by omega)
    refine sg98_386 ⟨fun z => absurd z (nI_ge hib (by omega)), fun _ => ⟨one0, ?_⟩⟩
    rw [bt_i (by omega) (by omega)]
    refine ⟨fun z => l414 0 ?_, fun z => l414 1 ?_⟩
    · rw [hg, if_pos (bI_1 z)]
    · rw [hg, if_neg (by rw [bI_2 z]; exact ff)]
/-! the book -/
theorem q_bok (hw : WF m V) {a w : Nat} (ha : a < V 15) (hw1 : w ≤ 1) : qBok V (nI a) (nI w) = nI (V (16 + 2 * a + w)) := by
  have w1 := hw.1
  unfold W1 at w1
  unfold qBok
  rw [if_neg (nI_nn (by omega)), if_pos ((rg_n (by omega) (by decide) (by decide)).mpr (by omega)), toN_nI (by omega), toN_nI (by omega), if_neg (by omega)]
theorem q_bok_no (hw : WF m V) {a : Nat} (ha : V 15 ≤ a) (ha2 : a < 2 ^ 31) : qBok V (nI a) (nI 0) = (-1000004 : Int32) := by
  unfold qBok
  rw [if_neg (nI_nn ha2), if_pos (by decide), toN_nI ha2, if_pos ha]
theorem ho_571 (L : LJ N σ V n Hs t Tx) {a1 a2 a3 a4 a5 a6 a7 : Int32} (hQ : wp E 98 649 [.ref 0, .int a1, .int a2, .int a3, .int a4, .int a5, .int a6, .int a7, .int (nI 1), .int (nI (V 15))] [] σ Q) : ∀ d k : Nat, k + d = V 15 → wp E 98 571 [.ref 0, .int a1, .int a2, .int a3, .int a4, .int a5, .int a6, .int a7, .int (nI 1), .int (nI k)] [] σ Q
  | 0, k, hk => by
    have w := L.w1
    obtain rfl : k = V 15 := by omega
    refine sg98_571 ⟨L.sh, j_cnt L ⟨fun _ => hQ, fun z => absurd ?_ z⟩⟩
    rw [cnt_17]
    exact nI_le (Nat.le_refl _) (by omega)
  | d + 1, k, hk => by
    have hw := L.2.2.1
    have w := L.w1
    have w5 := hw.2.2.2.2
    unfold W5 at w5
    have nx := ho_571 L hQ d (k + 1) (by omega)
    have hk1 := L.2.2.2.1.2.2.2.1 k (by omega)
    refine sg98_571 ⟨L.sh, j_cnt L ⟨fun z => absurd z ?_, fun _ => ⟨one0, L.sh, j_bok L ?_⟩⟩⟩
    · rw [cnt_17]
      exact nI_ge (by omega) (by omega)
    rw [q_bok hw (by omega) (Nat.le_refl _), show 16 + 2 * k + 1 = 17 + 2 * k by omega]
    refine ⟨nI_ge (by omega) (by omega), L.sh, j_bok L ⟨L.sh, j_cnt L ?_⟩⟩
    rw [q_bok hw (by omega) (Nat.zero_le _), Nat.add_zero, cnt_0, nI_add]
    refine ⟨nI_ge hk1.2.2.1 (by omega), fun _ => nx, fun z => ⟨L.sh, j_bok L ⟨L.sh, ?_⟩⟩⟩
    have hk0 : 0 < k := by
      rcases Nat.eq_zero_or_pos k with h | h
      · rw [h] at z
        exact absurd rfl z
      · exact h
    have hp := L.2.2.2.1.2.2.2.1 (k - 1) (by omega)
    rw [prd hk0]
    refine j_bok L ?_
    rw [q_bok hw (by omega) (Nat.zero_le _), q_bok hw (by omega) (Nat.zero_le _), Nat.add_zero, Nat.add_zero]
    exact ⟨nI_ge (hk1.2.2.2 hk0) (by omega), nx⟩
/-! the end -/
theorem cnt_8 : qCnt V n t (nI 8) = nI (grN V (V 1)) := rfl
theorem cnt_9 : qCnt V n t (nI 9) = nI (grN V (V 1)) := rfl
theorem cnt_10 : qCnt V n t (nI 10) = nI (V 3 - pcV V) := rfl
theorem sbI {a b : Nat} (h : b ≤ a) : nI a - nI b = nI (a - b) := by
  obtain ⟨c, rfl⟩ : ∃ c, a = c + b := ⟨a - b, by omega⟩
  rw [← nI_add, Int32.add_sub_cancel, Nat.add_sub_cancel]
theorem sm_le {w : Nat} (h : ∀ i, i < V 1 → V (32 + 5 * i + w) ≤ V 0) : ∀ k, k ≤ V 1 → smN V w k ≤ k * V 0
  | 0, _ => Nat.zero_le _
  | k + 1, hk => by
    have := sm_le h k (by omega)
    have h2 := h k (by omega)
    rw [smN]
    exact Nat.le_trans (Nat.add_le_add this h2) (Nat.le_of_eq (Nat.succ_mul k (V 0)).symm)
theorem sm_lt (hw : WF 9999 V) {w : Nat} (h : ∀ i, i < V 1 → V (32 + 5 * i + w) ≤ V 0) : smN V w (V 1) < 2 ^ 31 := by
  have h12 := hw.w12
  have w5 := hw.2.2.2.2
  unfold W5 at w5
  have h1 := sm_le h (V 1) (Nat.le_refl _)
  have h2 : V 1 * V 0 ≤ 8 * 9999 := Nat.mul_le_mul h12.1 w5.1
  omega
theorem mea_ne (hw : WF m V) (h2 : V 2 ≠ 0) : qMea V ≠ (-1000004 : Int32) := by
  have hc := chk_nz (chk_V hw h2)
  unfold qMea
  rw [if_neg h2]
  intro z
  have e : qM (ctN V (V 2)) (V 2) = (-1000004 : Int32).toUInt32 := by
    rw [← z]
    rfl
  rw [e] at hc
  exact absurd hc (by decide)
theorem ho_649 (L : LJ N σ V n Hs t Tx) (hQ : Q (some (.int (nI 1))) σ) {a1 a3 a5 a9 : Int32} : wp E 98 649 [.ref 0, .int a1, .int (nI (V 2)), .int a3, .int (nI (grN V (V 1))), .int a5, .int (nI (pcN V (V 2))), .int (nI (smN V 4 (V 1))), .int (nI 1), .int a9] [] σ Q := by
  have hw := L.2.2.1
  have h12 := hw.w12
  have w2 := hw.2.1
  unfold W2 at w2
  have w1 := hw.1
  unfold W1 at w1
  have hpc := pcN_le hw (V 2) (Nat.le_refl _)
  have hf := sm_lt hw (w := 4) fun i hi => (L.2.2.2.1.2.2.1 i hi).2.2
  have hcm := sm_lt hw (w := 2) fun i hi => (L.2.2.2.1.2.2.1 i hi).2.1
  have hks := L.2.2.2.1.2.2.2.2
  unfold IKs at hks
  have e15 : nI (V 15) = nI 0 ↔ V 15 = 0 := nI_eq (by omega) (by decide)
  have e11 : nI (smN V 2 (V 1)) = nI 0 ↔ smN V 2 (V 1) = 0 := nI_eq hcm (by decide)
  have e2 : nI (V 2) = nI 0 ↔ V 2 = 0 := nI_eq (by omega) (by decide)
  have fin : ∀ s, s = σ → ¬ nI (smN V 4 (V 1)) < (nI 0) ∧ sh s 0 5 8 ∧ cI E 76 [.ref 0, .int (nI 17)] s (fun x4 s3 =>
      sh s3 0 5 8 ∧ cI E 68 [.ref 0, .int x4, .int (nI 0)] s3 (fun x6 s5 =>
      ¬ x6 ≠ (-1000004 : Int32) ∧ fN .boolean (nI 1) = true ∧ Q (some (.int (nI 1))) s5)) := fun s hs => by
    subst hs
    refine ⟨nI_nn hf, L.sh, j_cnt L ⟨L.sh, ?_⟩⟩
    rw [cnt_17]
    refine j_bok L ⟨?_, fN1, hQ⟩
    rw [q_bok_no hw (Nat.le_refl _) (by omega)]
    exact nn
  have l737 : ∀ b : Int32, wp E 98 737 [.ref 0, .int a1, .int (nI (V 2)), .int a3, .int (nI (grN V (V 1))), .int a5, .int (nI (pcN V (V 2))), .int (nI (smN V 4 (V 1))), .int (nI 1), .int a9] [.int b, .int b] σ Q := fun b => by
    refine sg98_737 ⟨nn, L.sh, j_mea L ?_⟩
    by_cases h2 : V 2 = 0
    · have hm : qMea V = (-1000004 : Int32) := by unfold qMea; rw [if_pos h2]
      rw [hm]
      exact ⟨fun z => absurd rfl z, fun _ => ⟨fun y => absurd (e2.mpr h2) y, fun _ => ⟨nn, fin σ rfl⟩⟩⟩
    · have hm := mea_ne hw h2
      exact ⟨fun _ => ⟨fun _ => ⟨nn, fin σ rfl⟩, fun y => absurd (e2.mp (Classical.not_not.mp y)) h2⟩, fun z => absurd hm z⟩
  have l706 : ∀ b : Int32, wp E 98 706 [.ref 0, .int a1, .int (nI (V 2)), .int a3, .int (nI (grN V (V 1))), .int a5, .int (nI (pcN V (V 2))), .int (nI (smN V 4 (V 1))), .int (nI 1), .int a9] [.int b, .int b] σ Q := fun b => by
    refine sg98_706 ⟨nn, L.sh, j_cnt L ?_⟩
    rw [cnt_17]
    refine ⟨fun z => ⟨L.sh, j_cnt L ?_⟩, fun z => ⟨L.sh, j_cnt L ?_⟩⟩
    · rw [cnt_11]
      exact ⟨fun _ => l737 _, fun y => absurd (e15.mpr (hks.mpr (e11.mp (Classical.not_not.mp y)))) z⟩
    · rw [cnt_11]
      exact ⟨fun y => absurd (e11.mpr (hks.mp (e15.mp (Classical.not_not.mp z)))) y, fun _ => l737 _⟩
  refine sg98_649 ⟨one0, L.sh, j_cnt L ⟨by rw [cnt_8]; exact nn, L.sh, j_cnt L ⟨by rw [cnt_9]; exact nn, L.sh, j_cnt L ⟨L.sh, j_cnt L ?_⟩⟩⟩⟩
  have e20 : qCnt V n t (nI 20) = nI (V 3) := cnt_20 (k := 0) (by decide)
  rw [cnt_10, e20]
  refine ⟨fun z => ?_, fun z => ⟨L.sh, j_cnt L ?_⟩⟩
  · rw [nI_leI (by omega) (by omega)] at z
    have : V 3 - pcV V = 0 := by
      show V 3 - pcN V (V 2) = 0
      omega
    rw [this]
    exact l706 _
  · rw [nI_leI (by omega) (by omega)] at z
    rw [e20, sbI (by omega)]
    exact l706 _
theorem j_holds (L : LJ N σ V n Hs t Tx) (hN : N < 2 ^ 31) (hK : K (nI 1) σ) : cI E 98 [.ref 0] σ K := by
  refine sg98_0 ⟨L.sh, j_cnt L ⟨L.sh, j_cnt L ?_⟩⟩
  rw [cnt_1, cnt_2]
  refine ho_29 L (ho_193 L hN ?_ (V 2) 0 (by omega)) 8 0 (by decide)
  refine ho_386 L (ho_571 L (ho_649 L hK) (V 15) 0 (by omega)) (V 1) 0 (by omega)
end HLD
