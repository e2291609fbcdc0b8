/-! p27: the calls that change; the law's crews -/
section CRW
variable {E : AEnv} {σ τ : ASt} {V W : Nat → Nat} {m n t N M : Nat} {Hs : Nat → Nat → Nat} {Tx : Nat → Nat} {Q : Option Value → ASt → Prop} {K : Int32 → ASt → Prop}
theorem c_chg2 (H : MI σ) (hc : CD σ V n Hs t Tx) (hw : WF m V) {e : Int32} {a : Nat} {mi : Nat} {as : List Value} (ha : nI 0 ≤ e → a < 2 ^ 31) (h12 : nI 0 ≤ e → W 1 ≤ 8 ∧ W 2 ≤ 14)
    (hop : ∀ q U K, isB q → Rel U V → (∀ U', Rel U' (opV e V W) → K (opA e a) (bS σ q U')) → cI E mi (.ref q :: as) (bS σ q U) K)
    (hK : ∀ τ, FrC σ τ → CD τ (opV e V W) (opN e n) (opH e n Hs V) t Tx → K (opA e a) τ) :
    sh σ 0 5 8 ∧ cR E 82 [.ref 0] σ (fun r2 s1 => sh s1 r2 3 11 ∧ cI E mi (.ref r2 :: as) s1 (fun x4 s3 => sh s3 0 5 8 ∧ cI E 83 [.ref 0, .int x4] s3 (fun x6 s5 => QI K (some (.int x6)) s5))) := by
  obtain ⟨p, q, h, hx⟩ := hc
  have hq : isB q := hx.1.2.1
  refine ⟨sh0 H, c_trl H hx hw fun U1 r1 => ⟨shS H hq, hop q U1 _ hq r1 fun U2 r2 => ⟨sh0 H, ?_⟩⟩⟩
  have H2 : MI (bS σ q U2) := H
  have hx2 : CX (bS σ q U2) p q h V n Hs t Tx := hx.bs
  have hf : FrC σ (bS σ q U2) := FrC.bs hq
  unfold opV opA opN opH at *
  by_cases he : nI 0 ≤ e
  · rw [if_pos he] at r2 ⊢
    rw [if_pos he, if_pos he, if_pos he, if_pos he] at hK
    exact c_sty H2 hx2 (r2.in (h12 he)) (nI_le (Nat.zero_le _) (ha he)) fun τ hf2 hc2 => hK τ (hf.tr hf2) hc2
  · rw [if_neg he]
    rw [if_neg he, if_neg he, if_neg he, if_neg he] at hK
    exact c_stn he (hK _ hf hx2.d)
/-- what a call leaves that may be refused -/
theorem j_op (L : LJ N σ V n Hs t Tx) {e : Int32} {a : Nat} (hP : nI 0 ≤ e → WF 9999 W ∧ PI M W) (hM : N ≤ M) (h0 : ¬ nI 0 ≤ e → ∀ τ, LJ N τ V n Hs t Tx → K e τ) (h1 : nI 0 ≤ e → ∀ τ, LJ M τ W (pushN n) (pushH n Hs V) t Tx → K (nI a) τ) (τ : ASt) (hf : FrC σ τ) (hc : CD τ (opV e V W) (opN e n) (opH e n Hs V) t Tx) : K (opA e a) τ := by
  unfold opV opN opH at hc
  unfold opA
  by_cases he : nI 0 ≤ e
  · rw [if_pos he, if_pos he, if_pos he] at hc
    rw [if_pos he]
    exact h1 he τ (L.push hM (hf.mi L.1) hc (hP he).1 (hP he).2)
  · rw [if_neg he, if_neg he, if_neg he] at hc
    rw [if_neg he]
    exact h0 he τ (L.fr hf hc)
theorem j_aisl (L : LJ N σ V n Hs t Tx) {x : Int32} (h0 : ¬ nI 0 ≤ eIsl V x → ∀ τ, LJ N τ V n Hs t Tx → K (eIsl V x) τ) (h1 : nI 0 ≤ eIsl V x → ∀ τ, LJ N τ (dIsl V (toN x)) (pushN n) (pushH n Hs V) t Tx → K (nI (V 1)) τ) : cI E 58 [.ref 0, .int x] σ K := by
  have hw := L.2.2.1
  have hP : nI 0 ≤ eIsl V x → WF 9999 (dIsl V (toN x)) ∧ PI N (dIsl V (toN x)) := fun he => by
    obtain ⟨h1, _, h3⟩ := eIsl_ok hw he
    exact ⟨hw.isl h1 h3, L.2.2.2.1.isl hw h3⟩
  exact sg58_0 (c_chg2 (e := eIsl V x) (a := V 1) (W := dIsl V (toN x)) L.1 L.2.1 hw (fun _ => by
    have := hw.w12; omega) (fun he => (hP he).1.w12) (fun q U K hq R hK => c_isl L.1 hq hw R hK) (j_op L hP (Nat.le_refl _) h0 h1))
theorem j_abrg (L : LJ N σ V n Hs t Tx) {x y w : Int32} (h0 : ¬ nI 0 ≤ eBrg V x y w → ∀ τ, LJ N τ V n Hs t Tx → K (eBrg V x y w) τ) (h1 : nI 0 ≤ eBrg V x y w → ∀ τ, LJ N τ (dBrg V (toN x) (toN y) (toN w)) (pushN n) (pushH n Hs V) t Tx → K (nI (V 2)) τ) : cI E 59 [.ref 0, .int x, .int y, .int w] σ K := by
  have hw := L.2.2.1
  have hP : nI 0 ≤ eBrg V x y w → WF 9999 (dBrg V (toN x) (toN y) (toN w)) ∧ PI N (dBrg V (toN x) (toN y) (toN w)) := fun he => by
    obtain ⟨a1, _, b1, _, c1, c2, _, d⟩ := eBrg_ok hw he
    exact ⟨hw.nbr a1 b1 ⟨c1, c2⟩ d, L.2.2.2.1.nbr hw (eBrg_ne hw he) d⟩
  exact sg59_0 (c_chg2 (e := eBrg V x y w) (a := V 2) (W := dBrg V (toN x) (toN y) (toN w)) L.1 L.2.1 hw (fun _ => by
    have := hw.w12; omega) (fun he => (hP he).1.w12) (fun q U K hq R hK => c_nbr L.1 hq hw R hK) (j_op L hP (Nat.le_refl _) h0 h1))
theorem j_asnd (L : LJ N σ V n Hs t Tx) {x f : Int32} (h0 : ¬ nI 0 ≤ eSnd V x f → ∀ τ, LJ N τ V n Hs t Tx → K (eSnd V x f) τ) (h1 : nI 0 ≤ eSnd V x f → ∀ τ, LJ (N + 1) τ (dSnd V (toN x)) (pushN n) (pushH n Hs V) t Tx → K (nI (cutV V (toN x))) τ) : cI E 60 [.ref 0, .int x, .int f] σ K := by
  have hw := L.2.2.1
  have hP : nI 0 ≤ eSnd V x f → WF 9999 (dSnd V (toN x)) ∧ PI (N + 1) (dSnd V (toN x)) := fun he => ⟨hw.snd (eSnd_ok hw he).1, L.2.2.2.1.sndE hw he⟩
  exact sg60_0 (c_chg2 (e := eSnd V x f) (a := cutV V (toN x)) (W := dSnd V (toN x)) L.1 L.2.1 hw (fun _ => by
    have := cutV_lt hw (toN x); omega) (fun he => (hP he).1.w12) (fun q U K hq R hK => c_snd L.1 hq hw R hK) (j_op L hP (Nat.le_succ _) h0 h1))
theorem j_arec (L : LJ N σ V n Hs t Tx) {x : Int32} (h0 : ¬ nI 0 ≤ eRec V x → ∀ τ, LJ N τ V n Hs t Tx → K (eRec V x) τ) (h1 : nI 0 ≤ eRec V x → ∀ τ, LJ N τ (dRec V (toN x)) (pushN n) (pushH n Hs V) t Tx → K (nI (V (72 + 8 * toN x + 3))) τ) : cI E 61 [.ref 0, .int x] σ K := by
  have hw := L.2.2.1
  have hP : nI 0 ≤ eRec V x → WF 9999 (dRec V (toN x)) ∧ PI N (dRec V (toN x)) := fun he => ⟨hw.rec (eRec_ok hw he).1, L.2.2.2.1.rec hw (eRec_ok hw he).1⟩
  exact sg61_0 (c_chg2 (e := eRec V x) (a := V (72 + 8 * toN x + 3)) (W := dRec V (toN x)) L.1 L.2.1 hw (fun he => by
    have := hw.2.2.1 _ (eRec_ok hw he).1; omega) (fun he => (hP he).1.w12) (fun q U K hq R hK => c_rec L.1 hq hw R hK) (j_op L hP (Nat.le_refl _) h0 h1))
theorem j_apay (L : LJ N σ V n Hs t Tx) {x : Int32} (h0 : ¬ nI 0 ≤ ePay V x → ∀ τ, LJ N τ V n Hs t Tx → K (ePay V x) τ) (h1 : nI 0 ≤ ePay V x → ∀ τ, LJ N τ (dPay V (toN x)) (pushN n) (pushH n Hs V) t Tx → K (nI (V 11 + toN x)) τ) : cI E 62 [.ref 0, .int x] σ K := by
  have hw := L.2.2.1
  have hP : nI 0 ≤ ePay V x → WF 9999 (dPay V (toN x)) ∧ PI N (dPay V (toN x)) := fun he => ⟨hw.pay (ePay_ok he).2.2.2, L.2.2.2.1.pay hw _⟩
  exact sg62_0 (c_chg2 (e := ePay V x) (a := V 11 + toN x) (W := dPay V (toN x)) L.1 L.2.1 hw (fun he => by
    have := (ePay_ok he).2.2.2; omega) (fun he => (hP he).1.w12) (fun q U K hq R hK => c_pay L.1 hq hw R hK) (j_op L hP (Nat.le_refl _) h0 h1))
theorem j_adys (L : LJ N σ V n Hs t Tx) {x : Int32} (h0 : ¬ nI 0 ≤ eDys V x → ∀ τ, LJ N τ V n Hs t Tx → K (eDys V x) τ) (h1 : nI 0 ≤ eDys V x → ∀ τ, LJ (N + 400) τ (dDays (toN x) V) (pushN n) (pushH n Hs V) t Tx → K (nI (cDays (toN x) V)) τ) : cI E 63 [.ref 0, .int x] σ K := by
  have hw := L.2.2.1
  have hP : nI 0 ≤ eDys V x → WF 9999 (dDays (toN x) V) ∧ PI (N + 400) (dDays (toN x) V) := fun he => by
    obtain ⟨_, h2, _, h4⟩ := eDys_ok he
    have h := WF.dysn (toN x) (V 0) V (hw.to (Nat.le_refl _) (by omega)) (by omega)
    exact ⟨h.to (Nat.le_trans h.2.2.2.2.1 h4) (by decide), (L.2.2.2.1.dysE hw he).mono (by omega)⟩
  exact sg63_0 (c_chg2 (e := eDys V x) (a := cDays (toN x) V) (W := dDays (toN x) V) L.1 L.2.1 hw (fun he => by
    obtain ⟨_, h2, _, h4⟩ := eDys_ok he
    have h5 := hw.2.2.2.2
    unfold W5 at h5
    have := cDays_le (toN x) (V 0) V (hw.to (Nat.le_refl _) (by omega)) (by omega)
    omega) (fun he => (hP he).1.w12) (fun q U K hq R hK => c_dys L.1 hq hw R hK) (j_op L hP (by omega) h0 h1))
theorem j_aset (hE : EOK E) (L : LJ N σ V n Hs t Tx) {w v : Int32} (h0 : ¬ nI 0 ≤ eSet w v → ∀ τ, LJ N τ V n Hs t Tx → K (eSet w v) τ) (h1 : nI 0 ≤ eSet w v → ∀ τ, LJ N τ (dSet V (toN w) (toN v)) (pushN n) (pushH n Hs V) t Tx → K (nI (V (3 + toN w))) τ) : cI E 64 [.ref 0, .int w, .int v] σ K := by
  have hw := L.2.2.1
  have hP : nI 0 ≤ eSet w v → WF 9999 (dSet V (toN w) (toN v)) ∧ PI N (dSet V (toN w) (toN v)) := fun he => ⟨hw.set he, L.2.2.2.1.set hw (eSet_ok he).1⟩
  exact sg64_0 (c_chg2 (e := eSet w v) (a := V (3 + toN w)) (W := dSet V (toN w) (toN v)) L.1 L.2.1 hw (fun he => by
    obtain ⟨h1, _⟩ := eSet_ok he
    have h2 := hw.2.1
    unfold W2 at h2
    have hc : toN w = 0 ∨ toN w = 1 ∨ toN w = 2 ∨ toN w = 3 ∨ toN w = 4 ∨ toN w = 5 ∨ toN w = 6 ∨ toN w = 7 := by omega
    rcases hc with hc | hc | hc | hc | hc | hc | hc | hc <;> rw [hc] <;> simp only [Nat.reduceAdd] <;> omega) (fun he => (hP he).1.w12) (fun q U K hq R hK => c_set hE L.1 hq hw R hK) (j_op L hP (Nat.le_refl _) h0 h1))
/-! answers at numbers within -/
theorem br_in (hw : WF m V) {b : Nat} (hb : b < V 2) : inBr V (nI b) = true := (inBr_i hw).mpr ⟨b, hb, rfl⟩
theorem br_no (hw : WF m V) {b : Nat} (hb : V 2 ≤ b) (hb2 : b < 2 ^ 31) : ¬ inBr V (nI b) = true := fun z => by
  have h12 := hw.w12
  obtain ⟨j, hj, e⟩ := (inBr_i hw).mp z
  rw [nI_eq hb2 (by omega)] at e
  omega
theorem is_in (hw : WF m V) {b : Nat} (hb : b < V 1) : inIs V (nI b) = true := (inIs_i hw).mpr ⟨b, hb, rfl⟩
theorem is_no (hw : WF m V) {b : Nat} (hb : V 1 ≤ b) (hb2 : b < 2 ^ 31) : ¬ inIs V (nI b) = true := fun z => by
  have h12 := hw.w12
  obtain ⟨j, hj, e⟩ := (inIs_i hw).mp z
  rw [nI_eq hb2 (by omega)] at e
  omega
section BR
variable {b : Nat}
theorem qb (hw : WF m V) (hb : b < V 2) (w : Int32) : qBrg V (nI b) w = if w = nI 0 then nI (V (72 + 8 * b + 0))
    else if w = nI 1 then nI (V (72 + 8 * b + 1))
    else if w = nI 2 then nI (V (72 + 8 * b + 2))
    else if w = nI 3 then nI (V (72 + 8 * b + 3))
    else if w = nI 4 then nI (stOf V b)
    else if w = nI 5 then nI (V (72 + 8 * b + 5))
    else if w = nI 6 then nI (V (72 + 8 * b + 6))
    else if w = nI 7 then nI (V (72 + 8 * b + 7))
    else if w = nI 8 then (if opn V b = true ∧ cutV V b ≠ 0 then nI 1 else nI 0)
    else (-1000001 : Int32) := by
  have h12 := hw.w12
  unfold qBrg
  rw [if_pos (br_in hw hb), toN_nI (by omega)]
theorem qb0 (hw : WF m V) (hb : b < V 2) : qBrg V (nI b) (nI 0) = nI (V (72 + 8 * b + 0)) := by rw [qb hw hb]; rfl
theorem qb1 (hw : WF m V) (hb : b < V 2) : qBrg V (nI b) (nI 1) = nI (V (72 + 8 * b + 1)) := by rw [qb hw hb]; rfl
theorem qb2 (hw : WF m V) (hb : b < V 2) : qBrg V (nI b) (nI 2) = nI (V (72 + 8 * b + 2)) := by rw [qb hw hb]; rfl
theorem qb3 (hw : WF m V) (hb : b < V 2) : qBrg V (nI b) (nI 3) = nI (V (72 + 8 * b + 3)) := by rw [qb hw hb]; rfl
theorem qb4 (hw : WF m V) (hb : b < V 2) : qBrg V (nI b) (nI 4) = nI (stOf V b) := by rw [qb hw hb]; rfl
theorem qb5 (hw : WF m V) (hb : b < V 2) : qBrg V (nI b) (nI 5) = nI (V (72 + 8 * b + 5)) := by rw [qb hw hb]; rfl
theorem qb6 (hw : WF m V) (hb : b < V 2) : qBrg V (nI b) (nI 6) = nI (V (72 + 8 * b + 6)) := by rw [qb hw hb]; rfl
theorem qw0 (hw : WF m V) (hb : b < V 2) : qWhy V (nI b) (nI 0) = nI (rsn V b) := by
  have h12 := hw.w12
  unfold qWhy
  rw [if_pos ⟨br_in hw hb, by decide⟩, if_pos rfl, toN_nI (by omega)]
theorem rsn_le : rsn V b ≤ 4 := by
  unfold rsn
  repeat' split
  all_goals omega
theorem rsn_x0 (h : rsn V b = 0) : cutV V b = 0 := by
  unfold rsn at h
  split at h
  · omega
  · split at h
    · omega
    · split at h
      · omega
      · split at h
        · assumption
        · omega
theorem rsn_x4 (h : rsn V b = 4) : cutV V b ≠ 0 := by
  unfold rsn at h
  split at h
  · omega
  · split at h
    · omega
    · split at h
      · omega
      · split at h
        · omega
        · assumption
theorem rsn_x1 : rsn V b = 1 ↔ pntd V b = true := by
  unfold rsn
  split
  · rename_i h; exact ⟨fun _ => h, fun _ => rfl⟩
  · rename_i h
    refine ⟨fun z => ?_, fun z => absurd z h⟩
    split at z
    · omega
    · split at z
      · omega
      · split at z <;> omega
theorem st_1 : stOf V b = 1 ↔ pntd V b = true := by
  unfold stOf
  split
  · rename_i h; exact ⟨fun _ => h, fun _ => rfl⟩
  · rename_i h
    refine ⟨fun z => ?_, fun z => absurd z h⟩
    split at z <;> omega
theorem st_le : stOf V b ≤ 2 := by
  unfold stOf
  repeat' split
  all_goals omega
theorem cnt_3 : qCnt V n t (nI 3) = nI (reachV V 0 99) := rfl
end BR
section SND
variable {y a1 : Int32} {b f r sent : Nat}
/-- a crew was sent -/
theorem cr_can (L : LJ N σ V n Hs t Tx) (hb : b < V 2) {n' : Nat} {H' : Nat → Nat → Nat} {M : Nat} (L2 : LJ M τ (dSnd V b) n' H' t Tx) (hr : rsn V b = 0 ∨ rsn V b = 4) (hK : Q (some (.int (nI 1))) τ) {x8 : Int32} :
    wp E 103 141 [.ref 0, .int a1, .int y, .int (nI (V 2)), .int (nI b), .int (nI 0), .int (nI (reachV V 0 99)), .int x8, .int (nI 0), .int (nI (rsn V b)), .int (nI (V (72 + 8 * b + 5))), .int (nI (cutV V b))] [.int (nI 1)] τ Q := by
  have hw := L.2.2.1
  have h12 := hw.w12
  have hcl := cutV_lt hw b
  have hrl := rsn_le (V := V) (b := b)
  have hRl := reach_lt hw.ends (i := 0) (wo := 99) (by decide)
  have e2 : dSnd V b 2 = V 2 := dSnd_o (by omega)
  have fin : ∀ s, s = τ → sh s 0 5 8 ∧ cI E 76 [.ref 0, .int (nI 3)] s (fun x2 s1 =>
        ¬ x2 ≠ (nI (reachV V 0 99) &&& (nI (cutV V b) ^^^ (-1 : Int32))) ∧ sh s1 0 5 8 ∧ cI E 65 [.ref 0, .int (nI b), .int (nI 4)] s1 (fun x4 s3 =>
        ¬ x4 ≠ (nI 1) ∧ sh s3 0 5 8 ∧ cI E 65 [.ref 0, .int (nI b), .int (nI 5)] s3 (fun x6 s5 =>
        ¬ x6 ≠ (nI (V (72 + 8 * b + 5)) + (nI 1)) ∧ fN .boolean (nI 1) = true ∧ Q (some (.int (nI 1))) s5))) := fun s hs => by
    subst hs
    refine ⟨L2.sh, j_cnt L2 ⟨?_, L2.sh, j_brg L2 ⟨?_, L2.sh, j_brg L2 ⟨?_, fN1, hK⟩⟩⟩⟩
    · rw [cnt_3, reach_snd h12.2, nI_andn (by omega) (by omega), cut_keep hw.ends h12.2]
      exact nn
    · rw [qb4 L2.2.2.1 (by omega)]
      have : stOf (dSnd V b) b = 1 := st_1.mpr (by
        have e : dSnd V b (72 + 8 * b + 4) = 1 := by unfold dSnd; rw [upN_n (by omega), upN_s]
        unfold pntd
        rw [e]
        rfl)
      rw [this]
      exact nn
    · rw [qb5 L2.2.2.1 (by omega), nI_add]
      have e : dSnd V b (72 + 8 * b + 5) = V (72 + 8 * b + 5) + 1 := by unfold dSnd; rw [upN_s]
      rw [e]
      exact nn
  refine sg103_141 ⟨fun z => absurd z (by decide), fun _ => ⟨nI_nn (by omega), fun h => ⟨fun h4 => ⟨nn, fin τ rfl⟩, fun h4 => absurd ?_ (rsn_x4 (b := b) (V := V) ?_)⟩, fun h => ⟨fun h4 => absurd (rsn_x0 (b := b) (V := V) ?_) ?_, fun h4 => ⟨nn, fin τ rfl⟩⟩⟩⟩
  · rw [nI_leI (by omega) (by decide)] at h
    omega
  · exact (nI_eq (by omega) (by decide)).mp (Classical.not_not.mp h4)
  · rcases hr with h0 | h0
    · exact h0
    · rw [h0] at h4
      exact absurd rfl h4
  · intro z
    rw [z] at h
    exact h (Int32.le_refl _)
theorem cr_not (hK : Q (some (.int (nI 1))) τ) {x3 x4 x5 x6 x7 x9 x10 told : Int32} {bad : Bool} (hT : told = if bad = true then (-1000001 : Int32) else (-1000002 : Int32)) :
    wp E 103 141 [.ref 0, .int a1, .int y, .int x3, .int x4, .int x5, .int x6, .int x7, .int (bI bad), .int x9, .int x10, .int told] [.int (nI 0)] τ Q := by
  refine sg103_141 ⟨fun _ => ⟨fun h => ⟨?_, fN1, hK⟩, fun h => ⟨?_, fN1, hK⟩⟩, fun z => absurd rfl z⟩
  · rw [hT, (bI_0 bad).mp h]
    exact fun z => z rfl
  · rw [hT, bI_1 h]
    exact fun z => z rfl
end SND
end CRW
