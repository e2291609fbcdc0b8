/-! one call on both sides -/
section COM28
variable {E : AEnv} {σ τ ρ : ASt} {p q : Nat} {h : Nat → Nat} {U : Nat → Nat → Int32} {V W : Nat → Nat} {m n t : Nat} {Hs : Nat → Nat → Nat} {Tx : Nat → Nat} {Q : Option Value → ASt → Prop} {K : Int32 → ASt → Prop} {KV : ASt → Prop}
theorem c_chg2 (H : MI σ) (hc : CD σ V n Hs t Tx) (hw : WF m V) {e : Int32} {a : Nat} {mi : Nat} {as : List Value} (ha : nI 0 ≤ e → a < 2 ^ 31) (h12 : nI 0 ≤ e → W 1 ≤ 8 ∧ W 2 ≤ 14)
    (hop : ∀ q U K, isB q → Rel U V → (∀ U', Rel U' (opV e V W) → K (opA e a) (bS σ q U')) → cI E mi (.ref q :: as) (bS σ q U) K)
    (hK : ∀ τ, FrC σ τ → CD τ (opV e V W) (opN e n) (opH e n Hs V) t Tx → K (opA e a) τ) :
    sh σ 0 5 8 ∧ cR E 82 [.ref 0] σ (fun r2 s1 => sh s1 r2 3 11 ∧ cI E mi (.ref r2 :: as) s1 (fun x4 s3 => sh s3 0 5 8 ∧ cI E 83 [.ref 0, .int x4] s3 (fun x6 s5 => QI K (some (.int x6)) s5))) := by
  obtain ⟨p, q, h, hx⟩ := hc
  have hq : isB q := hx.1.2.1
  refine ⟨sh0 H, c_trl H hx hw fun U1 r1 => ⟨shS H hq, hop q U1 _ hq r1 fun U2 r2 => ⟨sh0 H, ?_⟩⟩⟩
  have H2 : MI (bS σ q U2) := H
  have hx2 : CX (bS σ q U2) p q h V n Hs t Tx := hx.bs
  have hf : FrC σ (bS σ q U2) := FrC.bs hq
  unfold opV opA opN opH at *
  by_cases he : nI 0 ≤ e
  · rw [if_pos he] at r2 ⊢
    rw [if_pos he, if_pos he, if_pos he, if_pos he] at hK
    exact c_sty H2 hx2 (r2.in (h12 he)) (nI_le (Nat.zero_le _) (ha he)) fun τ hf2 hc2 => hK τ (hf.tr hf2) hc2
  · rw [if_neg he]
    rw [if_neg he, if_neg he, if_neg he, if_neg he] at hK
    exact c_stn he (hK _ hf hx2.d)
/-- both sides hold the same -/
def LI (σ : ASt) : Prop := ∃ V n Hs t Tx, MI σ ∧ MD σ V n Hs t Tx ∧ CD σ V n Hs t Tx ∧ WF 9999 V ∧ (∀ j, j < n → WF 9999 (Hs j)) ∧ ∀ j, j < t → Tx j ≤ 126
theorem MD.frC (hm : MD σ V n Hs t Tx) (hf : FrC σ τ) : MD τ V n Hs t Tx := by
  have o : ∀ c k, 179 ≤ c → gI τ c k = gI σ c k := fun c k hc => congrFun (hf.2.1 c hc) k
  obtain ⟨h1, h2, h3, h4, h5, h6, h7⟩ := hm
  exact ⟨fun k hk => (o _ _ (by decide)).trans (h1 k hk), (o _ _ (by decide)).trans h2, h3, fun j hj k hk => (o _ _ (by decide)).trans (h4 j hj k hk), (o _ _ (by decide)).trans h5, h6, fun j hj => (o _ _ (by decide)).trans (h7 j hj)⟩
theorem CD.frM (hc : CD σ V n Hs t Tx) (hf : FrM σ τ) : CD τ V n Hs t Tx := by
  obtain ⟨p, q, h, hd, hh, ⟨v1, v2, v3, v4⟩, t1, t2, t3⟩ := hc
  have o : ∀ c k, c < 179 → gI τ c k = gI σ c k := fun c k hc => congrFun (hf.2.2 c hc) k
  have eb : ∀ B, isB B → blk τ B = blk σ B := fun B hB => by
    funext c
    unfold blk
    by_cases hc : c < 29
    · rw [if_pos hc, if_pos hc]
      exact hf.2.2 _ (by unfold isB at hB; omega)
    · rw [if_neg hc, if_neg hc]
  refine ⟨p, q, h, hd, ?_, ⟨(o _ _ (by decide)).trans v1, v2, ?_, fun j hj => ?_⟩, (o _ _ (by decide)).trans t1, t2, fun j hj => (o _ _ (by decide)).trans (t3 j hj)⟩
  · unfold HX rf at hh ⊢
    rw [hf.2.1]
    exact hh
  · rw [eb p hd.1]; exact v3
  · rw [eb _ (hd.2.2.1 j (by omega))]; exact v4 j hj
theorem cI_mono {mi : Nat} {as : List Value} {K' : Int32 → ASt → Prop} (h : cI E mi as σ K) (hK : ∀ x s, K x s → K' x s) : cI E mi as σ K' := wp_mono h fun r s hr => by
  cases r with
  | none => exact hr
  | some v =>
    cases v with
    | int x => exact hK x s hr
    | _ => exact hr
theorem wf_op {e : Int32} (hw : WF 9999 V) (hW : nI 0 ≤ e → WF 9999 W) : WF 9999 (opV e V W) := by
  unfold opV
  split
  · rename_i he; exact hW he
  · exact hw
theorem wf_pu (hw : WF 9999 V) (hH : ∀ j, j < n → WF 9999 (Hs j)) (hn : n ≤ 4) : ∀ j, j < pushN n → WF 9999 (pushH n Hs V j) := by
  intro j hj
  unfold pushN at hj
  unfold pushH
  by_cases h4 : n < 4
  · rw [if_pos h4] at hj ⊢
    by_cases hjn : j = n
    · rw [if_pos hjn]; exact hw
    · rw [if_neg hjn]; exact hH j (by omega)
  · rw [if_neg h4] at hj ⊢
    by_cases hj3 : j = 3
    · rw [if_pos hj3]; exact hw
    · rw [if_neg hj3]; exact hH _ (by omega)
theorem wf_oh {e : Int32} (hw : WF 9999 V) (hH : ∀ j, j < n → WF 9999 (Hs j)) (hn : n ≤ 4) : ∀ j, j < opN e n → WF 9999 (opH e n Hs V j) := by
  unfold opN opH
  split
  · exact wf_pu hw hH hn
  · exact hH
theorem s_isl (L : LI σ) {x : Int32} {K : Int32 → Int32 → ASt → Prop} (hK : ∀ a ρ, LI ρ → K a a ρ) : cI E 58 [.ref 0, .int x] σ (fun a s => MI s ∧ cI E 128 [.ref 179, .int x] s (fun b ρ => K a b ρ)) := by
  obtain ⟨V, n, Hs, t, Tx, H, hm, hc, hw, hH, hT⟩ := L
  have hW : nI 0 ≤ eIsl V x → WF 9999 (dIsl V (toN x)) := fun he => by
    obtain ⟨h1, _, h3⟩ := eIsl_ok hw he
    exact hw.isl h1 h3
  refine sg58_0 (c_chg2 (e := eIsl V x) (a := V 1) (W := dIsl V (toN x)) H hc hw (fun he => by
      have := hw.w12; omega) (fun he => (hW he).w12) (fun q U K hq R hK => c_isl H hq hw R hK) fun τ hf hc2 => ⟨hf.mi H, ?_⟩)
  exact m_isl (hf.mi H) (hm.frC hf) hw fun ρ hf2 hm2 => hK _ ρ ⟨_, _, _, _, _, hf2.mi (hf.mi H), hm2, hc2.frM hf2, wf_op hw hW, wf_oh hw hH hm.2.2.1, hT⟩
theorem s_nbr (L : LI σ) {x y w : Int32} {K : Int32 → Int32 → ASt → Prop} (hK : ∀ a ρ, LI ρ → K a a ρ) : cI E 59 [.ref 0, .int x, .int y, .int w] σ (fun a s => MI s ∧ cI E 129 [.ref 179, .int x, .int y, .int w] s (fun b ρ => K a b ρ)) := by
  obtain ⟨V, n, Hs, t, Tx, H, hm, hc, hw, hH, hT⟩ := L
  have hW : nI 0 ≤ eBrg V x y w → WF 9999 (dBrg V (toN x) (toN y) (toN w)) := fun he => by
    obtain ⟨a1, _, b1, _, c1, c2, _, d⟩ := eBrg_ok hw he
    exact hw.nbr a1 b1 ⟨c1, c2⟩ d
  refine sg59_0 (c_chg2 (e := eBrg V x y w) (a := V 2) (W := dBrg V (toN x) (toN y) (toN w)) H hc hw (fun he => by
      have := hw.w12; omega) (fun he => (hW he).w12) (fun q U K hq R hK => c_nbr H hq hw R hK) fun τ hf hc2 => ⟨hf.mi H, ?_⟩)
  exact m_brg (hf.mi H) (hm.frC hf) hw fun ρ hf2 hm2 => hK _ ρ ⟨_, _, _, _, _, hf2.mi (hf.mi H), hm2, hc2.frM hf2, wf_op hw hW, wf_oh hw hH hm.2.2.1, hT⟩
theorem s_snd (L : LI σ) {x f : Int32} {K : Int32 → Int32 → ASt → Prop} (hK : ∀ a ρ, LI ρ → K a a ρ) : cI E 60 [.ref 0, .int x, .int f] σ (fun a s => MI s ∧ cI E 130 [.ref 179, .int x, .int f] s (fun b ρ => K a b ρ)) := by
  obtain ⟨V, n, Hs, t, Tx, H, hm, hc, hw, hH, hT⟩ := L
  have hW : nI 0 ≤ eSnd V x f → WF 9999 (dSnd V (toN x)) := fun he => by
    exact hw.snd (eSnd_ok hw he).1
  refine sg60_0 (c_chg2 (e := eSnd V x f) (a := cutV V (toN x)) (W := dSnd V (toN x)) H hc hw (fun he => by
      have := cutV_lt hw (toN x); omega) (fun he => (hW he).w12) (fun q U K hq R hK => c_snd H hq hw R hK) fun τ hf hc2 => ⟨hf.mi H, ?_⟩)
  exact m_snd (hf.mi H) (hm.frC hf) hw fun ρ hf2 hm2 => hK _ ρ ⟨_, _, _, _, _, hf2.mi (hf.mi H), hm2, hc2.frM hf2, wf_op hw hW, wf_oh hw hH hm.2.2.1, hT⟩
theorem s_rec (L : LI σ) {x : Int32} {K : Int32 → Int32 → ASt → Prop} (hK : ∀ a ρ, LI ρ → K a a ρ) : cI E 61 [.ref 0, .int x] σ (fun a s => MI s ∧ cI E 131 [.ref 179, .int x] s (fun b ρ => K a b ρ)) := by
  obtain ⟨V, n, Hs, t, Tx, H, hm, hc, hw, hH, hT⟩ := L
  have hW : nI 0 ≤ eRec V x → WF 9999 (dRec V (toN x)) := fun he => by
    exact hw.rec (eRec_ok hw he).1
  refine sg61_0 (c_chg2 (e := eRec V x) (a := V (72 + 8 * toN x + 3)) (W := dRec V (toN x)) H hc hw (fun he => by
      have := hw.2.2.1 _ (eRec_ok hw he).1; omega) (fun he => (hW he).w12) (fun q U K hq R hK => c_rec H hq hw R hK) fun τ hf hc2 => ⟨hf.mi H, ?_⟩)
  exact m_rec (hf.mi H) (hm.frC hf) hw fun ρ hf2 hm2 => hK _ ρ ⟨_, _, _, _, _, hf2.mi (hf.mi H), hm2, hc2.frM hf2, wf_op hw hW, wf_oh hw hH hm.2.2.1, hT⟩
theorem s_pay (L : LI σ) {x : Int32} {K : Int32 → Int32 → ASt → Prop} (hK : ∀ a ρ, LI ρ → K a a ρ) : cI E 62 [.ref 0, .int x] σ (fun a s => MI s ∧ cI E 132 [.ref 179, .int x] s (fun b ρ => K a b ρ)) := by
  obtain ⟨V, n, Hs, t, Tx, H, hm, hc, hw, hH, hT⟩ := L
  have hW : nI 0 ≤ ePay V x → WF 9999 (dPay V (toN x)) := fun he => by
    exact hw.pay (ePay_ok he).2.2.2
  refine sg62_0 (c_chg2 (e := ePay V x) (a := V 11 + toN x) (W := dPay V (toN x)) H hc hw (fun he => by
      have := (ePay_ok he).2.2.2; omega) (fun he => (hW he).w12) (fun q U K hq R hK => c_pay H hq hw R hK) fun τ hf hc2 => ⟨hf.mi H, ?_⟩)
  exact m_pay (hf.mi H) (hm.frC hf) hw fun ρ hf2 hm2 => hK _ ρ ⟨_, _, _, _, _, hf2.mi (hf.mi H), hm2, hc2.frM hf2, wf_op hw hW, wf_oh hw hH hm.2.2.1, hT⟩
theorem s_dys (L : LI σ) {x : Int32} {K : Int32 → Int32 → ASt → Prop} (hK : ∀ a ρ, LI ρ → K a a ρ) : cI E 63 [.ref 0, .int x] σ (fun a s => MI s ∧ cI E 133 [.ref 179, .int x] s (fun b ρ => K a b ρ)) := by
  obtain ⟨V, n, Hs, t, Tx, H, hm, hc, hw, hH, hT⟩ := L
  have hW : nI 0 ≤ eDys V x → WF 9999 (dDays (toN x) V) := fun he => by
    obtain ⟨_, h2, _, h4⟩ := eDys_ok he
    have h := WF.dysn (toN x) (V 0) V (hw.to (Nat.le_refl _) (by omega)) (by omega)
    exact h.to (Nat.le_trans h.2.2.2.2.1 h4) (by decide)
  refine sg63_0 (c_chg2 (e := eDys V x) (a := cDays (toN x) V) (W := dDays (toN x) V) H hc hw (fun he => by
      obtain ⟨_, h2, _, h4⟩ := eDys_ok he
      have h5 := hw.2.2.2.2
      unfold W5 at h5
      have := cDays_le (toN x) (V 0) V (hw.to (Nat.le_refl _) (by omega)) (by omega)
      omega) (fun he => (hW he).w12) (fun q U K hq R hK => c_dys H hq hw R hK) fun τ hf hc2 => ⟨hf.mi H, ?_⟩)
  exact m_dys (hf.mi H) (hm.frC hf) hw fun ρ hf2 hm2 => hK _ ρ ⟨_, _, _, _, _, hf2.mi (hf.mi H), hm2, hc2.frM hf2, wf_op hw hW, wf_oh hw hH hm.2.2.1, hT⟩
theorem s_set (hE : EOK E) (L : LI σ) {w v : Int32} {K : Int32 → Int32 → ASt → Prop} (hK : ∀ a ρ, LI ρ → K a a ρ) : cI E 64 [.ref 0, .int w, .int v] σ (fun a s => MI s ∧ cI E 135 [.ref 179, .int w, .int v] s (fun b ρ => K a b ρ)) := by
  obtain ⟨V, n, Hs, t, Tx, H, hm, hc, hw, hH, hT⟩ := L
  have hW : nI 0 ≤ eSet w v → WF 9999 (dSet V (toN w) (toN v)) := fun he => by
    exact hw.set he
  refine sg64_0 (c_chg2 (e := eSet w v) (a := V (3 + toN w)) (W := dSet V (toN w) (toN v)) H hc hw (fun he => by
      obtain ⟨h1, _⟩ := eSet_ok he
      have h2 := hw.2.1
      unfold W2 at h2
      have hc : toN w = 0 ∨ toN w = 1 ∨ toN w = 2 ∨ toN w = 3 ∨ toN w = 4 ∨ toN w = 5 ∨ toN w = 6 ∨ toN w = 7 := by omega
      rcases hc with hc | hc | hc | hc | hc | hc | hc | hc <;> rw [hc] <;> simp only [Nat.reduceAdd] <;> omega) (fun he => (hW he).w12) (fun q U K hq R hK => c_set hE H hq hw R hK) fun τ hf hc2 => ⟨hf.mi H, ?_⟩)
  exact m_set (hf.mi H) (hm.frC hf) fun ρ hf2 hm2 => hK _ ρ ⟨_, _, _, _, _, hf2.mi (hf.mi H), hm2, hc2.frM hf2, wf_op hw hW, wf_oh hw hH hm.2.2.1, hT⟩
theorem s_qBrg (L : LI σ) {x w : Int32} {K : Int32 → Int32 → ASt → Prop} (hK : ∀ a ρ, LI ρ → K a a ρ) : cI E 65 [.ref 0, .int x, .int w] σ (fun a s => MI s ∧ cI E 137 [.ref 179, .int x, .int w] s (fun b ρ => K a b ρ)) := by
  have L0 := L
  obtain ⟨V, n, Hs, t, Tx, H, hm, hc, hw, hH, hT⟩ := L
  refine u_qBrg H hc hw ⟨H, ?_⟩
  have es := mS_e hm
  have hk := hK (qBrg V x w) σ L0
  rw [← es] at hk ⊢
  exact r_qBrg H hw hk
theorem s_qIsl (L : LI σ) {x w : Int32} {K : Int32 → Int32 → ASt → Prop} (hK : ∀ a ρ, LI ρ → K a a ρ) : cI E 66 [.ref 0, .int x, .int w] σ (fun a s => MI s ∧ cI E 140 [.ref 179, .int x, .int w] s (fun b ρ => K a b ρ)) := by
  have L0 := L
  obtain ⟨V, n, Hs, t, Tx, H, hm, hc, hw, hH, hT⟩ := L
  refine u_qIsl H hc hw ⟨H, ?_⟩
  have es := mS_e hm
  have hk := hK (qIsl V x w) σ L0
  rw [← es] at hk ⊢
  exact r_qIsl H hw hk
theorem s_qRea (L : LI σ) {x : Int32} {K : Int32 → Int32 → ASt → Prop} (hK : ∀ a ρ, LI ρ → K a a ρ) : cI E 67 [.ref 0, .int x] σ (fun a s => MI s ∧ cI E 141 [.ref 179, .int x] s (fun b ρ => K a b ρ)) := by
  have L0 := L
  obtain ⟨V, n, Hs, t, Tx, H, hm, hc, hw, hH, hT⟩ := L
  refine u_qRea H hc hw ⟨H, ?_⟩
  have es := mS_e hm
  have hk := hK (qRea V x) σ L0
  rw [← es] at hk ⊢
  exact r_qRea H hw hk
theorem s_qBok (L : LI σ) {x w : Int32} {K : Int32 → Int32 → ASt → Prop} (hK : ∀ a ρ, LI ρ → K a a ρ) : cI E 68 [.ref 0, .int x, .int w] σ (fun a s => MI s ∧ cI E 142 [.ref 179, .int x, .int w] s (fun b ρ => K a b ρ)) := by
  have L0 := L
  obtain ⟨V, n, Hs, t, Tx, H, hm, hc, hw, hH, hT⟩ := L
  refine u_qBok H hc hw ⟨H, ?_⟩
  have es := mS_e hm
  have hk := hK (qBok V x w) σ L0
  rw [← es] at hk ⊢
  exact r_qBok H hw hk
theorem s_qWhy (L : LI σ) {x w : Int32} {K : Int32 → Int32 → ASt → Prop} (hK : ∀ a ρ, LI ρ → K a a ρ) : cI E 69 [.ref 0, .int x, .int w] σ (fun a s => MI s ∧ cI E 144 [.ref 179, .int x, .int w] s (fun b ρ => K a b ρ)) := by
  have L0 := L
  obtain ⟨V, n, Hs, t, Tx, H, hm, hc, hw, hH, hT⟩ := L
  refine u_qWhy H hc hw ⟨H, ?_⟩
  have es := mS_e hm
  have hk := hK (qWhy V x w) σ L0
  rw [← es] at hk ⊢
  exact r_qWhy H hw hk
theorem s_qBst (L : LI σ) {K : Int32 → Int32 → ASt → Prop} (hK : ∀ a ρ, LI ρ → K a a ρ) : cI E 70 [.ref 0] σ (fun a s => MI s ∧ cI E 145 [.ref 179] s (fun b ρ => K a b ρ)) := by
  have L0 := L
  obtain ⟨V, n, Hs, t, Tx, H, hm, hc, hw, hH, hT⟩ := L
  refine u_best H hc hw ⟨H, ?_⟩
  have es := mS_e hm
  have hk := hK (bsI (bsV V)) σ L0
  rw [← es] at hk ⊢
  exact r_best H hw hk
theorem s_qRus (L : LI σ) {x : Int32} {K : Int32 → Int32 → ASt → Prop} (hK : ∀ a ρ, LI ρ → K a a ρ) : cI E 71 [.ref 0, .int x] σ (fun a s => MI s ∧ cI E 146 [.ref 179, .int x] s (fun b ρ => K a b ρ)) := by
  have L0 := L
  obtain ⟨V, n, Hs, t, Tx, H, hm, hc, hw, hH, hT⟩ := L
  refine u_qRus H hc hw ⟨H, ?_⟩
  have es := mS_e hm
  have hk := hK (qRus V x) σ L0
  rw [← es] at hk ⊢
  exact r_qRus H hw hk
theorem s_mea (L : LI σ) {K : Int32 → Int32 → ASt → Prop} (hK : ∀ a ρ, LI ρ → K a a ρ) : cI E 75 [.ref 0] σ (fun a s => MI s ∧ cI E 150 [.ref 179] s (fun b ρ => K a b ρ)) := by
  have L0 := L
  obtain ⟨V, n, Hs, t, Tx, H, hm, hc, hw, hH, hT⟩ := L
  exact u_mea H hc hw ⟨H, m_mea H hm hw (hK (qMea V) σ L0)⟩
theorem s_cnt (L : LI σ) {x : Int32} {K : Int32 → Int32 → ASt → Prop} (hK : ∀ a ρ, LI ρ → K a a ρ) : cI E 76 [.ref 0, .int x] σ (fun a s => MI s ∧ cI E 155 [.ref 179, .int x] s (fun b ρ => K a b ρ)) := by
  have L0 := L
  obtain ⟨V, n, Hs, t, Tx, H, hm, hc, hw, hH, hT⟩ := L
  exact u_cnt H hc hw ⟨H, m_cnt H hm hw (hK (qCnt V n t x) σ L0)⟩
theorem s_pin (L : LI σ) {x : Int32} {K : Int32 → Int32 → ASt → Prop} (hK : ∀ a ρ, LI ρ → K a a ρ) : cI E 72 [.ref 0, .int x] σ (fun a s => MI s ∧ cI E 147 [.ref 179, .int x] s (fun b ρ => K a b ρ)) := by
  obtain ⟨V, n, Hs, t, Tx, H, hm, hc, hw, hH, hT⟩ := L
  exact u_pin H hc hw fun τ hf hc2 => ⟨hf.mi H, m_pin (hf.mi H) (hm.frC hf) hw fun ρ hf2 hm2 => hK (qPin V x) ρ ⟨_, _, _, _, _, hf2.mi (hf.mi H), hm2, hc2.frM hf2, hw, hH, hT⟩⟩
theorem s_aln (L : LI σ) {K : Int32 → Int32 → ASt → Prop} (hK : ∀ a ρ, LI ρ → K a a ρ) : cI E 73 [.ref 0] σ (fun a s => MI s ∧ cI E 148 [.ref 179] s (fun b ρ => K a b ρ)) := by
  obtain ⟨V, n, Hs, t, Tx, H, hm, hc, hw, hH, hT⟩ := L
  exact u_aln H hc hw fun τ hf hc2 => ⟨hf.mi H, m_aln (hf.mi H) (hm.frC hf) hw fun ρ hf2 hm2 => hK (qAln V) ρ ⟨_, _, _, _, _, hf2.mi (hf.mi H), hm2, hc2.frM hf2, hw, hH, hT⟩⟩
theorem s_ifd (L : LI σ) {x : Int32} {K : Int32 → Int32 → ASt → Prop} (hK : ∀ a ρ, LI ρ → K a a ρ) : cI E 74 [.ref 0, .int x] σ (fun a s => MI s ∧ cI E 149 [.ref 179, .int x] s (fun b ρ => K a b ρ)) := by
  obtain ⟨V, n, Hs, t, Tx, H, hm, hc, hw, hH, hT⟩ := L
  exact u_ifd H hc hw fun τ hf hc2 => ⟨hf.mi H, m_ifd (hf.mi H) (hm.frC hf) hw fun ρ hf2 hm2 => hK (qIfd V x) ρ ⟨_, _, _, _, _, hf2.mi (hf.mi H), hm2, hc2.frM hf2, hw, hH, hT⟩⟩
theorem s_flt (L : LI σ) {x : Int32} {K : Int32 → Int32 → ASt → Prop} (hK : ∀ a ρ, LI ρ → K a a ρ) : cI E 80 [.ref 0, .int x] σ (fun a s => MI s ∧ cI E 165 [.ref 179, .int x] s (fun b ρ => K a b ρ)) := by
  obtain ⟨V, n, Hs, t, Tx, H, hm, hc, hw, hH, hT⟩ := L
  exact u_flt H hc hT hw fun τ hf hc2 => ⟨hf.mi H, m_flt (hf.mi H) (hm.frC hf) hT hw fun ρ hf2 hm2 => hK (qFlt V t Tx x) ρ ⟨_, _, _, _, _, hf2.mi (hf.mi H), hm2, hc2.frM hf2, hw, hH, hT⟩⟩
theorem s_und (L : LI σ) {K : Int32 → Int32 → ASt → Prop} (hK : ∀ a ρ, LI ρ → K a a ρ) : cI E 77 [.ref 0] σ (fun a s => MI s ∧ cI E 136 [.ref 179] s (fun b ρ => K a b ρ)) := by
  have L0 := L
  obtain ⟨V, n, Hs, t, Tx, H, hm, hc, hw, hH, hT⟩ := L
  refine u_und H hc (fun hz => ⟨H, m_und H hm (fun _ => hK _ σ L0) fun ρ h0 _ _ => absurd h0 (by omega)⟩) fun τ h0 hf hc2 => ⟨hf.mi H, m_und (hf.mi H) (hm.frC hf) (fun hz => absurd hz (by omega)) fun ρ _ hf2 hm2 => hK _ ρ ⟨_, _, _, _, _, hf2.mi (hf.mi H), hm2, hc2.frM hf2, hH _ (by omega), fun j hj => hH j (by omega), hT⟩⟩
theorem s_typ (L : LI σ) {x : Int32} {K : Int32 → Int32 → ASt → Prop} (hK : ∀ a ρ, LI ρ → K a a ρ) : cI E 78 [.ref 0, .int x] σ (fun a s => MI s ∧ cI E 156 [.ref 179, .int x] s (fun b ρ => K a b ρ)) := by
  obtain ⟨V, n, Hs, t, Tx, H, hm, hc, hw, hH, hT⟩ := L
  refine u_typ H hc fun τ hf hc2 => ⟨hf.mi H, m_typ (hf.mi H) (hm.frC hf) fun ρ hf2 hm2 => hK _ ρ ⟨_, _, _, _, _, hf2.mi (hf.mi H), hm2, hc2.frM hf2, hw, hH, fun j hj => ?_⟩⟩
  unfold nTyp at hj
  unfold fTyp
  by_cases hr : inRg x (nI 32) (nI 126) = true
  · rw [if_pos hr] at hj ⊢
    by_cases h60 : t = 60
    · rw [if_pos h60] at hj ⊢; exact hT j hj
    · rw [if_neg h60] at hj ⊢
      by_cases hjt : j = t
      · rw [hjt, upN_s]; exact (inRg_n (by decide) (by decide) hr).2.1
      · rw [upN_n hjt]; exact hT j (by omega)
  · rw [if_neg hr] at hj ⊢; exact hT j hj
theorem s_clr (L : LI σ) {K : Int32 → Int32 → ASt → Prop} (hK : ∀ a ρ, LI ρ → K a a ρ) : cI E 79 [.ref 0] σ (fun a s => MI s ∧ cI E 157 [.ref 179] s (fun b ρ => K a b ρ)) := by
  obtain ⟨V, n, Hs, t, Tx, H, hm, hc, hw, hH, hT⟩ := L
  exact u_clr H hc fun τ hf hc2 => ⟨hf.mi H, m_clr (hf.mi H) (hm.frC hf) fun ρ hf2 hm2 => hK _ ρ ⟨_, _, _, _, _, hf2.mi (hf.mi H), hm2, hc2.frM hf2, hw, hH, fun j hj => absurd hj (Nat.not_lt_zero _)⟩⟩
theorem s_ply (L : LI σ) {K : Int32 → Int32 → ASt → Prop} (hK : ∀ a ρ, LI ρ → K a a ρ) : cI E 81 [.ref 0] σ (fun a s => MI s ∧ cI E 166 [.ref 179] s (fun b ρ => K a b ρ)) := by
  obtain ⟨V, n, Hs, t, Tx, H, hm, hc, hw, hH, hT⟩ := L
  refine u_ply H hc hT hw (fun hz τ hf hc2 => ⟨hf.mi H, m_ply (hf.mi H) (hm.frC hf) hT hw (fun _ ρ hf2 hm2 => hK _ ρ ⟨_, _, _, _, _, hf2.mi (hf.mi H), hm2, hc2.frM hf2, plL_wf 60 V 0 0 hw, wf_pu hw hH hm.2.2.1, hT⟩) fun hn => absurd hz hn⟩) fun hn τ hf hc2 => ⟨hf.mi H, m_ply (hf.mi H) (hm.frC hf) hT hw (fun hz => absurd hz hn) fun _ ρ hf2 hm2 => hK _ ρ ⟨_, _, _, _, _, hf2.mi (hf.mi H), hm2, hc2.frM hf2, hw, hH, hT⟩⟩
end COM28
