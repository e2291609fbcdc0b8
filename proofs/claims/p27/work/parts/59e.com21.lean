/-! the component's public changes and questions -/
section COM21
variable {E : AEnv} {σ τ : ASt} {A B p q : Nat} {h g : Nat → Nat} {U U' : Nat → Nat → Int32} {V W : Nat → Nat} {m n t : Nat} {Hs : Nat → Nat → Nat} {Tx : Nat → Nat} {Q : Option Value → ASt → Prop} {K : Int32 → ASt → Prop} {KV : ASt → Prop}
theorem c_chg (H : MI σ) (hc : CD σ V n Hs t Tx) (hw : WF m V) {e : Int32} {a : Nat} {mi : Nat} {as : List Value} (ha : a < 2 ^ 31) (h12 : nI 0 ≤ e → W 1 ≤ 8 ∧ W 2 ≤ 14)
    (hop : ∀ q U K, isB q → Rel U V → (∀ U', Rel U' (opV e V W) → K (opA e a) (bS σ q U')) → cI E mi (.ref q :: as) (bS σ q U) K)
    (hK : ∀ τ, FrC σ τ → CD τ (opV e V W) (opN e n) (opH e n Hs V) t Tx → K (opA e a) τ) :
    sh σ 0 5 8 ∧ cR E 82 [.ref 0] σ (fun r2 s1 => sh s1 r2 3 11 ∧ cI E mi (.ref r2 :: as) s1 (fun x4 s3 => sh s3 0 5 8 ∧ cI E 83 [.ref 0, .int x4] s3 (fun x6 s5 => QI K (some (.int x6)) s5))) := by
  obtain ⟨p, q, h, hx⟩ := hc
  have hq : isB q := hx.1.2.1
  refine ⟨sh0 H, c_trl H hx hw fun U1 r1 => ⟨shS H hq, hop q U1 _ hq r1 fun U2 r2 => ⟨sh0 H, ?_⟩⟩⟩
  have H2 : MI (bS σ q U2) := H
  have hx2 : CX (bS σ q U2) p q h V n Hs t Tx := hx.bs
  have hf : FrC σ (bS σ q U2) := FrC.bs hq
  unfold opV opA opN opH at *
  by_cases he : nI 0 ≤ e
  · rw [if_pos he] at r2 ⊢
    rw [if_pos he, if_pos he, if_pos he, if_pos he] at hK
    exact c_sty H2 hx2 (r2.in (h12 he)) (nI_le (Nat.zero_le _) ha) fun τ hf2 hc2 => hK τ (hf.tr hf2) hc2
  · rw [if_neg he]
    rw [if_neg he, if_neg he, if_neg he, if_neg he] at hK
    exact c_stn he (hK _ hf hx2.d)
theorem u_isl (H : MI σ) (hc : CD σ V n Hs t Tx) (hw : WF m V) {x : Int32} (hK : ∀ τ, FrC σ τ → CD τ (opV (eIsl V x) V (dIsl V (toN x))) (opN (eIsl V x) n) (opH (eIsl V x) n Hs V) t Tx → K (opA (eIsl V x) (V 1)) τ) : cI E 58 [.ref 0, .int x] σ K :=
  sg58_0 (c_chg H hc hw (by have := hw.w12; omega) (fun he => by
    obtain ⟨h1, _, h3⟩ := eIsl_ok hw he
    exact (hw.isl h1 h3).w12) (fun q U K hq R hK => c_isl H hq hw R hK) hK)
theorem u_nbr (H : MI σ) (hc : CD σ V n Hs t Tx) (hw : WF m V) {x y w : Int32} (hK : ∀ τ, FrC σ τ → CD τ (opV (eBrg V x y w) V (dBrg V (toN x) (toN y) (toN w))) (opN (eBrg V x y w) n) (opH (eBrg V x y w) n Hs V) t Tx → K (opA (eBrg V x y w) (V 2)) τ) : cI E 59 [.ref 0, .int x, .int y, .int w] σ K :=
  sg59_0 (c_chg H hc hw (by have := hw.w12; omega) (fun he => by
    obtain ⟨a1, _, b1, _, c1, c2, _, d⟩ := eBrg_ok hw he
    exact (hw.nbr a1 b1 ⟨c1, c2⟩ d).w12) (fun q U K hq R hK => c_nbr H hq hw R hK) hK)
theorem u_snd (H : MI σ) (hc : CD σ V n Hs t Tx) (hw : WF m V) {x f : Int32} (hK : ∀ τ, FrC σ τ → CD τ (opV (eSnd V x f) V (dSnd V (toN x))) (opN (eSnd V x f) n) (opH (eSnd V x f) n Hs V) t Tx → K (opA (eSnd V x f) (cutV V (toN x))) τ) : cI E 60 [.ref 0, .int x, .int f] σ K :=
  sg60_0 (c_chg H hc hw (by have := cutV_lt hw (toN x); omega) (fun he => (hw.snd (eSnd_ok hw he).1).w12) (fun q U K hq R hK => c_snd H hq hw R hK) hK)
theorem u_rec (H : MI σ) (hc : CD σ V n Hs t Tx) (hw : WF m V) {x : Int32} (h3 : V (72 + 8 * toN x + 3) < 2 ^ 31) (hK : ∀ τ, FrC σ τ → CD τ (opV (eRec V x) V (dRec V (toN x))) (opN (eRec V x) n) (opH (eRec V x) n Hs V) t Tx → K (opA (eRec V x) (V (72 + 8 * toN x + 3))) τ) : cI E 61 [.ref 0, .int x] σ K :=
  sg61_0 (c_chg H hc hw h3 (fun he => (hw.rec (eRec_ok hw he).1).w12) (fun q U K hq R hK => c_rec H hq hw R hK) hK)
theorem u_pay (H : MI σ) (hc : CD σ V n Hs t Tx) (hw : WF m V) {x : Int32} (h3 : V 11 + toN x < 2 ^ 31) (hK : ∀ τ, FrC σ τ → CD τ (opV (ePay V x) V (dPay V (toN x))) (opN (ePay V x) n) (opH (ePay V x) n Hs V) t Tx → K (opA (ePay V x) (V 11 + toN x)) τ) : cI E 62 [.ref 0, .int x] σ K :=
  sg62_0 (c_chg H hc hw h3 (fun he => (hw.pay (ePay_ok he).2.2.2).w12) (fun q U K hq R hK => c_pay H hq hw R hK) hK)
theorem u_dys (H : MI σ) (hc : CD σ V n Hs t Tx) (hw : WF m V) {x : Int32} (h3 : cDays (toN x) V < 2 ^ 31) (hK : ∀ τ, FrC σ τ → CD τ (opV (eDys V x) V (dDays (toN x) V)) (opN (eDys V x) n) (opH (eDys V x) n Hs V) t Tx → K (opA (eDys V x) (cDays (toN x) V)) τ) : cI E 63 [.ref 0, .int x] σ K :=
  sg63_0 (c_chg H hc hw h3 (fun he => by
    obtain ⟨_, _, _, h4⟩ := eDys_ok he
    have h5 := hw.2.2.2.2
    unfold W5 at h5
    exact (WF.dysn _ _ _ (hw.to (Nat.le_refl _) (by omega)) (by omega)).w12) (fun q U K hq R hK => c_dys H hq hw R hK) hK)
theorem u_set (hE : EOK E) (H : MI σ) (hc : CD σ V n Hs t Tx) (hw : WF m V) {w v : Int32} (h3 : V (3 + toN w) < 2 ^ 31) (hK : ∀ τ, FrC σ τ → CD τ (opV (eSet w v) V (dSet V (toN w) (toN v))) (opN (eSet w v) n) (opH (eSet w v) n Hs V) t Tx → K (opA (eSet w v) (V (3 + toN w))) τ) : cI E 64 [.ref 0, .int w, .int v] σ K :=
  sg64_0 (c_chg H hc hw h3 (fun he => (hw.set he).w12) (fun q U K hq R hK => c_set hE H hq hw R hK) hK)
theorem nd_is {b : Nat} (hb : b < V 2) : bI (bt (setN (isNd V) (V 2)) b) = if opn V b = true ∧ cutV V b ≠ 0 then nI 1 else nI 0 := by
  rw [bt_tb, setN_b, decide_eq_true hb, Bool.true_and]
  unfold isNd
  by_cases h1 : opn V b = true
  · by_cases h2 : cutV V b = 0
    · rw [h1, h2, if_neg (fun z => z.2 rfl)]; rfl
    · rw [if_pos ⟨h1, h2⟩, h1]
      have : Nat.beq (cutV V b) 0 = false := by
        cases hq : Nat.beq (cutV V b) 0 with
        | false => rfl
        | true => exact absurd (beq_iff'.mp hq) h2
      rw [this]; rfl
  · rw [if_neg (fun z => h1 z.1)]
    have : opn V b = false := by
      cases hq : opn V b with
      | false => rfl
      | true => exact absurd hq h1
    rw [this]; rfl
theorem u_bI {b : Bool} {s : ASt} (hK : K (bI b) s) : (bI b = nI 0 → QI K (some (.int (nI 0))) s) ∧ (¬ bI b = nI 0 → QI K (some (.int (nI 1))) s) := ⟨fun z => by rw [z] at hK; exact hK, fun z => by rw [bI_1 z] at hK; exact hK⟩
theorem u_qBrg (H : MI σ) (hc : CD σ V n Hs t Tx) (hw : WF m V) {x w : Int32} (hK : K (qBrg V x w) σ) : cI E 65 [.ref 0, .int x, .int w] σ K := by
  have h1 := hw.1
  unfold W1 at h1
  obtain ⟨p, q, h, hd, hh, hv, ht⟩ := hc
  have hp : isB p := hd.1
  have R := hv.2.2.1
  have e : bS σ p (blk σ p) = σ := bS_blk
  unfold qBrg at hK
  rw [← e] at hK ⊢
  generalize blk σ p = U at R hK ⊢
  refine sg65_0 ⟨sh0 H, p, hh.1, shS H hp, c_isB H hp hw R ⟨fun g => ?_, fun g => ?_⟩⟩
  · rw [if_pos (show inBr V x = true from bI_1 g)] at hK
    obtain ⟨hx, ex⟩ := inBr_n hw (bI_1 g)
    generalize toN x = b at hK hx ex
    subst ex
    have rb := R.2.2.2.2 b hx
    have hs := shB H hp (i := b) (by omega)
    have gb : ∀ k, gI (bS σ p U) (p + 15 + b) k = U (15 + b) k := fun k => gB (by omega)
    refine ⟨sh0 H, p, hh.1, shS H hp, _, rS1 H hp, 14, _, shBA H hp, vi (by omega) (by omega), rBAc H hp (by omega), fun g => ?_, fun g0 => ⟨fun g => ?_, fun g1 => ⟨fun g => ?_, fun g2 => ⟨fun g => ?_, fun g3 => ⟨fun g => ?_, fun g4 => ⟨fun g => ?_, fun g5 => ⟨fun g => ?_, fun g6 => ⟨fun g => ?_, fun g7 => ⟨fun g => ?_, fun g8 => ?_⟩⟩⟩⟩⟩⟩⟩⟩⟩
    · rw [if_pos g] at hK
      rw [gb, rb.1]; exact ⟨hs, hK⟩
    · rw [if_neg g0, if_pos g] at hK
      rw [gb, rb.2.1]; exact ⟨hs, hK⟩
    · rw [if_neg g0, if_neg g1, if_pos g] at hK
      rw [gb, rb.2.2.2.1]; exact ⟨hs, hK⟩
    · rw [if_neg g0, if_neg g1, if_neg g2, if_pos g] at hK
      rw [gb, rb.2.2.2.2.1]; exact ⟨hs, hK⟩
    · rw [if_neg g0, if_neg g1, if_neg g2, if_neg g3, if_pos g] at hK
      rw [gb, rb.2.2.2.2.2.1]; exact ⟨hs, hK⟩
    · rw [if_neg g0, if_neg g1, if_neg g2, if_neg g3, if_neg g4, if_pos g] at hK
      rw [gb, rb.2.2.2.2.2.2.1]; exact ⟨hs, hK⟩
    · rw [if_neg g0, if_neg g1, if_neg g2, if_neg g3, if_neg g4, if_neg g5, if_pos g] at hK
      rw [gb, rb.2.2.2.2.2.2.2.1]; exact ⟨hs, hK⟩
    · rw [if_neg g0, if_neg g1, if_neg g2, if_neg g3, if_neg g4, if_neg g5, if_neg g6, if_pos g] at hK
      rw [gb, rb.2.2.2.2.2.2.2.2]; exact ⟨hs, hK⟩
    · rw [if_neg g0, if_neg g1, if_neg g2, if_neg g3, if_neg g4, if_neg g5, if_neg g6, if_neg g7, if_pos g, ← nd_is hx] at hK
      have hl := setN_lt' (isNd V) (n := V 2) (by omega)
      exact ⟨sh0 H, p, hh.1, shS H hp, c_nd H hp hw R (c_hol (by omega) (by omega) (u_bI hK))⟩
    · rw [if_neg g0, if_neg g1, if_neg g2, if_neg g3, if_neg g4, if_neg g5, if_neg g6, if_neg g7, if_neg g8] at hK
      exact hK
  · rw [if_neg (show ¬ inBr V x = true from fun z => ff (by rw [← bI_2 g]; exact z))] at hK
    exact hK
theorem u_qIsl (H : MI σ) (hc : CD σ V n Hs t Tx) (hw : WF m V) {x w : Int32} (hK : K (qIsl V x w) σ) : cI E 66 [.ref 0, .int x, .int w] σ K := by
  have h1 := hw.1
  unfold W1 at h1
  obtain ⟨p, q, h, hd, hh, hv, ht⟩ := hc
  have hp : isB p := hd.1
  have R := hv.2.2.1
  have e : bS σ p (blk σ p) = σ := bS_blk
  unfold qIsl at hK
  rw [← e] at hK ⊢
  generalize blk σ p = U at R hK ⊢
  refine sg66_0 ⟨sh0 H, p, hh.1, shS H hp, c_isI H hp hw R ⟨fun g => ?_, fun g => ?_⟩⟩
  · rw [if_pos (show inIs V x = true from bI_1 g)] at hK
    obtain ⟨hx, ex⟩ := inIs_n hw (bI_1 g)
    generalize toN x = b at hK hx ex
    subst ex
    have rb := R.2.2.2.1 b hx
    have hs := shI H hp (i := b) (by omega)
    have gb : ∀ k, gI (bS σ p U) (p + 7 + b) k = U (7 + b) k := fun k => gIl (by omega)
    refine ⟨sh0 H, p, hh.1, shS H hp, _, rS0 H hp, 8, _, shIA H hp, vi (by omega) (by omega), rIAc H hp (by omega), fun g => ?_, fun g0 => ⟨fun g => ?_, fun g1 => ⟨fun g => ?_, fun g2 => ⟨fun g => ?_, fun g3 => ⟨fun g => ?_, fun g4 => ⟨fun g => ?_, fun g5 => ⟨fun g => ?_, fun g6 => ⟨fun g => ?_, fun g7 => ?_⟩⟩⟩⟩⟩⟩⟩⟩
    · rw [if_pos g] at hK
      have hl := reach_lt hw.ends (i := 0) (wo := 99) (by decide)
      exact ⟨sh0 H, p, hh.1, shS H hp, c_rea H hp hw R (by decide) woI_m (c_hol (by omega) (by omega) (u_bI hK))⟩
    · rw [if_neg g0, if_pos g] at hK
      rw [gb, rb.2.1]; exact ⟨hs, hK⟩
    · rw [if_neg g0, if_neg g1, if_pos g] at hK
      rw [gb, rb.1]; exact ⟨hs, hK⟩
    · rw [if_neg g0, if_neg g1, if_neg g2, if_pos g] at hK
      rw [gb, rb.2.2.2.1]; exact ⟨hs, hK⟩
    · rw [if_neg g0, if_neg g1, if_neg g2, if_neg g3, if_pos g] at hK
      rw [gb, rb.2.2.1]; exact ⟨hs, hK⟩
    · rw [if_neg g0, if_neg g1, if_neg g2, if_neg g3, if_neg g4, if_pos g] at hK
      rw [gb, rb.2.2.2.2]; exact ⟨hs, hK⟩
    · rw [if_neg g0, if_neg g1, if_neg g2, if_neg g3, if_neg g4, if_neg g5, if_pos g] at hK
      exact ⟨sh0 H, p, hh.1, shS H hp, c_oa H hp hw R (by omega) hK⟩
    · rw [if_neg g0, if_neg g1, if_neg g2, if_neg g3, if_neg g4, if_neg g5, if_neg g6, if_pos g] at hK
      exact ⟨sh0 H, p, hh.1, shS H hp, c_bt H hp hw R (by omega) hK⟩
    · rw [if_neg g0, if_neg g1, if_neg g2, if_neg g3, if_neg g4, if_neg g5, if_neg g6, if_neg g7] at hK
      exact hK
  · rw [if_neg (show ¬ inIs V x = true from fun z => ff (by rw [← bI_2 g]; exact z))] at hK
    exact hK
theorem u_qRea (H : MI σ) (hc : CD σ V n Hs t Tx) (hw : WF m V) {x : Int32} (hK : K (qRea V x) σ) : cI E 67 [.ref 0, .int x] σ K := by
  have h1 := hw.1
  unfold W1 at h1
  obtain ⟨p, q, h, hd, hh, hv, ht⟩ := hc
  have hp : isB p := hd.1
  have R := hv.2.2.1
  have e : bS σ p (blk σ p) = σ := bS_blk
  unfold qRea at hK
  rw [← e] at hK ⊢
  generalize blk σ p = U at R hK ⊢
  refine sg67_0 ⟨sh0 H, p, hh.1, shS H hp, c_isI H hp hw R ⟨fun g => ?_, fun g => ⟨sh0 H, p, hh.1, shS H hp, ?_⟩⟩⟩
  · rw [if_neg (show ¬ inIs V x = true from bI_3 g)] at hK
    exact hK
  · rw [if_pos (show inIs V x = true from bI_1 g)] at hK
    obtain ⟨hx, ex⟩ := inIs_n hw (bI_1 g)
    generalize toN x = b at hK hx ex
    subst ex
    exact c_rea H hp hw R (by omega) woI_m hK
theorem u_qBok (H : MI σ) (hc : CD σ V n Hs t Tx) (hw : WF m V) {a w : Int32} (hK : K (qBok V a w) σ) : cI E 68 [.ref 0, .int a, .int w] σ K := by
  obtain ⟨p, q, h, hd, hh, hv, ht⟩ := hc
  have hp : isB p := hd.1
  have R := hv.2.2.1
  have e : bS σ p (blk σ p) = σ := bS_blk
  unfold qBok at hK
  rw [← e] at hK ⊢
  generalize blk σ p = U at R hK ⊢
  have no : ¬ inRg w (nI 0) (nI 1) = true → ¬ a < nI 0 → K (-1000001 : Int32) (bS σ p U) := fun z y => by
    rw [if_neg y, if_neg z] at hK
    exact hK
  refine sg68_0 ⟨fun g => ?_, fun g => ⟨fun g2 => no (inRg_lt (by decide) (by decide) g2) g, fun g2 => ⟨fun g3 => ?_, fun g3 => no (inRg_gt (by decide) (by decide) g3) g⟩⟩⟩
  · rw [if_pos g] at hK; exact hK
  · have hr := inRg_mk (by decide) (by decide) g2 g3
    rw [if_neg g, if_pos hr] at hK
    obtain ⟨i, _, hi, rfl⟩ := (inRg_nn (by decide) (by decide)).mp hr
    obtain ⟨j, hj, rfl⟩ := nI_of g
    rw [toN_nI hj, toN_nI (by omega)] at hK
    have e0 := nI_eq (a := i) (b := 0) (by omega) (by decide)
    refine ⟨fun g4 => ⟨sh0 H, p, hh.1, shS H hp, _, rS3 H hp, shBk H hp, c_cag H hp hw R hj (fun z => ?_) fun z => ?_⟩, fun g4 => ⟨sh0 H, p, hh.1, shS H hp, _, rS3 H hp, shBk H hp, c_dag H hp hw R hj (fun z => ?_) fun z => ?_⟩⟩
    · rw [if_pos z] at hK; exact hK
    · have : i = 1 := by
        have : ¬ i = 0 := fun y => g4 (e0.mpr y)
        omega
      rw [if_neg (by omega), this, show 16 + 2 * j + 1 = 17 + 2 * j by omega] at hK; exact hK
    · rw [if_pos z] at hK; exact hK
    · rw [if_neg (by omega), e0.mp (Classical.not_not.mp g4)] at hK; exact hK
theorem u_qWhy (H : MI σ) (hc : CD σ V n Hs t Tx) (hw : WF m V) {x w : Int32} (hK : K (qWhy V x w) σ) : cI E 69 [.ref 0, .int x, .int w] σ K := by
  have h1 := hw.1
  unfold W1 at h1
  obtain ⟨p, q, h, hd, hh, hv, ht⟩ := hc
  have hp : isB p := hd.1
  have R := hv.2.2.1
  have e : bS σ p (blk σ p) = σ := bS_blk
  unfold qWhy at hK
  rw [← e] at hK ⊢
  generalize blk σ p = U at R hK ⊢
  have no : ¬ (inBr V x = true ∧ inRg w (nI 0) (nI 1) = true) → K (-1000001 : Int32) (bS σ p U) := fun z => by
    rw [if_neg z] at hK
    exact hK
  refine sg69_0 ⟨sh0 H, p, hh.1, shS H hp, c_isB H hp hw R ⟨fun g => no fun z => bI_3 g z.1, fun g => ⟨fun g2 => no fun z => inRg_lt (by decide) (by decide) g2 z.2, fun g2 => ⟨fun g3 => ⟨sh0 H, p, hh.1, shS H hp, ?_⟩, fun g3 => no fun z => inRg_gt (by decide) (by decide) g3 z.2⟩⟩⟩⟩
  have hr := inRg_mk (by decide) (by decide) g2 g3
  rw [if_pos ⟨bI_1 g, hr⟩] at hK
  obtain ⟨hx, ex⟩ := inBr_n hw (bI_1 g)
  generalize toN x = b at hK hx ex
  subst ex
  have h5 := rsn_lt V b
  have r4 := nI_eq (a := rsn V b) (b := 4) (by omega) (by decide)
  refine c_rsn H hp hw R hx ⟨fun g4 => ?_, fun g4 => ?_⟩
  · rw [if_neg g4] at hK
    refine ⟨fun g5 => ?_, fun g5 => ⟨sh0 H, p, hh.1, shS H hp, c_los H hp hw R (by omega) ?_⟩⟩
    · rw [if_neg (fun z => g5 (r4.mpr z))] at hK
      exact hK
    · have e4 := r4.mp (Classical.not_not.mp g5)
      rw [if_pos e4] at hK
      exact c_lo (Nat.pos_of_ne_zero (rsn_4 e4)) (cutV_lt hw _) hK
  · rw [if_pos (Classical.not_not.mp g4)] at hK
    exact hK
theorem u_best (H : MI σ) (hc : CD σ V n Hs t Tx) (hw : WF m V) (hK : K (bsI (bsV V)) σ) : cI E 70 [.ref 0] σ K := by
  obtain ⟨p, q, h, hd, hh, hv, ht⟩ := hc
  have hp : isB p := hd.1
  have R := hv.2.2.1
  have e : bS σ p (blk σ p) = σ := bS_blk
  rw [← e] at hK ⊢
  generalize blk σ p = U at R hK ⊢
  exact sg70_0 ⟨sh0 H, p, hh.1, shS H hp, c_bs H hp hw R hK⟩
theorem u_qRus (H : MI σ) (hc : CD σ V n Hs t Tx) (hw : WF m V) {x : Int32} (hK : K (qRus V x) σ) : cI E 71 [.ref 0, .int x] σ K := by
  have h1 := hw.1
  unfold W1 at h1
  obtain ⟨p, q, h, hd, hh, hv, ht⟩ := hc
  have hp : isB p := hd.1
  have R := hv.2.2.1
  have e : bS σ p (blk σ p) = σ := bS_blk
  unfold qRus at hK
  rw [← e] at hK ⊢
  generalize blk σ p = U at R hK ⊢
  refine sg71_0 ⟨sh0 H, p, hh.1, shS H hp, c_isB H hp hw R ⟨fun g => ?_, fun g => ?_⟩⟩
  · rw [if_pos (show inBr V x = true from bI_1 g)] at hK
    obtain ⟨hx, ex⟩ := inBr_n hw (bI_1 g)
    generalize toN x = b at hK hx ex
    subst ex
    have rb := R.2.2.2.2 b hx
    have h3 := stOf_lt V b
    have ec := nI_eq (a := stOf V b) (b := 1) (by omega) (by decide)
    have s1 : stOf V b = 1 ↔ pntd V b = true := st1
    have hs := shB H hp (i := b) (by omega)
    refine ⟨sh0 H, p, hh.1, shS H hp, _, rS1 H hp, 14, _, shBA H hp, vi (by omega) (by omega), rBAc H hp (by omega), hs, ?_, ?_⟩
    · rw [gB (by omega), rb.2.2.2.2.2.1]
      intro g2
      rw [if_neg (fun z => g2 (ec.mpr (s1.mpr z)))] at hK
      exact ⟨hs, c_run H hp hw R hx hK⟩
    · rw [gB (by omega), rb.2.2.2.2.2.1]
      intro g2
      rw [if_pos (s1.mp (ec.mp (Classical.not_not.mp g2)))] at hK
      exact hK
  · rw [if_neg (show ¬ inBr V x = true from fun z => ff (by rw [← bI_2 g]; exact z))] at hK
    exact hK
theorem u_cnt (H : MI σ) (hc : CD σ V n Hs t Tx) (hw : WF m V) {x : Int32} (hK : K (qCnt V n t x) σ) : cI E 76 [.ref 0, .int x] σ K := by
  have h1 := hw.1
  unfold W1 at h1
  obtain ⟨p, q, h, hd, hh, hv, ht⟩ := hc
  have hp : isB p := hd.1
  have R := hv.2.2.1
  have e : bS σ p (blk σ p) = σ := bS_blk
  have k3 : gI (bS σ p (blk σ p)) 0 3 = nI n := by rw [e]; exact hv.1
  have k6 : gI (bS σ p (blk σ p)) 60 1 = nI t := by rw [e]; exact ht.1
  unfold qCnt at hK
  rw [← e] at hK ⊢
  generalize blk σ p = U at R hK k3 k6 ⊢
  have rg := R.1
  unfold RG at rg
  have no : ¬ (nI 0 ≤ x ∧ x ≤ nI 27) → K (-1000001 : Int32) (bS σ p U) := fun z => by
    have le : ∀ k : Nat, k ≤ 27 → ¬ x = nI k := fun k hk hx => z (by rw [hx]; exact ⟨nI_le (Nat.zero_le _) (by omega), nI_le hk (by decide)⟩)
    rw [if_neg (le 0 (by decide)), if_neg (le 1 (by decide)), if_neg (le 2 (by decide)), if_neg (le 3 (by decide)), if_neg (le 4 (by decide)), if_neg (le 5 (by decide)), if_neg (le 6 (by decide)), if_neg (le 7 (by decide)), if_neg (le 8 (by decide)), if_neg (le 9 (by decide)), if_neg (le 10 (by decide)), if_neg (le 11 (by decide)), if_neg (le 12 (by decide)), if_neg (le 13 (by decide)), if_neg (le 14 (by decide)), if_neg (le 15 (by decide)), if_neg (le 16 (by decide)), if_neg (le 17 (by decide)), if_neg (le 18 (by decide)), if_neg (le 19 (by decide)), if_neg (fun hr => by
      obtain ⟨k, _, hk, hx⟩ := (inRg_nn (by decide) (by decide)).mp hr
      exact le k hk hx)] at hK
    exact hK
  refine sg76_0 ⟨fun z => no fun y => ?_, fun z0 => ?_⟩
  · obtain ⟨hy, _⟩ := y
    rw [Int32.le_iff_toInt_le] at hy
    rw [Int32.lt_iff_toInt_lt] at z
    omega
  obtain ⟨j, hj, rfl⟩ := nI_of z0
  have lt := fun k hk => nI_ltI (a := j) (b := k) hj hk
  refine ⟨fun z1 => ⟨fun z2 => ?_, fun z2 => ?_⟩, fun z1 => no fun y => ?_⟩
  · have h20 := (lt 20 (by decide)).mp z2
    refine ⟨fun g => ?_, fun g0 => ⟨fun g => ?_, fun g1 => ⟨fun g => ?_, fun g2 => ⟨fun g => ?_, fun g3 => ⟨fun g => ?_, fun g4 => ⟨fun g => ?_, fun g5 => ⟨fun g => ?_, fun g6 => ⟨fun g => ?_, fun g7 => ⟨fun g => ?_, fun g8 => ⟨fun g => ?_, fun g9 => ⟨fun g => ?_, fun g10 => ⟨fun g => ?_, fun g11 => ⟨fun g => ?_, fun g12 => ⟨fun g => ?_, fun g13 => ⟨fun g => ?_, fun g14 => ⟨fun g => ?_, fun g15 => ⟨fun g => ?_, fun g16 => ⟨fun g => ?_, fun g17 => ⟨fun g => ?_, fun g18 => ?_⟩⟩⟩⟩⟩⟩⟩⟩⟩⟩⟩⟩⟩⟩⟩⟩⟩⟩⟩
    · rw [if_pos g] at hK
      refine ⟨sh0 H, p, hh.1, shS H hp, ?_⟩
      rw [bS_get0, rg.2.2.1]; exact hK
    · rw [if_neg g0, if_pos g] at hK
      refine ⟨sh0 H, p, hh.1, shS H hp, ?_⟩
      rw [bS_get0, rg.1]; exact hK
    · rw [if_neg g0, if_neg g1, if_pos g] at hK
      refine ⟨sh0 H, p, hh.1, shS H hp, ?_⟩
      rw [bS_get0, rg.2.1]; exact hK
    · rw [if_neg g0, if_neg g1, if_neg g2, if_pos g] at hK
      exact ⟨sh0 H, p, hh.1, shS H hp, c_rea H hp hw R (by decide) woI_m hK⟩
    · rw [if_neg g0, if_neg g1, if_neg g2, if_neg g3, if_pos g] at hK
      exact ⟨sh0 H, p, hh.1, shS H hp, c_st H hp hw R (by decide) hK⟩
    · rw [if_neg g0, if_neg g1, if_neg g2, if_neg g3, if_neg g4, if_pos g] at hK
      exact ⟨sh0 H, p, hh.1, shS H hp, c_st H hp hw R (by decide) hK⟩
    · rw [if_neg g0, if_neg g1, if_neg g2, if_neg g3, if_neg g4, if_neg g5, if_pos g] at hK
      exact ⟨sh0 H, p, hh.1, shS H hp, c_st H hp hw R (by decide) hK⟩
    · rw [if_neg g0, if_neg g1, if_neg g2, if_neg g3, if_neg g4, if_neg g5, if_neg g6, if_pos g] at hK
      exact ⟨sh0 H, p, hh.1, shS H hp, c_nd H hp hw R hK⟩
    · rw [if_neg g0, if_neg g1, if_neg g2, if_neg g3, if_neg g4, if_neg g5, if_neg g6, if_neg g7, if_pos g] at hK
      exact ⟨sh0 H, p, hh.1, shS H hp, c_gr H hp hw R hK⟩
    · rw [if_neg g0, if_neg g1, if_neg g2, if_neg g3, if_neg g4, if_neg g5, if_neg g6, if_neg g7, if_neg g8, if_pos g] at hK
      exact ⟨sh0 H, p, hh.1, shS H hp, c_lw H hp hw R hK⟩
    · rw [if_neg g0, if_neg g1, if_neg g2, if_neg g3, if_neg g4, if_neg g5, if_neg g6, if_neg g7, if_neg g8, if_neg g9, if_pos g] at hK
      exact ⟨sh0 H, p, hh.1, shS H hp, c_fc H hp hw R hK⟩
    · rw [if_neg g0, if_neg g1, if_neg g2, if_neg g3, if_neg g4, if_neg g5, if_neg g6, if_neg g7, if_neg g8, if_neg g9, if_neg g10, if_pos g] at hK
      exact ⟨sh0 H, p, hh.1, shS H hp, c_sm H hp hw R hK⟩
    · rw [if_neg g0, if_neg g1, if_neg g2, if_neg g3, if_neg g4, if_neg g5, if_neg g6, if_neg g7, if_neg g8, if_neg g9, if_neg g10, if_neg g11, if_pos g] at hK
      exact ⟨sh0 H, p, hh.1, shS H hp, c_mx H hp hw R hK⟩
    · rw [if_neg g0, if_neg g1, if_neg g2, if_neg g3, if_neg g4, if_neg g5, if_neg g6, if_neg g7, if_neg g8, if_neg g9, if_neg g10, if_neg g11, if_neg g12, if_pos g] at hK
      refine ⟨sh0 H, p, hh.1, shS H hp, ?_⟩
      rw [bS_get0, rg.2.2.2.1]; exact hK
    · rw [if_neg g0, if_neg g1, if_neg g2, if_neg g3, if_neg g4, if_neg g5, if_neg g6, if_neg g7, if_neg g8, if_neg g9, if_neg g10, if_neg g11, if_neg g12, if_neg g13, if_pos g] at hK
      refine ⟨sh0 H, p, hh.1, shS H hp, ?_⟩
      rw [bS_get0, rg.2.2.2.2.1]; exact hK
    · rw [if_neg g0, if_neg g1, if_neg g2, if_neg g3, if_neg g4, if_neg g5, if_neg g6, if_neg g7, if_neg g8, if_neg g9, if_neg g10, if_neg g11, if_neg g12, if_neg g13, if_neg g14, if_pos g] at hK
      refine ⟨sh0 H, p, hh.1, shS H hp, ?_⟩
      rw [bS_get0, rg.2.2.2.2.2.1]; exact hK
    · rw [if_neg g0, if_neg g1, if_neg g2, if_neg g3, if_neg g4, if_neg g5, if_neg g6, if_neg g7, if_neg g8, if_neg g9, if_neg g10, if_neg g11, if_neg g12, if_neg g13, if_neg g14, if_neg g15, if_pos g] at hK
      refine ⟨sh0 H, p, hh.1, shS H hp, ?_⟩
      rw [bS_get0, rg.2.2.2.2.2.2]; exact hK
    · rw [if_neg g0, if_neg g1, if_neg g2, if_neg g3, if_neg g4, if_neg g5, if_neg g6, if_neg g7, if_neg g8, if_neg g9, if_neg g10, if_neg g11, if_neg g12, if_neg g13, if_neg g14, if_neg g15, if_neg g16, if_pos g] at hK
      refine ⟨sh0 H, p, hh.1, shS H hp, _, rS3 H hp, shBk H hp, ?_⟩
      rw [bS_get (by decide), R.2.2.1.1]; exact hK
    · rw [if_neg g0, if_neg g1, if_neg g2, if_neg g3, if_neg g4, if_neg g5, if_neg g6, if_neg g7, if_neg g8, if_neg g9, if_neg g10, if_neg g11, if_neg g12, if_neg g13, if_neg g14, if_neg g15, if_neg g16, if_neg g17, if_pos g] at hK
      rw [k3]; exact ⟨sh0 H, hK⟩
    · have e19 : j = 19 := by
        have ne : ∀ k : Nat, k < 2 ^ 31 → ¬ nI j = nI k → j ≠ k := fun k _ hx y => hx (congrArg nI y)
        have := ne 0 (by decide) g0
        have := ne 1 (by decide) g1
        have := ne 2 (by decide) g2
        have := ne 3 (by decide) g3
        have := ne 4 (by decide) g4
        have := ne 5 (by decide) g5
        have := ne 6 (by decide) g6
        have := ne 7 (by decide) g7
        have := ne 8 (by decide) g8
        have := ne 9 (by decide) g9
        have := ne 10 (by decide) g10
        have := ne 11 (by decide) g11
        have := ne 12 (by decide) g12
        have := ne 13 (by decide) g13
        have := ne 14 (by decide) g14
        have := ne 15 (by decide) g15
        have := ne 16 (by decide) g16
        have := ne 17 (by decide) g17
        have := ne 18 (by decide) g18
        omega
      rw [if_neg g0, if_neg g1, if_neg g2, if_neg g3, if_neg g4, if_neg g5, if_neg g6, if_neg g7, if_neg g8, if_neg g9, if_neg g10, if_neg g11, if_neg g12, if_neg g13, if_neg g14, if_neg g15, if_neg g16, if_neg g17, if_neg g18, if_pos (congrArg nI e19)] at hK
      refine ⟨sh0 H, _, r04 H, H.sh rfl, ?_⟩
      rw [k6]; exact hK
  · have h20 : 20 ≤ j := by
      have : ¬ j < 20 := fun y => z2 ((lt 20 (by decide)).mpr y)
      omega
    have h28 := (lt 28 (by decide)).mp z1
    have ne : ∀ k : Nat, k < 20 → ¬ nI j = nI k := fun k hk y => by
      have := (nI_eq hj (by omega)).mp y
      omega
    rw [if_neg (ne 0 (by decide)), if_neg (ne 1 (by decide)), if_neg (ne 2 (by decide)), if_neg (ne 3 (by decide)), if_neg (ne 4 (by decide)), if_neg (ne 5 (by decide)), if_neg (ne 6 (by decide)), if_neg (ne 7 (by decide)), if_neg (ne 8 (by decide)), if_neg (ne 9 (by decide)), if_neg (ne 10 (by decide)), if_neg (ne 11 (by decide)), if_neg (ne 12 (by decide)), if_neg (ne 13 (by decide)), if_neg (ne 14 (by decide)), if_neg (ne 15 (by decide)), if_neg (ne 16 (by decide)), if_neg (ne 17 (by decide)), if_neg (ne 18 (by decide)), if_neg (ne 19 (by decide)), if_pos ((inRg_nn (by decide) (by decide)).mpr ⟨j, h20, by omega, rfl⟩), toN_nI hj] at hK
    rw [show nI j - nI 20 = nI (j - 20) from pk_sub h20]
    refine ⟨sh0 H, p, hh.1, shS H hp, _, rS2 H hp, 8, shSe H hp, vi (by omega) (by decide), ?_⟩
    rw [cl _ (by omega), bS_get (by decide), R.2.1 _ (by omega), show 3 + (j - 20) = j - 17 by omega]
    exact hK
  · have := (nI_leI hj (by decide)).mp y.2
    exact z1 ((lt 28 (by decide)).mpr (by omega))
end COM21
