/-! the component as a whole: which block is the state, the trial, the history -/
section COM20
variable {E : AEnv} {σ τ : ASt} {A B p q : Nat} {h g : Nat → Nat} {U U' : Nat → Nat → Int32} {V W : Nat → Nat} {m n t : Nat} {Hs : Nat → Nat → Nat} {Tx : Nat → Nat} {Q : Option Value → ASt → Prop} {K : Int32 → ASt → Prop} {KV : ASt → Prop}
theorem bS_blk : bS σ B (blk σ B) = σ := by
  obtain ⟨a, b, c⟩ := σ
  unfold bS blk
  dsimp only
  congr 2
  funext x
  by_cases hr : B ≤ x ∧ x < B + 29
  · rw [if_pos hr, if_pos (by omega), show B + (x - B) = x by omega]
  · rw [if_neg hr]
theorem blk_bS (hp : isB p) (hq : isB q) (hne : p ≠ q) : blk (bS σ q U) p = blk σ p := by
  funext c
  unfold blk
  by_cases hc : c < 29
  · rw [if_pos hc, if_pos hc]
    show (if q ≤ p + c ∧ p + c < q + 29 then U (p + c - q) else σ.2.1 (p + c)) = _
    rw [if_neg (isB_dis hq hp (Ne.symm hne) hc)]
  · rw [if_neg hc, if_neg hc]
theorem Rel.cong (R : Rel U V) (h12 : V 1 ≤ 8 ∧ V 2 ≤ 14) (hU : ∀ c k, c < 29 → U' c k = U c k) : Rel U' V := by
  obtain ⟨r1, r2, r3, r4, r5⟩ := R
  refine ⟨r1.keep (fun k => hU _ _ (by decide)) rfl rfl rfl rfl rfl rfl rfl, fun s hs => ?_, ⟨?_, fun a ha => ?_⟩, fun i hi => (r4 i hi).of fun k _ => hU _ _ (by omega), fun b hb => (r5 b hb).of fun k _ => hU _ _ (by omega)⟩
  · rw [hU _ _ (by decide)]; exact r2 s hs
  · rw [hU _ _ (by decide)]; exact r3.1
  · rw [hU _ _ (by decide), hU _ _ (by decide)]; exact r3.2 a ha
theorem Rel.in (R : Rel U V) (h12 : V 1 ≤ 8 ∧ V 2 ≤ 14) : Rel (blk (bS σ q U) q) V := R.cong h12 fun c k hc => by rw [blk_g hc, bS_get hc]
theorem WF.w12 (hw : WF m V) : V 1 ≤ 8 ∧ V 2 ≤ 14 := by
  have h1 := hw.1
  unfold W1 at h1
  omega
/-- the six blocks -/
def DS (p q : Nat) (h : Nat → Nat) : Prop := isB p ∧ isB q ∧ (∀ j, j < 4 → isB (h j)) ∧ p ≠ q ∧ (∀ j, j < 4 → h j ≠ p ∧ h j ≠ q) ∧ ∀ i j, i < 4 → j < 4 → i ≠ j → h i ≠ h j
def HX (σ : ASt) (p q : Nat) (h : Nat → Nat) : Prop := rf σ 0 0 p ∧ rf σ 0 1 q ∧ ∀ j, j < 4 → rf σ 59 j (h j)
theorem wrR_s {c k r : Nat} : rf (wrR σ c k r) c k r := by
  unfold rf wrR
  dsimp only
  rw [if_pos rfl]
  exact va_up_self _ _ _
theorem wrR_k {c k j r x : Nat} (hj : j ≠ k) (hx : rf σ c j x) : rf (wrR σ c k r) c j x := by
  unfold rf wrR at *
  dsimp only
  rw [if_pos rfl, va_up_ne _ _ hj]
  exact hx
theorem wrR_c {c d k j r x : Nat} (hj : d ≠ c) (hx : rf σ d j x) : rf (wrR σ c k r) d j x := by
  unfold rf wrR at *
  dsimp only
  rw [if_neg hj]
  exact hx
theorem HX.wh (hx : HX σ p q h) {k r : Nat} : HX (wrR σ 59 k r) p q (upN h k r) := ⟨wrR_c (by decide) hx.1, wrR_c (by decide) hx.2.1, fun j hj => by
  by_cases hk : j = k
  · rw [hk, upN_s]; exact wrR_s
  · rw [upN_n hk]; exact wrR_k hk (hx.2.2 j hj)⟩
theorem HX.wo (hx : HX σ p q h) {r : Nat} : HX (wrR σ 0 0 r) r q h := ⟨wrR_s, wrR_k (by decide) hx.2.1, fun j hj => wrR_c (by decide) (hx.2.2 j hj)⟩
theorem HX.wq (hx : HX σ p q h) {r : Nat} : HX (wrR σ 0 1 r) p r h := ⟨wrR_k (by decide) hx.1, wrR_s, fun j hj => wrR_c (by decide) (hx.2.2 j hj)⟩
/-- only what the component may change differs -/
def FrC (σ τ : ASt) : Prop := τ.1 = σ.1 ∧ (∀ c, 179 ≤ c → τ.2.1 c = σ.2.1 c) ∧ ∀ c k, ¬ (c = 0 ∧ k < 2) → c ≠ 59 → τ.2.2 c k = σ.2.2 c k
theorem FrC.id (σ : ASt) : FrC σ σ := ⟨rfl, fun _ _ => rfl, fun _ _ _ _ => rfl⟩
theorem FrC.tr {ρ : ASt} (h1 : FrC σ τ) (h2 : FrC τ ρ) : FrC σ ρ := ⟨h2.1.trans h1.1, fun c hc => (h2.2.1 c hc).trans (h1.2.1 c hc), fun c k a b => (h2.2.2 c k a b).trans (h1.2.2 c k a b)⟩
def rfxL : Bool := RFX.all fun e => !(Nat.beq e.1 0 && Nat.blt e.2.1 2) && !(Nat.beq e.1 59)
theorem rfxL_ok : rfxL = true := by decide +kernel
theorem FrC.mi (hf : FrC σ τ) (H : MI σ) : MI τ := ⟨hf.1.trans H.1, fun e he => by
  have h2 := H.2 e he
  have h3 := List.all_eq_true.mp rfxL_ok e he
  simp only [Bool.and_eq_true, Bool.not_eq_true', Bool.and_eq_false_iff] at h3
  show τ.2.2 e.1 e.2.1 = e.2.2 + 1
  rw [hf.2.2 e.1 e.2.1 (fun z => ?_) (fun z => ?_)]
  · exact h2
  · rcases h3.1 with a | a
    · rw [z.1] at a; exact absurd a (by decide)
    · have : Nat.blt e.2.1 2 = true := Nat.blt_eq.mpr z.2
      rw [this] at a; exact absurd a (by decide)
  · have a := h3.2
    rw [z] at a; exact absurd a (by decide)⟩
theorem FrC.wr {c k : Nat} {x : Int32} (hc : c < 179) : FrC σ (wrI σ c k x) := ⟨rfl, fun d hd => by
  show (if d = c then upd (σ.2.1 c) k x else σ.2.1 d) = _
  rw [if_neg (by omega)], fun _ _ _ _ => rfl⟩
theorem FrC.bs (hB : isB B) : FrC σ (bS σ B U) := ⟨rfl, fun d hd => by
  show (if B ≤ d ∧ d < B + 29 then U (d - B) else σ.2.1 d) = _
  unfold isB at hB
  rw [if_neg (by omega)], fun _ _ _ _ => rfl⟩
theorem FrC.r59 {k r : Nat} : FrC σ (wrR σ 59 k r) := ⟨rfl, fun _ _ => rfl, fun c j _ b => by
  show (if c = 59 then _ else σ.2.2 c) j = _
  rw [if_neg b]⟩
theorem FrC.r0 {k r : Nat} (hk : k < 2) : FrC σ (wrR σ 0 k r) := ⟨rfl, fun _ _ => rfl, fun c j a _ => by
  show (if c = 0 then va_up (σ.2.2 0) k (r + 1) else σ.2.2 c) j = _
  by_cases hc : c = 0
  · rw [if_pos hc, va_up_ne _ _ (by omega), hc]
  · rw [if_neg hc]⟩
/-- what the component holds -/
def CV (σ : ASt) (p : Nat) (h : Nat → Nat) (V : Nat → Nat) (n : Nat) (Hs : Nat → Nat → Nat) : Prop := gI σ 0 3 = nI n ∧ n ≤ 4 ∧ Rel (blk σ p) V ∧ ∀ j, j < n → Rel (blk σ (h j)) (Hs j)
def CT (σ : ASt) (t : Nat) (Tx : Nat → Nat) : Prop := gI σ 60 1 = nI t ∧ t ≤ 60 ∧ ∀ j, j < t → gI σ 61 j = nI (Tx j)
def CX (σ : ASt) (p q : Nat) (h : Nat → Nat) (V : Nat → Nat) (n : Nat) (Hs : Nat → Nat → Nat) (t : Nat) (Tx : Nat → Nat) : Prop := DS p q h ∧ HX σ p q h ∧ CV σ p h V n Hs ∧ CT σ t Tx
def CD (σ : ASt) (V : Nat → Nat) (n : Nat) (Hs : Nat → Nat → Nat) (t : Nat) (Tx : Nat → Nat) : Prop := ∃ p q h, CX σ p q h V n Hs t Tx
theorem sh0 (H : MI σ) : sh σ 0 5 8 := H.sh rfl
theorem sh59 (H : MI σ) : sh σ 59 15 4 := H.sh rfl
theorem r02 (H : MI σ) : rf σ 0 2 59 := H.rf (by decide +kernel)
theorem r04 (H : MI σ) : rf σ 0 4 60 := H.rf (by decide +kernel)
theorem CX.d (hx : CX σ p q h V n Hs t Tx) : CD σ V n Hs t Tx := ⟨p, q, h, hx⟩
/-- the trial is written -/
theorem CX.bs (hx : CX σ p q h V n Hs t Tx) : CX (bS σ q U) p q h V n Hs t Tx := by
  obtain ⟨hd, hh, ⟨v1, v2, v3, v4⟩, t1, t2, t3⟩ := hx
  have hq := hd.2.1
  have nz : ∀ c k, (c = 0 ∨ 59 ≤ c ∧ c < 63) → gI (bS σ q U) c k = gI σ c k := fun c k hc => bS_ne (by unfold isB at hq; omega)
  refine ⟨hd, hh, ⟨?_, v2, ?_, fun j hj => ?_⟩, ?_, t2, fun j hj => ?_⟩
  · rw [nz _ _ (by omega)]; exact v1
  · rw [blk_bS hd.1 hq hd.2.2.2.1]; exact v3
  · rw [blk_bS (hd.2.2.1 j (by omega)) hq (hd.2.2.2.2.1 j (by omega)).2]; exact v4 j hj
  · rw [nz _ _ (by omega)]; exact t1
  · rw [nz _ _ (by omega)]; exact t3 j hj
theorem c_trl (H : MI σ) (hx : CX σ p q h V n Hs t Tx) (hw : WF m V) {KR : Nat → ASt → Prop} (hK : ∀ U', Rel U' V → KR q (bS σ q U')) : cR E 82 [.ref 0] σ KR := by
  obtain ⟨hd, hh, hv, _⟩ := hx
  refine sg82_0 ⟨sh0 H, q, hh.2.1, sh0 H, p, hh.1, shS H hd.2.1, ?_⟩
  have c := c_cpy (E := E) (U := blk σ q) (KV := fun s3 => sh s3 0 5 8 ∧ ∃ r4, rf s3 0 1 r4 ∧ QR KR (some (.ref r4)) s3) H hd.2.1 hd.1 (Ne.symm hd.2.2.2.1) hw hv.2.2.1 fun U' r => ⟨sh0 H, q, hh.2.1, hK U' r⟩
  rw [bS_blk] at c
  exact c
theorem blk_eq {s : ASt} (hs : s.2.1 = σ.2.1) : blk s B = blk σ B := by
  unfold blk
  rw [hs]
theorem blk_wr {c k : Nat} {x : Int32} (hB : isB B) (hc : ¬ (B ≤ c ∧ c < B + 29)) : blk (wrI σ c k x) B = blk σ B := by
  funext d
  unfold blk
  by_cases hd : d < 29
  · rw [if_pos hd, if_pos hd]
    show (if B + d = c then _ else σ.2.1 (B + d)) = _
    rw [if_neg (by omega)]
  · rw [if_neg hd, if_neg hd]
theorem isB_0 (hB : isB B) : ¬ (B ≤ 0 ∧ 0 < B + 29) := by unfold isB at hB; omega
/-- the history has place n < 4 -/
theorem c_stF (H : MI σ) (hx : CX σ p q h V n Hs t Tx) (R : Rel (blk σ q) W) (hn : n < 4) {KV : ASt → Prop} (hK : ∀ τ, FrC σ τ → CD τ W (n + 1) (fun j => if j = n then V else Hs j) t Tx → KV τ) :
    sh σ 0 5 8 ∧ ∃ r1, rf σ 0 2 r1 ∧ sh σ 0 5 8 ∧ ∃ n2 r3, sh σ r1 15 n2 ∧ vp_in (gI σ 0 3) n2 ∧ rf σ r1 ((gI σ 0 3)).toNatClampNeg r3 ∧ sh σ 0 5 8 ∧ ∃ r4, rf σ 0 2 r4 ∧ sh σ 0 5 8 ∧ sh σ 0 5 8 ∧ ∃ r5, rf σ 0 0 r5 ∧ ∃ n6, sh σ r4 15 n6 ∧ vp_in (gI σ 0 3) n6 ∧ sh σ r5 3 11 ∧ nw (wrR σ r4 ((gI σ 0 3)).toNatClampNeg r5) (fun s7 =>
      sh s7 0 5 8 ∧ sh s7 0 5 8 ∧ nw (wrI s7 0 3 ((gI s7 0 3) + (nI 1))) (fun s8 =>
      sh s8 0 5 8 ∧ ∃ r9, rf s8 0 1 r9 ∧ sh s8 0 5 8 ∧ nw (wrR s8 0 0 r9) (fun s10 =>
      sh s10 0 5 8 ∧ nw (wrR s10 0 1 r3) (fun s11 => KV s11)))) := by
  obtain ⟨hd, hh, ⟨v1, v2, v3, v4⟩, ht⟩ := hx
  have H1 : MI (wrR σ 59 n p) := FrC.mi FrC.r59 H
  have H2 : MI (wrI (wrR σ 59 n p) 0 3 (nI (n + 1))) := H1
  have H3 : MI (wrR (wrI (wrR σ 59 n p) 0 3 (nI (n + 1))) 0 0 q) := FrC.mi (FrC.r0 (by decide)) H2
  rw [v1, cl _ (by omega)]
  refine ⟨sh0 H, _, r02 H, sh0 H, 4, h n, sh59 H, vi hn (by decide), hh.2.2 n hn, sh0 H, _, r02 H, sh0 H, sh0 H, p, hh.1, 4, sh59 H, vi hn (by decide), shS H hd.1, nw_i ⟨sh0 H1, sh0 H1, ?_⟩⟩
  rw [show gI (wrR σ 59 n p) 0 3 = nI n from v1, nI_add]
  have h1 : HX (wrR σ 59 n p) p q (upN h n p) := hh.wh
  have h2 : HX (wrI (wrR σ 59 n p) 0 3 (nI (n + 1))) p q (upN h n p) := h1
  refine nw_i ⟨sh0 H2, q, h2.2.1, sh0 H2, nw_i ⟨sh0 H3, nw_i (hK _ ?_ ⟨q, h n, upN h n p, ?_, h2.wo.wq, ⟨?_, by omega, ?_, fun j hj => ?_⟩, ?_, ht.2.1, fun j hj => ?_⟩)⟩⟩
  · exact (FrC.r59.tr (FrC.wr (by decide))).tr ((FrC.r0 (by decide)).tr (FrC.r0 (by decide)))
  · obtain ⟨d1, d2, d3, d4, d5, d6⟩ := hd
    refine ⟨d2, d3 n hn, fun j hj => ?_, Ne.symm (d5 n hn).2, fun j hj => ?_, fun i j hi hj hij => ?_⟩
    · by_cases hjn : j = n
      · rw [hjn, upN_s]; exact d1
      · rw [upN_n hjn]; exact d3 j hj
    · by_cases hjn : j = n
      · rw [hjn, upN_s]; exact ⟨d4, Ne.symm (d5 n hn).1⟩
      · rw [upN_n hjn]; exact ⟨(d5 j hj).2, d6 j n hj hn hjn⟩
    · by_cases hin : i = n
      · rw [hin, upN_s, upN_n (by omega)]; exact Ne.symm (d5 j hj).1
      · by_cases hjn : j = n
        · rw [hjn, upN_s, upN_n hin]; exact (d5 i hi).1
        · rw [upN_n hin, upN_n hjn]; exact d6 i j hi hj hij
  · show gI (wrI (wrR σ 59 n p) 0 3 (nI (n + 1))) 0 3 = _
    exact wr_s
  · rw [blk_eq (s := wrR (wrR (wrI (wrR σ 59 n p) 0 3 (nI (n + 1))) 0 0 q) 0 1 (h n)) (σ := wrI σ 0 3 (nI (n + 1))) rfl, blk_wr hd.2.1 (isB_0 hd.2.1)]
    exact R
  · rw [blk_eq (s := wrR (wrR (wrI (wrR σ 59 n p) 0 3 (nI (n + 1))) 0 0 q) 0 1 (h n)) (σ := wrI σ 0 3 (nI (n + 1))) rfl]
    by_cases hjn : j = n
    · subst hjn
      dsimp only
      rw [upN_s, if_pos rfl, blk_wr hd.1 (isB_0 hd.1)]
      exact v3
    · have hb := hd.2.2.1 j (by omega)
      dsimp only
      rw [upN_n hjn, if_neg hjn, blk_wr hb (isB_0 hb)]
      exact v4 j (by omega)
  · exact (wr_c (σ := σ) (c := 0) (k := 3) (x := nI (n + 1)) (d := 60) (j := 1) (by decide)).trans ht.1
  · exact (wr_c (σ := σ) (c := 0) (k := 3) (x := nI (n + 1)) (d := 61) (j := j) (by decide)).trans (ht.2.2 j hj)
theorem c_drp (H : MI σ) (hx : CX σ p q h V 4 Hs t Tx) (hK : ∀ τ g, FrC σ τ → τ.2.1 = (wrI σ 0 3 (nI 3)).2.1 → CX τ p q g V 3 (fun j => Hs (j + 1)) t Tx → KV τ) : cV E 84 [.ref 0] σ KV := by
  obtain ⟨hd, hh, ⟨v1, v2, v3, v4⟩, ht⟩ := hx
  have H1 : MI (wrR σ 59 0 (h 1)) := FrC.mi FrC.r59 H
  have H2 : MI (wrR (wrR σ 59 0 (h 1)) 59 1 (h 2)) := FrC.mi FrC.r59 H1
  have H3 : MI (wrR (wrR (wrR σ 59 0 (h 1)) 59 1 (h 2)) 59 2 (h 3)) := FrC.mi FrC.r59 H2
  have H4 : MI (wrR (wrR (wrR (wrR σ 59 0 (h 1)) 59 1 (h 2)) 59 2 (h 3)) 59 3 (h 0)) := FrC.mi FrC.r59 H3
  have e1 : nI 1 - nI 1 = nI 0 := pk_sub (by decide)
  have e2 : nI 2 - nI 1 = nI 1 := pk_sub (by decide)
  have e3 : nI 3 - nI 1 = nI 2 := pk_sub (by decide)
  have x1 : HX (wrR σ 59 0 (h 1)) p q (upN h 0 (h 1)) := hh.wh
  have x2 : HX (wrR (wrR σ 59 0 (h 1)) 59 1 (h 2)) p q (upN (upN h 0 (h 1)) 1 (h 2)) := x1.wh
  have x3 : HX (wrR (wrR (wrR σ 59 0 (h 1)) 59 1 (h 2)) 59 2 (h 3)) p q (upN (upN (upN h 0 (h 1)) 1 (h 2)) 2 (h 3)) := x2.wh
  have x4 : HX (wrR (wrR (wrR (wrR σ 59 0 (h 1)) 59 1 (h 2)) 59 2 (h 3)) 59 3 (h 0)) p q (upN (upN (upN (upN h 0 (h 1)) 1 (h 2)) 2 (h 3)) 3 (h 0)) := x3.wh
  have a2 : rf (wrR σ 59 0 (h 1)) 59 2 (h 2) := x1.2.2 2 (by decide)
  have a3 : rf (wrR (wrR σ 59 0 (h 1)) 59 1 (h 2)) 59 3 (h 3) := x2.2.2 3 (by decide)
  refine sg84_0 ⟨sh0 H, _, r02 H, 4, h 0, sh59 H, vi (by decide) (by decide), hh.2.2 0 (by decide), ?_⟩
  refine sg84_9 ⟨fun z => absurd z (by decide), fun _ => ⟨sh0 H, _, r02 H, sh0 H, _, r02 H, 4, h 1, sh59 H, vi (by decide) (by decide), ?_, 4, sh59 H, ?_, shS H (hd.2.2.1 1 (by decide)), ?_⟩⟩
  · rw [cl _ (by decide)]; exact hh.2.2 1 (by decide)
  · rw [e1]; exact vi (by decide) (by decide)
  rw [e1, cl 0 (by decide), nI_add]
  refine nw_i (sg84_9 ⟨fun z => absurd z (by decide), fun _ => ⟨sh0 H1, _, r02 H1, sh0 H1, _, r02 H1, 4, h 2, sh59 H1, vi (by decide) (by decide), ?_, 4, sh59 H1, ?_, shS H1 (hd.2.2.1 2 (by decide)), ?_⟩⟩)
  · rw [cl _ (by decide)]; exact a2
  · rw [e2]; exact vi (by decide) (by decide)
  rw [e2, cl 1 (by decide), nI_add]
  refine nw_i (sg84_9 ⟨fun z => absurd z (by decide), fun _ => ⟨sh0 H2, _, r02 H2, sh0 H2, _, r02 H2, 4, h 3, sh59 H2, vi (by decide) (by decide), ?_, 4, sh59 H2, ?_, shS H2 (hd.2.2.1 3 (by decide)), ?_⟩⟩)
  · rw [cl _ (by decide)]; exact a3
  · rw [e3]; exact vi (by decide) (by decide)
  rw [e3, cl 2 (by decide), nI_add]
  refine nw_i (sg84_9 ⟨fun _ => ⟨sh0 H3, _, r02 H3, 4, sh59 H3, vi (by decide) (by decide), shS H3 (hd.2.2.1 0 (by decide)), nw_i ⟨sh0 H4, nw_i ?_⟩⟩, fun z => absurd (by decide) z⟩)
  refine hK _ (upN (upN (upN (upN h 0 (h 1)) 1 (h 2)) 2 (h 3)) 3 (h 0)) ?_ rfl ⟨?_, x4, ⟨wr_s, by decide, ?_, fun j hj => ?_⟩, (wr_c (by decide)).trans ht.1, ht.2.1, fun j hj => (wr_c (by decide)).trans (ht.2.2 j hj)⟩
  · exact ((FrC.r59.tr FrC.r59).tr (FrC.r59.tr FrC.r59)).tr (FrC.wr (by decide))
  · obtain ⟨d1, d2, d3, d4, d5, d6⟩ := hd
    have cs : ∀ j, j < 4 → ∃ i, i < 4 ∧ i = (if j = 3 then 0 else j + 1) ∧ upN (upN (upN (upN h 0 (h 1)) 1 (h 2)) 2 (h 3)) 3 (h 0) j = h i := fun j hj => by
      have hc : j = 0 ∨ j = 1 ∨ j = 2 ∨ j = 3 := by omega
      rcases hc with rfl | rfl | rfl | rfl
      · exact ⟨1, by decide, rfl, rfl⟩
      · exact ⟨2, by decide, rfl, rfl⟩
      · exact ⟨3, by decide, rfl, rfl⟩
      · exact ⟨0, by decide, rfl, rfl⟩
    refine ⟨d1, d2, fun j hj => ?_, d4, fun j hj => ?_, fun i j hi hj hij => ?_⟩
    · obtain ⟨i, hi, _, e⟩ := cs j hj
      rw [e]; exact d3 i hi
    · obtain ⟨i, hi, _, e⟩ := cs j hj
      rw [e]; exact d5 i hi
    · obtain ⟨i', hi', ei, e⟩ := cs i hi
      obtain ⟨j', hj', ej, e'⟩ := cs j hj
      rw [e, e']
      refine d6 i' j' hi' hj' ?_
      rw [ei, ej]
      repeat' split
      all_goals omega
  · rw [blk_wr hd.1 (isB_0 hd.1)]
    exact v3
  · have e : upN (upN (upN (upN h 0 (h 1)) 1 (h 2)) 2 (h 3)) 3 (h 0) j = h (j + 1) := by
      have hc : j = 0 ∨ j = 1 ∨ j = 2 := by omega
      rcases hc with rfl | rfl | rfl <;> rfl
    have hb := hd.2.2.1 (j + 1) (by omega)
    rw [e, blk_wr hb (isB_0 hb)]
    exact v4 (j + 1) (by omega)
theorem c_sty (H : MI σ) (hx : CX σ p q h V n Hs t Tx) (R : Rel (blk σ q) W) {x : Int32} (h0 : nI 0 ≤ x) (hK : ∀ τ, FrC σ τ → CD τ W (pushN n) (pushH n Hs V) t Tx → K x τ) : cI E 83 [.ref 0, .int x] σ K := by
  have v1 := hx.2.2.1.1
  have v2 := hx.2.2.1.2.1
  have e := nI_ltI (a := n) (b := 4) (by omega) (by decide)
  unfold pushN pushH at hK
  refine sg83_0 ⟨fun _ => ⟨sh0 H, ?_, ?_⟩, fun z => absurd h0 z⟩
  · rw [v1]
    intro z
    have hn := e.mp z
    rw [if_pos hn] at hK
    rw [← v1]
    refine c_stF H hx R hn fun τ hf hc => hK τ hf ?_
    have e2 : (fun j => if n < 4 then (if j = n then V else Hs j) else (if j = 3 then V else Hs (j + 1))) = fun j => if j = n then V else Hs j := by
      funext j
      rw [if_pos hn]
    rw [e2]
    exact hc
  · rw [v1]
    intro z
    have hn : n = 4 := by
      have : ¬ n < 4 := fun y => z (e.mpr y)
      omega
    subst hn
    refine ⟨sh0 H, c_drp H hx fun τ g hf hi hc => ?_⟩
    refine c_stF (W := W) (hf.mi H) hc ?_ (by decide) fun ρ hf2 hc2 => hK ρ (hf.tr hf2) ?_
    · rw [blk_eq hi, blk_wr hx.1.2.1 (isB_0 hx.1.2.1)]
      exact R
    · exact hc2
theorem c_stn {x : Int32} (h0 : ¬ nI 0 ≤ x) (hK : K x σ) : cI E 83 [.ref 0, .int x] σ K := sg83_0 ⟨fun z => absurd z h0, fun _ => hK⟩
end COM20
