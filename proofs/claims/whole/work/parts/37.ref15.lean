/-! the reference: count, the text's characters -/
section REF15
variable {E : AEnv} {σ τ : ASt} {V : Nat → Nat} {m n t : Nat} {Hs : Nat → Nat → Nat} {Tx : Nat → Nat} {Q : Option Value → ASt → Prop} {K : Int32 → ASt → Prop} {KV : ASt → Prop}
def qCnt (V : Nat → Nat) (n t : Nat) (x : Int32) : Int32 :=
  if x = nI 0 then nI (V 0) else
  if x = nI 1 then nI (V 1) else
  if x = nI 2 then nI (V 2) else
  if x = nI 3 then nI (reachV V 0 99) else
  if x = nI 4 then nI (setN (isSt V 0) (V 2)) else
  if x = nI 5 then nI (setN (isSt V 1) (V 2)) else
  if x = nI 6 then nI (setN (isSt V 2) (V 2)) else
  if x = nI 7 then nI (setN (isNd V) (V 2)) else
  if x = nI 8 then nI (grN V (V 1)) else
  if x = nI 9 then nI (grN V (V 1)) else
  if x = nI 10 then nI (V 3 - pcV V) else
  if x = nI 11 then nI (smN V 2 (V 1)) else
  if x = nI 12 then nI (mxN V 3 (V 1)) else
  if x = nI 13 then nI (V 11) else
  if x = nI 14 then nI (V 12) else
  if x = nI 15 then nI (V 13) else
  if x = nI 16 then nI (V 14) else
  if x = nI 17 then nI (V 15) else
  if x = nI 18 then nI n else
  if x = nI 19 then nI t else
  if inRg x (nI 20) (nI 27) = true then nI (V (toN x - 17)) else (-1000001 : Int32)
theorem m_cnt (H : MI σ) (hm : MD σ V n Hs t Tx) (hw : WF 9999 V) {x : Int32} (hK : K (qCnt V n t x) σ) : cI E 155 [.ref 179, .int x] σ K := by
  have es := mS_e hm
  have h1 := hw.1
  unfold W1 at h1
  have h2 := hw.2.1
  unfold W2 at h2
  have hp := pcV_le hw
  have k4 : gI (mS σ V) 179 4 = nI n := by rw [es]; exact hm.2.1
  have k6 : gI (mS σ V) 179 6 = nI t := by rw [es]; exact hm.2.2.2.2.1
  unfold qCnt at hK
  rw [← es] at hK ⊢
  refine sg155_0 ⟨fun g => ?_, fun g0 => ⟨fun g => ?_, fun g1 => ⟨fun g => ?_, fun g2 => ⟨fun g => ?_, fun g3 => ⟨fun g => ?_, fun g4 => ⟨fun g => ?_, fun g5 => ⟨fun g => ?_, fun g6 => ⟨fun g => ?_, fun g7 => ⟨fun g => ?_, fun g8 => ⟨fun g => ?_, fun g9 => ⟨fun g => ?_, fun g10 => ⟨fun g => ?_, fun g11 => ⟨fun g => ?_, fun g12 => ⟨fun g => ?_, fun g13 => ⟨fun g => ?_, fun g14 => ⟨fun g => ?_, fun g15 => ⟨fun g => ?_, fun g16 => ⟨fun g => ?_, fun g17 => ⟨fun g => ?_, fun g18 => ⟨fun g => ?_, fun g19 => r_in ⟨fun g => ?_, fun g => ⟨shM H, _, rM0 H, 184, shV H, ?_⟩⟩⟩⟩⟩⟩⟩⟩⟩⟩⟩⟩⟩⟩⟩⟩⟩⟩⟩⟩⟩⟩
  · rw [if_pos g] at hK
    rw [g]
    refine ⟨shM H, _, rM0 H, 184, shV H, vi (by decide) (by decide), ?_⟩
    rw [cl _ (by decide), mS_get (by decide)]; exact hK
  · rw [if_neg g0, if_pos g] at hK
    rw [g]
    refine ⟨shM H, _, rM0 H, 184, shV H, vi (by decide) (by decide), ?_⟩
    rw [cl _ (by decide), mS_get (by decide)]; exact hK
  · rw [if_neg g0, if_neg g1, if_pos g] at hK
    rw [g]
    refine ⟨shM H, _, rM0 H, 184, shV H, vi (by decide) (by decide), ?_⟩
    rw [cl _ (by decide), mS_get (by decide)]; exact hK
  · rw [if_neg g0, if_neg g1, if_neg g2, if_pos g] at hK
    exact ⟨shM H, r_reach H hw (by decide) woI_n hK⟩
  · rw [if_neg g0, if_neg g1, if_neg g2, if_neg g3, if_pos g] at hK
    rw [g, pk_sub (by decide)]
    exact ⟨shM H, r_st H hw (by decide) hK⟩
  · rw [if_neg g0, if_neg g1, if_neg g2, if_neg g3, if_neg g4, if_pos g] at hK
    rw [g, pk_sub (by decide)]
    exact ⟨shM H, r_st H hw (by decide) hK⟩
  · rw [if_neg g0, if_neg g1, if_neg g2, if_neg g3, if_neg g4, if_neg g5, if_pos g] at hK
    rw [g, pk_sub (by decide)]
    exact ⟨shM H, r_st H hw (by decide) hK⟩
  · rw [if_neg g0, if_neg g1, if_neg g2, if_neg g3, if_neg g4, if_neg g5, if_neg g6, if_pos g] at hK
    exact ⟨shM H, r_nd H hw hK⟩
  · rw [if_neg g0, if_neg g1, if_neg g2, if_neg g3, if_neg g4, if_neg g5, if_neg g6, if_neg g7, if_pos g] at hK
    exact ⟨shM H, r_gr H hw hK⟩
  · rw [if_neg g0, if_neg g1, if_neg g2, if_neg g3, if_neg g4, if_neg g5, if_neg g6, if_neg g7, if_neg g8, if_pos g] at hK
    exact ⟨shM H, r_gr H hw hK⟩
  · rw [if_neg g0, if_neg g1, if_neg g2, if_neg g3, if_neg g4, if_neg g5, if_neg g6, if_neg g7, if_neg g8, if_neg g9, if_pos g] at hK
    refine ⟨shM H, _, rM0 H, 184, shV H, vi (by decide) (by decide), shM H, r_pc H hw ?_⟩
    rw [mS_get (by decide)]
    have e := nI_leI (a := V 3) (b := pcV V) (by omega) (by omega)
    refine ⟨fun h => ?_, fun h => ⟨shM H, _, rM0 H, 184, shV H, vi (by decide) (by decide), shM H, r_pc H hw ?_⟩⟩
    · rw [show V 3 - pcV V = 0 by have := e.mp h; omega] at hK
      exact hK
    · rw [mS_get (by decide), pk_sub (by have : ¬ V 3 ≤ pcV V := fun z => h (e.mpr z); omega)]
      exact hK
  · rw [if_neg g0, if_neg g1, if_neg g2, if_neg g3, if_neg g4, if_neg g5, if_neg g6, if_neg g7, if_neg g8, if_neg g9, if_neg g10, if_pos g] at hK
    exact ⟨shM H, r_sm H hw (by decide) hK⟩
  · rw [if_neg g0, if_neg g1, if_neg g2, if_neg g3, if_neg g4, if_neg g5, if_neg g6, if_neg g7, if_neg g8, if_neg g9, if_neg g10, if_neg g11, if_pos g] at hK
    exact ⟨shM H, r_mx H hw hK⟩
  · rw [if_neg g0, if_neg g1, if_neg g2, if_neg g3, if_neg g4, if_neg g5, if_neg g6, if_neg g7, if_neg g8, if_neg g9, if_neg g10, if_neg g11, if_neg g12, if_pos g] at hK
    rw [g, nI_add, pk_sub (by decide)]
    refine ⟨shM H, _, rM0 H, 184, shV H, vi (by decide) (by decide), ?_⟩
    rw [cl _ (by decide), mS_get (by decide)]; exact hK
  · rw [if_neg g0, if_neg g1, if_neg g2, if_neg g3, if_neg g4, if_neg g5, if_neg g6, if_neg g7, if_neg g8, if_neg g9, if_neg g10, if_neg g11, if_neg g12, if_neg g13, if_pos g] at hK
    rw [g, nI_add, pk_sub (by decide)]
    refine ⟨shM H, _, rM0 H, 184, shV H, vi (by decide) (by decide), ?_⟩
    rw [cl _ (by decide), mS_get (by decide)]; exact hK
  · rw [if_neg g0, if_neg g1, if_neg g2, if_neg g3, if_neg g4, if_neg g5, if_neg g6, if_neg g7, if_neg g8, if_neg g9, if_neg g10, if_neg g11, if_neg g12, if_neg g13, if_neg g14, if_pos g] at hK
    rw [g, nI_add, pk_sub (by decide)]
    refine ⟨shM H, _, rM0 H, 184, shV H, vi (by decide) (by decide), ?_⟩
    rw [cl _ (by decide), mS_get (by decide)]; exact hK
  · rw [if_neg g0, if_neg g1, if_neg g2, if_neg g3, if_neg g4, if_neg g5, if_neg g6, if_neg g7, if_neg g8, if_neg g9, if_neg g10, if_neg g11, if_neg g12, if_neg g13, if_neg g14, if_neg g15, if_pos g] at hK
    rw [g, nI_add, pk_sub (by decide)]
    refine ⟨shM H, _, rM0 H, 184, shV H, vi (by decide) (by decide), ?_⟩
    rw [cl _ (by decide), mS_get (by decide)]; exact hK
  · rw [if_neg g0, if_neg g1, if_neg g2, if_neg g3, if_neg g4, if_neg g5, if_neg g6, if_neg g7, if_neg g8, if_neg g9, if_neg g10, if_neg g11, if_neg g12, if_neg g13, if_neg g14, if_neg g15, if_neg g16, if_pos g] at hK
    rw [g, nI_add, pk_sub (by decide)]
    refine ⟨shM H, _, rM0 H, 184, shV H, vi (by decide) (by decide), ?_⟩
    rw [cl _ (by decide), mS_get (by decide)]; exact hK
  · rw [if_neg g0, if_neg g1, if_neg g2, if_neg g3, if_neg g4, if_neg g5, if_neg g6, if_neg g7, if_neg g8, if_neg g9, if_neg g10, if_neg g11, if_neg g12, if_neg g13, if_neg g14, if_neg g15, if_neg g16, if_neg g17, if_pos g] at hK
    refine ⟨shM H, ?_⟩
    rw [k4]; exact hK
  · rw [if_neg g0, if_neg g1, if_neg g2, if_neg g3, if_neg g4, if_neg g5, if_neg g6, if_neg g7, if_neg g8, if_neg g9, if_neg g10, if_neg g11, if_neg g12, if_neg g13, if_neg g14, if_neg g15, if_neg g16, if_neg g17, if_neg g18, if_pos g] at hK
    refine ⟨shM H, ?_⟩
    rw [k6]; exact hK
  · rw [if_neg g0, if_neg g1, if_neg g2, if_neg g3, if_neg g4, if_neg g5, if_neg g6, if_neg g7, if_neg g8, if_neg g9, if_neg g10, if_neg g11, if_neg g12, if_neg g13, if_neg g14, if_neg g15, if_neg g16, if_neg g17, if_neg g18, if_neg g19, if_neg (bI_3 g)] at hK
    exact hK
  · rw [if_neg g0, if_neg g1, if_neg g2, if_neg g3, if_neg g4, if_neg g5, if_neg g6, if_neg g7, if_neg g8, if_neg g9, if_neg g10, if_neg g11, if_neg g12, if_neg g13, if_neg g14, if_neg g15, if_neg g16, if_neg g17, if_neg g18, if_neg g19, if_pos (bI_1 g)] at hK
    obtain ⟨x1, x2, ex⟩ := inRg_n (by decide) (by decide) (bI_1 g)
    have e : nI 3 + x - nI 20 = nI (toN x - 17) := by
      have e1 : 3 + toN x - 20 = toN x - 17 := by omega
      rw [ex, nI_add, pk_sub (by omega), e1, toN_nI (by omega)]
    rw [e, cl _ (by omega), mS_get (by omega)]
    exact ⟨vi (by omega) (by decide), hK⟩
def qTyp (t : Nat) (x : Int32) : Int32 := if inRg x (nI 32) (nI 126) = true then (if t = 60 then (-1000003 : Int32) else nI (t + 1)) else (-1000001 : Int32)
def nTyp (t : Nat) (x : Int32) : Nat := if inRg x (nI 32) (nI 126) = true then (if t = 60 then t else t + 1) else t
def fTyp (t : Nat) (Tx : Nat → Nat) (x : Int32) : Nat → Nat := if inRg x (nI 32) (nI 126) = true then (if t = 60 then Tx else upN Tx t (toN x)) else Tx
theorem m_typ (H : MI σ) (hm : MD σ V n Hs t Tx) {x : Int32} (hK : ∀ τ, FrM σ τ → MD τ V n Hs (nTyp t x) (fTyp t Tx x) → K (qTyp t x) τ) : cI E 156 [.ref 179, .int x] σ K := by
  unfold nTyp fTyp qTyp at hK
  have e60 := nI_eq (a := t) (b := 60) (by have := hm.2.2.2.2.2.1; omega) (by decide)
  refine sg156_0 (r_in ⟨fun g => ⟨shM H, fun g2 => ⟨shM H, _, rM5 H, shM H, ?_⟩, fun g2 => ?_⟩, fun g => ?_⟩)
  · rw [if_pos (bI_1 g), if_pos (bI_1 g), if_pos (bI_1 g)] at hK
    obtain ⟨x1, x2, ex⟩ := inRg_n (by decide) (by decide) (bI_1 g)
    obtain ⟨h1, h2, h3, h4, h5, h6, h7⟩ := hm
    rw [h5] at g2 ⊢
    have ht : t ≠ 60 := fun z => g2 (e60.mpr z)
    rw [if_neg ht, if_neg ht, if_neg ht] at hK
    rw [cl _ (by omega)]
    refine ⟨60, sh184 H, vi (by omega) (by decide), nw_i ⟨shM H, shM H, ?_⟩⟩
    rw [wr_c (by decide), h5, nI_add]
    refine nw_i ⟨shM H, ?_⟩
    rw [wr_s]
    refine hK _ ((FrM.wr (by decide)).tr (FrM.wr (by decide))) ⟨fun k hk => ?_, ?_, h3, fun j hj k hk => ?_, ?_, by omega, fun j hj => ?_⟩
    · rw [wr_c (by decide), wr_c (by decide)]; exact h1 k hk
    · rw [wr_k (by decide), wr_c (by decide)]; exact h2
    · rw [wr_c (by decide), wr_c (by decide)]; exact h4 j hj k hk
    · rw [wr_s]
    · rw [wr_c (by decide)]
      by_cases hjt : j = t
      · rw [hjt, wr_s, upN_s]; exact ex
      · rw [wr_k hjt, upN_n hjt]; exact h7 j (by omega)
  · rw [if_pos (bI_1 g), if_pos (bI_1 g), if_pos (bI_1 g)] at hK
    rw [hm.2.2.2.2.1] at g2
    have ht := e60.mp (Classical.not_not.mp g2)
    rw [if_pos ht, if_pos ht, if_pos ht] at hK
    exact hK σ (FrM.id σ) hm
  · have g3 : ¬ inRg x (nI 32) (nI 126) = true := by rw [bI_2 g]; decide
    rw [if_neg g3, if_neg g3, if_neg g3] at hK
    exact hK σ (FrM.id σ) hm
theorem m_clr (H : MI σ) (hm : MD σ V n Hs t Tx) (hK : ∀ τ, FrM σ τ → MD τ V n Hs 0 Tx → K (nI t) τ) : cI E 157 [.ref 179] σ K := by
  obtain ⟨h1, h2, h3, h4, h5, h6, h7⟩ := hm
  refine sg157_0 ⟨shM H, shM H, nw_i ?_⟩
  rw [h5]
  refine hK _ (FrM.wr (by decide)) ⟨fun k hk => ?_, ?_, h3, fun j hj k hk => ?_, ?_, by omega, fun j hj => absurd hj (Nat.not_lt_zero _)⟩
  · rw [wr_c (by decide)]; exact h1 k hk
  · rw [wr_k (by decide)]; exact h2
  · rw [wr_c (by decide)]; exact h4 j hj k hk
  · rw [wr_s]
end REF15
