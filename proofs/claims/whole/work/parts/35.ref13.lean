/-! the reference: settings, undo, what would be -/
section REF13
variable {E : AEnv} {σ τ : ASt} {V : Nat → Nat} {m n t : Nat} {Hs : Nat → Nat → Nat} {Tx : Nat → Nat} {Q : Option Value → ASt → Prop} {K : Int32 → ASt → Prop} {KV : ASt → Prop}
def hiS (w : Int32) : Nat := if w = nI 0 then 4 else if w = nI 1 then 100 else if w = nI 2 then 99 else if w = nI 3 then 1 else if w = nI 4 then 30 else if w = nI 5 then 99 else if w = nI 6 then 1 else 99
def loS (w : Int32) : Nat := if w = nI 1 then 1 else 0
theorem hiS_lt (w : Int32) : hiS w ≤ 100 := by
  unfold hiS
  repeat' split
  all_goals omega
theorem m_hi {s : ASt} {w : Int32} (hK : K (nI (hiS w)) s) : cI E 134 [.int w] s K := by
  unfold hiS at hK
  refine sg134_0 ⟨fun g => ?_, fun g0 => ⟨fun g => ?_, fun g1 => ⟨fun g => ?_, fun g2 => ⟨fun g => ?_, fun g3 => ⟨fun g => ?_, fun g4 => ⟨fun g => ?_, fun g5 => ⟨fun g => ?_, fun g6 => ?_⟩⟩⟩⟩⟩⟩⟩
  · rw [if_pos g] at hK; exact hK
  · rw [if_neg g0, if_pos g] at hK; exact hK
  · rw [if_neg g0, if_neg g1, if_pos g] at hK; exact hK
  · rw [if_neg g0, if_neg g1, if_neg g2, if_pos g] at hK; exact hK
  · rw [if_neg g0, if_neg g1, if_neg g2, if_neg g3, if_pos g] at hK; exact hK
  · rw [if_neg g0, if_neg g1, if_neg g2, if_neg g3, if_neg g4, if_pos g] at hK; exact hK
  · rw [if_neg g0, if_neg g1, if_neg g2, if_neg g3, if_neg g4, if_neg g5, if_pos g] at hK; exact hK
  · rw [if_neg g0, if_neg g1, if_neg g2, if_neg g3, if_neg g4, if_neg g5, if_neg g6] at hK; exact hK
def eSet (w v : Int32) : Int32 := if inRg w (nI 0) (nI 7) = true ∧ inRg v (nI (loS w)) (nI (hiS w)) = true then nI 0 else (-1000001 : Int32)
theorem eSet_ok {w v : Int32} (h : nI 0 ≤ eSet w v) : toN w ≤ 7 ∧ w = nI (toN w) ∧ loS w ≤ toN v ∧ toN v ≤ hiS w ∧ v = nI (toN v) := by
  have hh := hiS_lt w
  have hl : loS w ≤ 1 := by unfold loS; split <;> omega
  unfold eSet at h
  split at h
  · rename_i g
    obtain ⟨_, a2, a3⟩ := inRg_n (by decide) (by decide) g.1
    obtain ⟨b1, b2, b3⟩ := inRg_n (by omega) (by omega) g.2
    exact ⟨a2, a3, b1, b2, b3⟩
  · exact absurd h lt01
def dSet (V : Nat → Nat) (w v : Nat) : Nat → Nat := upN V (3 + w) v
theorem WF.set (hw : WF m V) {w v : Int32} (h : nI 0 ≤ eSet w v) : WF m (dSet V (toN w) (toN v)) := by
  obtain ⟨h1, ew, h2, h3, _⟩ := eSet_ok h
  obtain ⟨a1, a2, a3, a4, a5⟩ := hw
  have o : ∀ j, (j < 3 ∨ 11 ≤ j) → dSet V (toN w) (toN v) j = V j := fun j hj => upN_n (by omega)
  refine ⟨?_, ?_, ?_, ?_, ?_⟩
  · unfold W1 at a1 ⊢
    rw [o 1 (by omega), o 2 (by omega), o 15 (by omega)]
    exact a1
  · unfold W2 at a2 ⊢
    unfold dSet
    rw [ew] at h2 h3
    have hc : toN w = 0 ∨ toN w = 1 ∨ toN w = 2 ∨ toN w = 3 ∨ toN w = 4 ∨ toN w = 5 ∨ toN w = 6 ∨ toN w = 7 := by omega
    rcases hc with e | e | e | e | e | e | e | e <;> rw [e] at h2 h3 ⊢
    · have e3 : hiS (nI 0) = 4 := by decide
      simp (disch := omega) only [upN_n, upN_s]; omega
    · have e3 : hiS (nI 1) = 100 := by decide
      have e4 : loS (nI 1) = 1 := by decide
      simp (disch := omega) only [upN_n, upN_s]; omega
    · have e3 : hiS (nI 2) = 99 := by decide
      simp (disch := omega) only [upN_n, upN_s]; omega
    · have e3 : hiS (nI 3) = 1 := by decide
      simp (disch := omega) only [upN_n, upN_s]; omega
    · have e3 : hiS (nI 4) = 30 := by decide
      simp (disch := omega) only [upN_n, upN_s]; omega
    · have e3 : hiS (nI 5) = 99 := by decide
      simp (disch := omega) only [upN_n, upN_s]; omega
    · have e3 : hiS (nI 6) = 1 := by decide
      simp (disch := omega) only [upN_n, upN_s]; omega
    · have e3 : hiS (nI 7) = 99 := by decide
      simp (disch := omega) only [upN_n, upN_s]; omega
  · intro b hb
    rw [o 2 (by omega)] at hb
    rw [o 1 (by omega), o _ (by omega), o _ (by omega), o _ (by omega), o _ (by omega), o _ (by omega)]
    exact a3 b hb
  · intro i hi
    rw [o 1 (by omega)] at hi
    rw [o 0 (by omega), o _ (by omega), o _ (by omega), o _ (by omega)]
    exact a4 i hi
  · unfold W5 at a5 ⊢
    rw [o 0 (by omega), o 11 (by omega)]
    exact a5
theorem m_set (H : MI σ) (hm : MD σ V n Hs t Tx) {w v : Int32} (hK : ∀ τ, FrM σ τ → MD τ (opV (eSet w v) V (dSet V (toN w) (toN v))) (opN (eSet w v) n) (opH (eSet w v) n Hs V) t Tx → K (opA (eSet w v) (V (3 + toN w))) τ) : cI E 135 [.ref 179, .int w, .int v] σ K := by
  have hno : ¬ (inRg w (nI 0) (nI 7) = true ∧ inRg v (nI (loS w)) (nI (hiS w)) = true) → K (-1000001 : Int32) σ := fun h => by
    have e : eSet w v = (-1000001 : Int32) := by unfold eSet; rw [if_neg h]
    have := op_n (e := eSet w v) (by rw [e]; exact lt01) hm hK
    rw [e] at this
    exact this
  have hyes : inRg w (nI 0) (nI 7) = true → inRg v (nI (loS w)) (nI (hiS w)) = true → ∀ τ, FrM σ τ → MD τ V (pushN n) (pushH n Hs V) t Tx → (sh τ 179 6 15 ∧ ∃ r8, rf τ 179 0 r8 ∧ ∃ n9, sh τ r8 10 n9 ∧ vp_in ((nI 3) + w) n9 ∧ sh τ 179 6 15 ∧ ∃ r10, rf τ 179 0 r10 ∧ ∃ n11, sh τ r10 10 n11 ∧ vp_in ((nI 3) + w) n11 ∧ nw (wrI τ r10 (((nI 3) + w)).toNatClampNeg v) (fun s12 => K (gI τ r8 (((nI 3) + w)).toNatClampNeg) s12)) := by
    intro g1 g2 τ hf ht
    have e : eSet w v = nI 0 := by unfold eSet; rw [if_pos ⟨g1, g2⟩]
    have h0 : nI 0 ≤ eSet w v := by rw [e]; decide
    obtain ⟨h1, ew, _, _, ev⟩ := eSet_ok h0
    have hK' := op_y h0 hK
    have Hr : MI τ := hf.mi H
    have et := mS_e ht
    have e3 : nI 3 + w = nI (3 + toN w) := by rw [ew, toN_nI (by omega), nI_add]
    rw [e3, cl _ (by omega)]
    refine ⟨shM Hr, _, rM0 Hr, 184, shV Hr, vi (by omega) (by decide), shM Hr, _, rM0 Hr, 184, shV Hr, vi (by omega) (by decide), ?_⟩
    rw [ht.1 _ (by omega), ev, ← et]
    refine nw_e (mS_put (by omega)) (hK' _ ?_ ht.mm)
    exact hf.tr FrM.mm
  refine sg135_0 (r_in ⟨fun g => hno fun z => bI_3 g z.1, fun g => ⟨fun g1 => m_hi (r_in ⟨fun g2 => ⟨shM H, r_rec H hm fun τ hf ht => ?_⟩, fun g2 => ?_⟩), fun g1 => m_hi (r_in ⟨fun g2 => ⟨shM H, r_rec H hm fun τ hf ht => ?_⟩, fun g2 => ?_⟩)⟩⟩)
  · refine hyes (bI_1 g) ?_ τ hf ht
    unfold loS
    rw [if_neg g1]
    exact bI_1 g2
  · refine hno fun z => ?_
    have := z.2
    unfold loS at this
    rw [if_neg g1, bI_2 g2] at this
    exact absurd this (by decide)
  · refine hyes (bI_1 g) ?_ τ hf ht
    unfold loS
    rw [if_pos (Classical.not_not.mp g1)]
    exact bI_1 g2
  · refine hno fun z => ?_
    have := z.2
    unfold loS at this
    rw [if_pos (Classical.not_not.mp g1), bI_2 g2] at this
    exact absurd this (by decide)
theorem m_und (H : MI σ) (hm : MD σ V n Hs t Tx) (hK0 : n = 0 → K (-1000002 : Int32) σ) (hK : ∀ τ, 0 < n → FrM σ τ → MD τ (Hs (n - 1)) (n - 1) Hs t Tx → K (nI (n - 1)) τ) : cI E 136 [.ref 179] σ K := by
  obtain ⟨h1, h2, h3, h4, h5, h6, h7⟩ := hm
  have e0 := nI_eq (a := n) (b := 0) (by omega) (by decide)
  refine sg136_0 ⟨shM H, fun g => ⟨shM H, shM H, ?_⟩, fun g => ?_⟩
  · rw [h2] at g ⊢
    have hn : 0 < n := by
      have : n ≠ 0 := fun z => g (e0.mpr z)
      omega
    rw [pk_sub (by omega)]
    refine nw_i ⟨shM H, _, rM3 H, shM H, shM H, _, rM0 H, ?_⟩
    rw [wr_s, pk_mul]
    refine r_cp (by decide) (sh183 H) (shV H) (by omega) (by decide) (by decide) (by decide) ⟨shM H, ?_⟩
    have hf : FrM σ (cpN (wrI σ 179 4 (nI (n - 1))) 183 (184 * (n - 1)) 180 0 184) := (FrM.wr (by decide)).tr (FrM.cp (by decide))
    rw [cp_o (by decide), wr_s]
    refine hK _ hn hf ⟨?_, ?_, by omega, ?_, ?_, h6, ?_⟩
    · intro k hk
      have := cp_in (σ := wrI σ 179 4 (nI (n - 1))) (a := 183) (p := 184 * (n - 1)) (c := 180) (q := 0) (n := 184) hk
      rw [Nat.zero_add] at this
      rw [this, wr_c (by decide)]
      exact h4 (n - 1) (by omega) k hk
    · rw [cp_o (by decide), wr_s]
    · intro j hj k hk
      rw [cp_o (by decide), wr_c (by decide)]
      exact h4 j (by omega) k hk
    · rw [cp_o (by decide), wr_k (by decide)]; exact h5
    · intro j hj
      rw [cp_o (by decide), wr_c (by decide)]; exact h7 j hj
  · rw [h2] at g
    exact hK0 (e0.mp (Classical.not_not.mp g))
end REF13
