/-! p27: the law's orders: typed, read, done -/
section RDS
variable {E : AEnv} {σ τ : ASt} {V W : Nat → Nat} {m n t N M : Nat} {Hs : Nat → Nat → Nat} {Tx : Nat → Nat} {Q : Option Value → ASt → Prop} {K : Int32 → ASt → Prop}
/-- what an act leaves: all as it was, or what was there pushed to the history -/
def AR (N : Nat) (V : Nat → Nat) (n : Nat) (Hs : Nat → Nat → Nat) (τ : ASt) : Prop := ∃ V' n' Hs' t' Tx', LJ (N + 24000) τ V' n' Hs' t' Tx' ∧ ((V' = V ∧ n' = n ∧ Hs' = Hs) ∨ (n' = pushN n ∧ Hs' = pushH n Hs V))
theorem LJ.push (L : LJ N σ V n Hs t Tx) (hM : N ≤ M) (hm : MI τ) (hc : CD τ W (pushN n) (pushH n Hs V) t Tx) (hw : WF 9999 W) (hP : PI M W) : LJ M τ W (pushN n) (pushH n Hs V) t Tx := by
  have hn4 := L.n4
  refine ⟨hm, hc, hw, hP, fun j hj => ?_, L.2.2.2.2.2⟩
  have hV : WF 9999 V ∧ PI M V := ⟨L.2.2.1, L.2.2.2.1.mono hM⟩
  have hH : ∀ j, j < n → WF 9999 (Hs j) ∧ PI M (Hs j) := fun j hj => ⟨(L.2.2.2.2.1 j hj).1, (L.2.2.2.2.1 j hj).2.mono hM⟩
  unfold pushN at hj
  unfold pushH
  by_cases h4 : n < 4
  · rw [if_pos h4] at hj ⊢
    by_cases hjn : j = n
    · rw [if_pos hjn]; exact hV
    · rw [if_neg hjn]; exact hH j (by omega)
  · rw [if_neg h4] at hj ⊢
    by_cases hj3 : j = 3
    · rw [if_pos hj3]; exact hV
    · rw [if_neg hj3]; exact hH _ (by omega)
theorem LJ.ar0 (L : LJ N τ V n Hs t Tx) : AR N V n Hs τ := ⟨V, n, Hs, t, Tx, L.mono (by omega), Or.inl ⟨rfl, rfl, rfl⟩⟩
theorem LJ.ar1 (L : LJ M τ W (pushN n) (pushH n Hs V) t Tx) (hM : M ≤ N + 24000) : AR N V n Hs τ := ⟨W, _, _, t, Tx, L.mono hM, Or.inr ⟨rfl, rfl⟩⟩
theorem cnt_18 : qCnt V n t (nI 18) = nI n := rfl
theorem cnt_19 : qCnt V n t (nI 19) = nI t := rfl
theorem nn {α : Type} {a : α} : ¬ a ≠ a := fun z => z rfl
theorem flt_no {k : Nat} (hk : k < 3) (hz : (plL t Tx 60 V 0 0).2.2.1 = 0) : qFlt V t Tx (nI k) = (-1000004 : Int32) := by
  unfold qFlt
  rw [if_pos ((inRg_nn (by decide) (by decide)).mpr ⟨k, Nat.zero_le _, by omega, rfl⟩), if_pos hz]
theorem flt_0 (hz : (plL t Tx 60 V 0 0).2.2.1 ≠ 0) : qFlt V t Tx (nI 0) = nI (plL t Tx 60 V 0 0).2.2.2.1 := by
  unfold qFlt
  rw [if_pos (by decide), if_neg hz, if_pos rfl]
theorem flt_1 (hz : (plL t Tx 60 V 0 0).2.2.1 ≠ 0) : qFlt V t Tx (nI 1) = nI (plL t Tx 60 V 0 0).2.2.1 := by
  unfold qFlt
  rw [if_pos (by decide), if_neg hz, if_neg (by decide), if_pos rfl]
theorem flt_2 (hz : (plL t Tx 60 V 0 0).2.2.1 ≠ 0) : qFlt V t Tx (nI 2) = (plL t Tx 60 V 0 0).2.2.2.2 := by
  unfold qFlt
  rw [if_pos (by decide), if_neg hz, if_neg (by decide), if_neg (by decide)]
theorem isE_4 {e : Int32} (h : isE e) : e ≠ (-1000004 : Int32) := by
  rcases h with rfl | rfl | rfl <;> decide
section R
variable {x at_ rs ca told : Int32} {n0 : Nat}
theorem rd_ok (L : LJ N σ V n Hs t Tx) {h : Nat} (hh : h ≤ 4) (hn : n = pushN h) (hK : Q (some (.int (nI 1))) σ) (ha : at_ < nI 0) :
    wp E 102 155 [.ref 0, .int x, .int (nI n0), .int (nI 1), .int (nI t), .int (nI h), .int at_, .int rs, .int ca, .int (nI n0)] [.int (nI 1)] σ Q := by
  refine sg102_155 ⟨one0, fun _ => ⟨nn, L.sh, j_cnt L ⟨fun h4 => ⟨?_, fN1, hK⟩, fun h4 => ⟨?_, fN1, hK⟩⟩⟩, fun z => absurd ha z⟩
  · rw [nI_leI (by decide) (by omega)] at h4
    rw [cnt_18, hn]
    unfold pushN
    rw [if_neg (by omega)]
    exact nn
  · rw [nI_leI (by decide) (by omega)] at h4
    rw [cnt_18, hn, nI_add]
    unfold pushN
    rw [if_pos (by omega)]
    exact nn
theorem rd_flt (L : LJ N σ V n Hs t Tx) (hK : Q (some (.int (nI 1))) σ) {p r : Nat} (hp : p < t) (hr : (r = 1 ∧ ∃ c, ca = nI c ∧ p + c ≤ t) ∨ (r = 2 ∧ isE ca)) :
    wp E 102 155 [.ref 0, .int x, .int (nI n0), .int (nI 1), .int (nI t), .int (nI n), .int (nI p), .int (nI r), .int ca, .int told] [.int (nI 1)] σ Q := by
  have ht := L.t60
  have fin : ∀ s, s = σ → cI E 76 [.ref 0, .int (nI 18)] s (fun x4 s3 => ¬ x4 ≠ nI n ∧ fN .boolean (nI 1) = true ∧ Q (some (.int (nI 1))) s3) := fun s hs => by
    subst hs
    exact j_cnt L ⟨by rw [cnt_18]; exact nn, fN1, hK⟩
  refine sg102_155 ⟨one0, fun z => absurd z (nI_nlt (Nat.zero_le _) (by omega)), fun _ => ⟨nI_ge hp (by omega), fun h1 => ?_, fun h1 => ?_⟩⟩
  · have h2 : r = 2 ∧ isE ca := by
      rcases hr with ⟨rfl, _⟩ | h
      · exact absurd rfl h1
      · exact h
    obtain ⟨rfl, he⟩ := h2
    refine ⟨nn, fun _ => ⟨L.sh, fin σ rfl⟩, fun g1 => ⟨fun _ => ⟨L.sh, fin σ rfl⟩, fun g2 => ⟨?_, L.sh, fin σ rfl⟩⟩⟩
    rcases he with h | h | h
    · exact absurd h g1
    · exact absurd h g2
    · exact fun z => z h
  · have h2 : ∃ c, ca = nI c ∧ p + c ≤ t := by
      rcases hr with ⟨_, h⟩ | ⟨rfl, _⟩
      · exact h
      · exact absurd (Classical.not_not.mp h1) (by decide)
    obtain ⟨c, rfl, hc⟩ := h2
    refine ⟨nI_nlt (Nat.zero_le _) (by omega), ?_, L.sh, fin σ rfl⟩
    rw [nI_add]
    exact nI_nlt hc (by omega)
end R
theorem nI_nn {a : Nat} (ha : a < 2 ^ 31) : ¬ nI a < nI 0 := nI_nlt (Nat.zero_le _) ha
theorem j_reads (L : LJ N σ V n Hs t Tx) {x : Int32} (hK : ∀ τ, AR N V n Hs τ → K (nI 1) τ) : cI E 102 [.ref 0, .int x] σ K := by
  refine sg102_0 (j_low (by decide) (by decide) (j_types L fun s1 t1 T1 L1 hT => ⟨L1.sh, j_cnt L1 ⟨L1.sh, j_cnt L1 ⟨L1.sh, j_flt L1 fun s2 L2 => ⟨L2.sh, j_flt L2 fun s3 L3 => ⟨L3.sh, j_flt L3 fun s4 L4 => ⟨L4.sh, ?_⟩⟩⟩⟩⟩⟩))
  have ht := L4.t60
  rw [cnt_19, cnt_18]
  refine u_ply L4.1 L4.2.1 L4.2.2.2.2.2 L4.2.2.1 (fun hz τ hf hc => ?_) (fun hz τ hf hc => ?_)
  · have hP := PI.pl (t := t1) (Tx := T1) 60 N V 0 0 L4.2.2.2.1 L4.2.2.1
    have L5 := L4.push (M := N + 24000) (by omega) (hf.mi L4.1) hc (plL_wf 60 V 0 0 L4.2.2.1) hP
    obtain ⟨hc1, hc2⟩ := pl_cnt 60 V 0 0 (Nat.zero_le t1) (by omega) hz
    have hn0 : (plL t1 T1 60 V 0 0).1 = lowV x 6 := by
      rcases hT with h | ⟨j, hj, hd⟩
      · have e0 : cnS T1 0 = 0 := rfl
        omega
      · exact absurd hd (hc2 j (Nat.zero_le _) hj)
    have hl6 := lowV_lt x (k := 6) (by decide)
    rw [flt_no (by decide) hz, flt_no (by decide) hz, flt_no (by decide) hz, hn0]
    have hn4 := L.n4
    refine ⟨one0, L5.sh, j_cnt L5 ⟨?_, fun z => absurd rfl z, fun _ => ⟨fun z => absurd rfl z, fun _ => sg102_95 ⟨nn, fun z => absurd rfl z, fun _ => ⟨fun z => absurd rfl z, fun _ => sg102_122 ⟨nn, fun _ => ⟨fun _ => ⟨nn, ?_⟩, fun z => absurd (by decide) z⟩, fun z => absurd (nI_neg (by decide) (by omega)) z⟩⟩⟩⟩⟩⟩
    · rw [cnt_19]
      exact nn
    · exact rd_ok L5 hn4 rfl (hK τ (L5.ar1 (Nat.le_refl _))) (by decide)
  · have L5 := L4.fr hf hc
    obtain ⟨hp, hr⟩ := pl_flt 60 V 0 0 hz
    rw [flt_0 hz, flt_1 hz, flt_2 hz]
    generalize hR1 : (plL t1 T1 60 V 0 0).2.2.1 = r at *
    generalize hR2 : (plL t1 T1 60 V 0 0).2.2.2.1 = p at *
    generalize hR3 : (plL t1 T1 60 V 0 0).2.2.2.2 = ca at *
    have hr4 : nI r ≠ (-1000004 : Int32) := nI_neg (by decide) (by rcases hr with h | h <;> omega)
    have hp4 : nI p ≠ (-1000004 : Int32) := nI_neg (by decide) (by omega)
    have hc4 : ca ≠ (-1000004 : Int32) := by
      rcases hr with ⟨_, c, rfl, hc⟩ | ⟨_, h⟩
      · exact nI_neg (by decide) (by omega)
      · exact isE_4 h
    refine ⟨one0, L5.sh, j_cnt L5 ⟨?_, fun _ => ⟨fun _ => sg102_95 ⟨nn, fun _ => ⟨fun _ => sg102_122 ⟨nn, fun z => absurd rfl z, fun _ => ⟨fun z => absurd z (nI_nn (by omega)), fun _ => ⟨nn, ?_⟩⟩⟩, fun z => absurd hc4 z⟩, fun z => absurd hp4 z⟩, fun z => absurd hr4 z⟩, fun z => absurd hp4 z⟩⟩
    · rw [cnt_19]
      exact nn
    · exact rd_flt L5 (hK τ L5.ar0) hp hr
end RDS
