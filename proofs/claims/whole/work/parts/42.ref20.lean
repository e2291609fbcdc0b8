/-! the reference: fault and play -/
section REF20
variable {E : AEnv} {σ τ : ASt} {V : Nat → Nat} {m n t : Nat} {Hs : Nat → Nat → Nat} {Tx : Nat → Nat} {P P0 T f : Nat → Int32} {Q : Option Value → ASt → Prop} {K : Int32 → ASt → Prop} {KV : ASt → Prop}
/-- the fields that a reading leaves -/
def PO (P0 P : Nat → Int32) : Prop := ∀ j, j ≠ 8 → j ≠ 9 → j ≠ 10 → j ≠ 11 → j ≠ 13 → j ≠ 14 → P j = P0 j
def PE (P0 P' : Nat → Int32) (R : Nat × (Nat → Nat) × Nat × Nat × Int32) : Prop := P' 13 = nI R.2.2.1 ∧ (R.2.2.1 ≠ 0 → P' 9 = nI R.2.2.2.1 ∧ P' 14 = R.2.2.2.2) ∧ PO P0 P'
theorem r_daL (H : MI σ) (ht : t ≤ 60) (hTx : ∀ j, j < t → Tx j ≤ 126) (hx : ∀ j, j < t → gI σ 184 j = nI (Tx j)) (h6 : P0 6 = nI t) :
    ∀ (d : Nat) (V : Nat → Nat) (n sp : Nat) (P T f : Nat → Int32), t ≤ sp + d → sp ≤ 100 → WF 9999 V → P 8 = nI sp → P 13 = nI 0 → PO P0 P → (∀ P' T' f', PE P0 P' (plL t Tx d V n sp) → Q (some (.int (nI (plL t Tx d V n sp).1))) (nS σ P' T' f' (plL t Tx d V n sp).2.1)) → wp E 164 12 [.ref 179, .int (nI n)] [] (nS σ P T f V) Q := by
  intro d
  induction d with
  | zero =>
    intro V n sp P T f hd hs hw h8 h13 ho hK
    refine sg164_12 ⟨shM H, ?_⟩
    rw [n_p, h13]
    refine ⟨fun z => absurd rfl z, fun _ => ⟨shM H, shM H, ?_⟩⟩
    rw [n_p, n_p, h8, ho 6 (by decide) (by decide) (by decide) (by decide) (by decide) (by decide), h6]
    exact ⟨fun _ => hK P T f ⟨h13, fun z => absurd rfl z, ho⟩, fun z => absurd (nI_le (by omega) (by omega)) z⟩
  | succ d ih =>
    intro V n sp P T f hd hs hw h8 h13 ho hK
    have p6 : P 6 = nI t := (ho 6 (by decide) (by decide) (by decide) (by decide) (by decide) (by decide)).trans h6
    rw [plL] at hK
    refine sg164_12 ⟨shM H, ?_⟩
    rw [n_p, h13]
    refine ⟨fun z => absurd rfl z, fun _ => ⟨shM H, shM H, ?_⟩⟩
    rw [n_p, n_p, h8, p6]
    have e := nI_leI (a := t) (b := sp) (by omega) (by omega)
    refine ⟨fun g => ?_, fun g => ⟨shM H, ?_⟩⟩
    · rw [if_pos (e.mp g)] at hK
      exact hK P T f ⟨h13, fun z => absurd rfl z, ho⟩
    · have g2 : ¬ t ≤ sp := fun z => g (e.mpr z)
      rw [if_neg g2] at hK
      refine r_ord H ht hTx hx (by omega) p6 h8 fun P1 T1 hp => ?_
      obtain ⟨q8, q9, q10, q11, qo, qt⟩ := hp
      have ho1 : PO P0 P1 := fun j a b c d2 e2 f2 => (qo j a b c d2).trans (ho j a b c d2 e2 f2)
      have e10 : gI (nS σ P1 T1 f V) 179 10 = bI (ordF t Tx sp) := n_p.trans q10
      have hl := hre_lt hTx sp
      have hlen := ordP_le (t := t) (Tx := Tx) (sp := sp)
      have hge := ordP_ge (t := t) (Tx := Tx) (sp := sp)
      refine ⟨shM H, ?_⟩
      rw [e10]
      refine ⟨fun g3 => ?_, fun g3 => ⟨shM H, ?_⟩⟩
      · rw [if_neg (bI_3 g3)] at hK
        refine ⟨shM H, fun _ => ⟨shM H, fun _ => ⟨shM H, nw_e n_wp ⟨shM H, fun _ => ⟨shM H, shM H, shM H, ?_⟩, fun z => absurd ?_ z⟩⟩, fun z => absurd g3 z⟩, fun z => absurd g3 z⟩
        · rw [n_p, n_p, upd_n (by decide), upd_n (by decide), q8, q9, pk_sub hge]
          refine nw_e n_wp (sg164_12 ⟨shM H, fun _ => ?_, fun z => absurd ?_ z⟩)
          · refine hK _ _ _ ⟨?_, fun _ => ⟨?_, upd_s⟩, fun j a b c d2 e2 f2 => ?_⟩
            · rw [upd_n (by decide), upd_s]
            · rw [upd_n (by decide), upd_n (by decide)]; exact q9
            · rw [upd_n f2, upd_n e2]; exact ho1 j a b c d2 e2 f2
          · rw [n_p, upd_n (by decide), upd_s]; decide
        · rw [n_p, upd_n (by decide), q10]; exact g3
      · have hF := bI_1 g3
        rw [if_pos hF] at hK
        refine r_eO H hw hl q11 qt ⟨shM H, ?_⟩
        rw [e10]
        refine ⟨fun z => absurd z g3, fun _ => ⟨fun g4 => ⟨shM H, ?_⟩, fun g4 => ⟨shM H, fun z => absurd z g3, fun _ => ⟨shM H, nw_e n_wp ⟨shM H, fun z => ?_, fun _ => ⟨shM H, nw_e n_wp (sg164_12 ⟨shM H, fun _ => ?_, fun z => absurd ?_ z⟩)⟩⟩⟩⟩⟩⟩
        · rw [if_pos g4] at hK
          have hgt := ordP_gt hF
          refine r_dO H hw hl q11 qt g4 fun f2 x => ?_
          rw [nI_add]
          refine ih _ _ (ordP t Tx sp) P1 T1 f2 (by omega) ?_ (hw.ord g4) q8 ?_ ho1 hK
          · omega
          · exact (qo 13 (by decide) (by decide) (by decide) (by decide)).trans h13
        · rw [n_p, upd_n (by decide), q10] at z
          exact absurd z g3
        · rw [if_neg g4] at hK
          refine hK _ _ _ ⟨?_, fun _ => ⟨?_, upd_s⟩, fun j a b c d2 e2 f2 => ?_⟩
          · rw [upd_n (by decide), upd_s]
          · rw [upd_n (by decide), upd_n (by decide)]; exact q9
          · rw [upd_n f2, upd_n e2]; exact ho1 j a b c d2 e2 f2
        · rw [n_p, upd_n (by decide), upd_s]; decide
theorem r_da (H : MI σ) (ht : t ≤ 60) (hTx : ∀ j, j < t → Tx j ≤ 126) (hx : ∀ j, j < t → gI σ 184 j = nI (Tx j)) (h6 : P 6 = nI t) (hw : WF 9999 V) (hK : ∀ P' T' f', PE P P' (plL t Tx 60 V 0 0) → K (nI (plL t Tx 60 V 0 0).1) (nS σ P' T' f' (plL t Tx 60 V 0 0).2.1)) : cI E 164 [.ref 179] (nS σ P T f V) K := by
  refine sg164_0 ⟨shM H, nw_e n_wp ⟨shM H, nw_e n_wp (r_daL (P0 := P) (Q := QI K) H ht hTx hx h6 60 V 0 0 _ T f (by omega) (by decide) hw upd_s ?_ (fun j a b c d e g => ?_) hK)⟩⟩
  · rw [upd_n (by decide), upd_s]
  · rw [upd_n a, upd_n e]
theorem nS_self (h : MD σ V n Hs t Tx) : nS σ (σ.2.1 179) (σ.2.1 186) (σ.2.1 185) V = σ := by
  have e1 : tS σ (σ.2.1 179) (σ.2.1 186) = σ := by
    obtain ⟨a, b, c⟩ := σ
    unfold tS
    dsimp only
    congr 2
    funext q
    by_cases h9 : q = 179
    · rw [if_pos h9, h9]
    · rw [if_neg h9]
      by_cases h8 : q = 186
      · rw [if_pos h8, h8]
      · rw [if_neg h8]
  unfold nS
  rw [e1, s5_self, mS_e h]
theorem n_f : FrM σ (nS σ P T f V) := ⟨rfl, rfl, fun c hc => by
  show (if c = 180 then _ else if c = 185 then f else if c = 179 then P else if c = 186 then T else σ.2.1 c) = _
  rw [if_neg (by omega), if_neg (by omega), if_neg (by omega), if_neg (by omega)]⟩
theorem n_o {c k : Nat} (h0 : c ≠ 180) (h5 : c ≠ 185) (h9 : c ≠ 179) (h6 : c ≠ 186) : gI (nS σ P T f V) c k = gI σ c k := by
  show (if c = 180 then _ else if c = 185 then f else if c = 179 then P else if c = 186 then T else σ.2.1 c) k = _
  rw [if_neg h0, if_neg h5, if_neg h9, if_neg h6]
  rfl
theorem n_md {W : Nat → Nat} (h : MD σ V n Hs t Tx) (h4 : P 4 = gI σ 179 4) (h6 : P 6 = gI σ 179 6) : MD (nS σ P T f W) W n Hs t Tx := by
  obtain ⟨a1, a2, a3, a4, a5, a6, a7⟩ := h
  refine ⟨fun k hk => mS_get hk, ?_, a3, fun j hj k hk => ?_, ?_, a6, fun j hj => ?_⟩
  · rw [n_p, h4]; exact a2
  · rw [n_o (by decide) (by decide) (by decide) (by decide)]; exact a4 j hj k hk
  · rw [n_p, h6]; exact a5
  · rw [n_o (by decide) (by decide) (by decide) (by decide)]; exact a7 j hj
/-- the state before -/
def bef (σ : ASt) : ASt := cpN σ 180 0 182 0 184
theorem bef_f : FrM σ (bef σ) := FrM.cp (by decide)
theorem bef_m (h : MD σ V n Hs t Tx) : MD (bef σ) V n Hs t Tx := by
  obtain ⟨h1, h2, h3, h4, h5, h6, h7⟩ := h
  refine ⟨fun k hk => ?_, ?_, h3, fun j hj k hk => ?_, ?_, h6, fun j hj => ?_⟩
  · unfold bef; rw [cp_o (by decide)]; exact h1 k hk
  · unfold bef; rw [cp_o (by decide)]; exact h2
  · unfold bef; rw [cp_o (by decide)]; exact h4 j hj k hk
  · unfold bef; rw [cp_o (by decide)]; exact h5
  · unfold bef; rw [cp_o (by decide)]; exact h7 j hj
theorem bef_v (h : MD σ V n Hs t Tx) {k : Nat} (hk : k < 184) : gI (bef σ) 182 k = nI (V k) := by
  have e := cp_in (σ := σ) (a := 180) (p := 0) (c := 182) (q := 0) (n := 184) hk
  rw [Nat.zero_add] at e
  unfold bef
  rw [e]
  exact h.1 k hk
theorem un_m {W : Nat → Nat} (h : MD τ V n Hs t Tx) (hv : ∀ k, k < 184 → gI τ 182 k = nI (V k)) (h4 : P 4 = gI τ 179 4) (h6 : P 6 = gI τ 179 6) : MD (cpN (nS τ P T f W) 182 0 180 0 184) V n Hs t Tx := by
  obtain ⟨h1, h2, h3, h4, h5, h6, h7⟩ := n_md (T := T) (f := f) (W := W) h h4 h6
  refine ⟨fun k hk => ?_, ?_, h3, fun j hj k hk => ?_, ?_, h6, fun j hj => ?_⟩
  · have e := cp_in (σ := nS τ P T f W) (a := 182) (p := 0) (c := 180) (q := 0) (n := 184) hk
    rw [Nat.zero_add] at e
    rw [e, n_o (by decide) (by decide) (by decide) (by decide)]
    have := hv k hk
    exact this
  · rw [cp_o (by decide)]; exact h2
  · rw [cp_o (by decide)]; exact h4 j hj k hk
  · rw [cp_o (by decide)]; exact h5
  · rw [cp_o (by decide)]; exact h7 j hj
end REF20
