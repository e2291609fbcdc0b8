/-! the reference: fault and play as called -/
section REF21
variable {E : AEnv} {σ τ : ASt} {V : Nat → Nat} {m n t : Nat} {Hs : Nat → Nat → Nat} {Tx : Nat → Nat} {P P0 T f : Nat → Int32} {Q : Option Value → ASt → Prop} {K : Int32 → ASt → Prop} {KV : ASt → Prop}
/-- all orders tried, the state put back -/
theorem r_try (H : MI σ) (hm : MD σ V n Hs t Tx) (hTx : ∀ j, j < t → Tx j ≤ 126) (hw : WF 9999 V)
    (hK : ∀ τ, FrM σ τ → MD τ V n Hs t Tx → gI τ 179 13 = nI (plL t Tx 60 V 0 0).2.2.1 → ((plL t Tx 60 V 0 0).2.2.1 ≠ 0 → gI τ 179 9 = nI (plL t Tx 60 V 0 0).2.2.2.1 ∧ gI τ 179 14 = (plL t Tx 60 V 0 0).2.2.2.2) → KV τ) :
    cV E 93 [.ref 180, .int (nI 0), .ref 182, .int (nI 0)] σ (fun s5 => sh s5 179 6 15 ∧ cI E 164 [.ref 179] s5 (fun _ s6 => sh s6 179 6 15 ∧ ∃ r8, rf s6 179 2 r8 ∧ sh s6 179 6 15 ∧ ∃ r9, rf s6 179 0 r9 ∧ cV E 93 [.ref r8, .int (nI 0), .ref r9, .int (nI 0)] s6 KV)) := by
  refine r_cp (by decide) (shV H) (sh182 H) (by decide) (by decide) (by decide) (by decide) ?_
  have Hb : MI (bef σ) := bef_f.mi H
  have hb := bef_m hm
  have eb := nS_self hb
  refine ⟨shM Hb, ?_⟩
  have h := r_da (E := E) (σ := bef σ) (P := (bef σ).2.1 179) (T := (bef σ).2.1 186) (f := (bef σ).2.1 185) (K := fun _ s6 => sh s6 179 6 15 ∧ ∃ r8, rf s6 179 2 r8 ∧ sh s6 179 6 15 ∧ ∃ r9, rf s6 179 0 r9 ∧ cV E 93 [.ref r8, .int (nI 0), .ref r9, .int (nI 0)] s6 KV) Hb hb.2.2.2.2.2.1 hTx hb.2.2.2.2.2.2 hb.2.2.2.2.1 hw (fun P' T' f' hp => by
    obtain ⟨p13, pf, po⟩ := hp
    have H2 : MI (nS (bef σ) P' T' f' (plL t Tx 60 V 0 0).2.1) := n_f.mi Hb
    refine ⟨shM H2, _, rM2 H2, shM H2, _, rM0 H2, r_cp (by decide) (sh182 H2) (shV H2) (by decide) (by decide) (by decide) (by decide) (hK _ ((bef_f.tr n_f).tr (FrM.cp (by decide))) (un_m hb (fun k hk => bef_v hm hk) (po 4 (by decide) (by decide) (by decide) (by decide) (by decide) (by decide)) (po 6 (by decide) (by decide) (by decide) (by decide) (by decide) (by decide))) ?_ fun hne => ⟨?_, ?_⟩)⟩
    · rw [cp_o (by decide), n_p]; exact p13
    · rw [cp_o (by decide), n_p]; exact (pf hne).1
    · rw [cp_o (by decide), n_p]; exact (pf hne).2)
  rw [eb] at h
  exact h
theorem plL_fr : ∀ (d : Nat) (V : Nat → Nat) (n sp : Nat), (plL t Tx d V n sp).2.2.1 ≤ 2
  | 0, _, _, _ => Nat.zero_le _
  | d + 1, V, n, sp => by
    rw [plL]
    split
    · exact Nat.zero_le _
    · split
      · split
        · exact plL_fr d _ _ _
        · exact Nat.le_refl _
      · exact Nat.le_succ _
def qFlt (V : Nat → Nat) (t : Nat) (Tx : Nat → Nat) (x : Int32) : Int32 :=
  if inRg x (nI 0) (nI 2) = true then
    if (plL t Tx 60 V 0 0).2.2.1 = 0 then (-1000004 : Int32)
    else if x = nI 0 then nI (plL t Tx 60 V 0 0).2.2.2.1 else if x = nI 1 then nI (plL t Tx 60 V 0 0).2.2.1 else (plL t Tx 60 V 0 0).2.2.2.2
  else (-1000001 : Int32)
theorem m_flt (H : MI σ) (hm : MD σ V n Hs t Tx) (hTx : ∀ j, j < t → Tx j ≤ 126) (hw : WF 9999 V) {x : Int32} (hK : ∀ τ, FrM σ τ → MD τ V n Hs t Tx → K (qFlt V t Tx x) τ) : cI E 165 [.ref 179, .int x] σ K := by
  have hK0 := hK σ (FrM.id σ) hm
  unfold qFlt at hK hK0
  refine sg165_0 (r_in ⟨fun g => ⟨shM H, _, rM0 H, shM H, _, rM2 H, ?_⟩, fun g => ?_⟩)
  · rw [if_pos (bI_1 g)] at hK
    refine r_try H hm hTx hw fun τ hf ht h13 hne => ?_
    have Hr : MI τ := hf.mi H
    have hK1 := hK τ hf ht
    have hle := plL_fr (t := t) (Tx := Tx) 60 V 0 0
    have e0 := nI_eq (a := (plL t Tx 60 V 0 0).2.2.1) (b := 0) (by omega) (by decide)
    refine ⟨shM Hr, ?_⟩
    rw [h13]
    refine ⟨fun g2 => ?_, fun g2 => ?_⟩
    · have hz : (plL t Tx 60 V 0 0).2.2.1 ≠ 0 := fun z => g2 (e0.mpr z)
      rw [if_neg hz] at hK1
      obtain ⟨h9, h14⟩ := hne hz
      refine ⟨fun g3 => ⟨fun g4 => ⟨shM Hr, ?_⟩, fun g4 => ⟨shM Hr, ?_⟩⟩, fun g3 => ⟨shM Hr, ?_⟩⟩
      · rw [if_neg g3, if_neg g4] at hK1
        rw [h14]; exact hK1
      · rw [if_neg g3, if_pos (Classical.not_not.mp g4)] at hK1
        exact hK1
      · rw [if_pos (Classical.not_not.mp g3)] at hK1
        rw [h9]; exact hK1
    · rw [if_pos (e0.mp (Classical.not_not.mp g2))] at hK1
      exact hK1
  · rw [if_neg (by rw [bI_2 g]; decide)] at hK0
    exact hK0
theorem m_ply (H : MI σ) (hm : MD σ V n Hs t Tx) (hTx : ∀ j, j < t → Tx j ≤ 126) (hw : WF 9999 V)
    (hK1 : (plL t Tx 60 V 0 0).2.2.1 = 0 → ∀ τ, FrM σ τ → MD τ (plL t Tx 60 V 0 0).2.1 (pushN n) (pushH n Hs V) t Tx → K (nI (plL t Tx 60 V 0 0).1) τ)
    (hK2 : (plL t Tx 60 V 0 0).2.2.1 ≠ 0 → ∀ τ, FrM σ τ → MD τ V n Hs t Tx → K (-1000002 : Int32) τ) : cI E 166 [.ref 179] σ K := by
  refine sg166_0 ⟨shM H, _, rM0 H, shM H, _, rM2 H, ?_⟩
  refine r_try H hm hTx hw fun τ hf ht h13 hne => ?_
  have Hr : MI τ := hf.mi H
  have hle := plL_fr (t := t) (Tx := Tx) 60 V 0 0
  have e0 := nI_leI (a := (plL t Tx 60 V 0 0).2.2.1) (b := 0) (by omega) (by decide)
  refine ⟨shM Hr, ?_⟩
  rw [h13]
  refine ⟨fun g => ⟨shM Hr, r_rec Hr ht fun ρ hf2 hr => ?_⟩, fun g => ?_⟩
  · have Hp : MI ρ := hf2.mi Hr
    have ep := nS_self hr
    refine ⟨shM Hp, ?_⟩
    have hz : (plL t Tx 60 V 0 0).2.2.1 = 0 := by have := e0.mp g; omega
    have h := r_da (E := E) (σ := ρ) (P := ρ.2.1 179) (T := ρ.2.1 186) (f := ρ.2.1 185) (K := fun x11 s10 => QI K (some (.int x11)) s10) Hp hr.2.2.2.2.2.1 hTx hr.2.2.2.2.2.2 hr.2.2.2.2.1 hw (fun P' T' f' hp => hK1 hz _ ((hf.tr hf2).tr n_f) (n_md hr (hp.2.2 4 (by decide) (by decide) (by decide) (by decide) (by decide) (by decide)) (hp.2.2 6 (by decide) (by decide) (by decide) (by decide) (by decide) (by decide))))
    rw [ep] at h
    exact h
  · have hz : (plL t Tx 60 V 0 0).2.2.1 ≠ 0 := fun z => g (e0.mpr (by omega))
    exact hK2 hz τ hf ht
end REF21
