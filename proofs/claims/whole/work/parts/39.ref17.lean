/-! the reference reads an order -/
section REF17
variable {E : AEnv} {σ τ : ASt} {V : Nat → Nat} {m n t : Nat} {Tx : Nat → Nat} {P T f : Nat → Int32} {Q : Option Value → ASt → Prop} {K : Int32 → ASt → Prop} {KV : ASt → Prop}
def lgl (l : Nat) : Bool := Nat.beq l 105 || Nat.beq l 98 || Nat.beq l 115 || Nat.beq l 102 || Nat.beq l 114 || Nat.beq l 112 || Nat.beq l 100
def cntL (l : Nat) : Nat := if l = 98 then 3 else 1
def stg (t : Nat) (Tx : Nat → Nat) (k : Nat) (s : Bool × Nat × (Nat → Nat)) : Bool × Nat × (Nat → Nat) :=
  ((if k = 0 then s.1 else s.1 && Nat.beq (hre t Tx s.2.1) 44) && Nat.blt 0 (nmR t Tx (if k = 0 then s.1 else s.1 && Nat.beq (hre t Tx s.2.1) 44) (if k = 0 then s.2.1 else s.2.1 + if (s.1 && Nat.beq (hre t Tx s.2.1) 44) = true then 1 else 0)).2.1,
   (nmR t Tx (if k = 0 then s.1 else s.1 && Nat.beq (hre t Tx s.2.1) 44) (if k = 0 then s.2.1 else s.2.1 + if (s.1 && Nat.beq (hre t Tx s.2.1) 44) = true then 1 else 0)).2.2,
   upN s.2.2 k (nmR t Tx (if k = 0 then s.1 else s.1 && Nat.beq (hre t Tx s.2.1) 44) (if k = 0 then s.2.1 else s.2.1 + if (s.1 && Nat.beq (hre t Tx s.2.1) 44) = true then 1 else 0)).1)
def stgs (t : Nat) (Tx : Nat → Nat) (s : Bool × Nat × (Nat → Nat)) : Nat → Bool × Nat × (Nat → Nat)
  | 0 => s
  | k + 1 => stg t Tx k (stgs t Tx s k)
def stg0 (t : Nat) (Tx : Nat → Nat) (sp : Nat) : Bool × Nat × (Nat → Nat) := (lgl (hre t Tx sp), sp + (if lgl (hre t Tx sp) = true then 1 else 0), fun _ => 0)
def stgE (t : Nat) (Tx : Nat → Nat) (sp : Nat) : Bool × Nat × (Nat → Nat) := stgs t Tx (stg0 t Tx sp) (cntL (hre t Tx sp))
def ordF (t : Nat) (Tx : Nat → Nat) (sp : Nat) : Bool := (stgE t Tx sp).1 && Nat.beq (hre t Tx (stgE t Tx sp).2.1) 59
def ordP (t : Nat) (Tx : Nat → Nat) (sp : Nat) : Nat := (stgE t Tx sp).2.1 + (if ordF t Tx sp = true then 1 else 0)
def ordN (t : Nat) (Tx : Nat → Nat) (sp : Nat) : Nat → Nat := (stgE t Tx sp).2.2
theorem pN_le : ∀ (d v c sp : Nat), (pN t Tx d v c sp).2.2 ≤ sp + d
  | 0, _, _, sp => Nat.le_refl _
  | d + 1, v, c, sp => by
    rw [pN]
    have := pN_le d (10 * v + hre t Tx sp - 48) (c + 1) (sp + 1)
    split
    · omega
    · dsimp only; omega
theorem nmR_le {fm : Bool} {sp : Nat} : (nmR t Tx fm sp).2.2 ≤ sp + 3 := by
  unfold nmR
  split
  · exact pN_le 3 0 0 sp
  · dsimp only; omega
theorem stg_le {k : Nat} {s : Bool × Nat × (Nat → Nat)} : (stg t Tx k s).2.1 ≤ s.2.1 + 4 := by
  unfold stg
  dsimp only
  refine Nat.le_trans nmR_le ?_
  repeat' split
  all_goals omega
theorem stgs_le {s : Bool × Nat × (Nat → Nat)} : ∀ k, (stgs t Tx s k).2.1 ≤ s.2.1 + 4 * k
  | 0 => Nat.le_refl _
  | k + 1 => by
    have h1 := stgs_le (s := s) k
    have h2 := stg_le (t := t) (Tx := Tx) (k := k) (s := stgs t Tx s k)
    rw [stgs]
    omega
/-- before stage k -/
def PS (P P' T' : Nat → Int32) (sp l k : Nat) (s : Bool × Nat × (Nat → Nat)) : Prop := P' 8 = nI s.2.1 ∧ P' 9 = nI sp ∧ P' 10 = bI s.1 ∧ P' 11 = nI l ∧ (∀ j, j ≠ 8 → j ≠ 9 → j ≠ 10 → j ≠ 11 → P' j = P j) ∧ ∀ j, j < k → T' j = nI (s.2.2 j)
theorem r_oL (H : MI σ) (ht : t ≤ 60) (hTx : ∀ j, j < t → Tx j ≤ 126) (hx : ∀ j, j < t → gI σ 184 j = nI (Tx j)) {sp : Nat} (hsp : sp < t) (h6 : P 6 = nI t)
    (hK : ∀ P' T', PS P P' T' sp (hre t Tx sp) (cntL (hre t Tx sp)) (ordF t Tx sp, ordP t Tx sp, ordN t Tx sp) → Q none (nS σ P' T' f V)) :
    ∀ (d k : Nat) (P' T' : Nat → Int32), k + d = cntL (hre t Tx sp) → PS P P' T' sp (hre t Tx sp) k (stgs t Tx (stg0 t Tx sp) k) → wp E 161 95 [.ref 179, .int (nI k)] [] (nS σ P' T' f V) Q := by
  have hl := hre_lt hTx sp
  have hl98 := nI_eq (a := hre t Tx sp) (b := 98) (by omega) (by decide)
  have hc3 : cntL (hre t Tx sp) ≤ 3 := by unfold cntL; split <;> omega
  have hs0 : (stg0 t Tx sp).2.1 ≤ sp + 1 := by unfold stg0; dsimp only; split <;> omega
  intro d
  induction d with
  | zero =>
    intro k P' T' hk hP
    obtain rfl : k = cntL (hre t Tx sp) := by omega
    have hle := stgs_le (t := t) (Tx := Tx) (s := stg0 t Tx sp) (cntL (hre t Tx sp))
    obtain ⟨q8, q9, q10, q11, qo, qt⟩ := hP
    have q6 : P' 6 = nI t := (qo 6 (by decide) (by decide) (by decide) (by decide)).trans h6
    have hh := hre_lt hTx (stgE t Tx sp).2.1
    have e59 := nI_eq (a := hre t Tx (stgE t Tx sp).2.1) (b := 59) (by omega) (by decide)
    have fin : (sh (nS σ P' T' f V) 179 6 15 ∧ cI E 158 [.ref 179] (nS σ P' T' f V) (fun x2 s1 => (x2 ≠ nI 59 → sh s1 179 6 15 ∧ cV E 159 [.ref 179, .int (nI 0)] s1 (fun s3 => Q none s3)) ∧ (¬ x2 ≠ nI 59 → sh s1 179 6 15 ∧ cV E 159 [.ref 179, .int (nI 1)] s1 (fun s4 => Q none s4)))) := by
      have put : ∀ may : Bool, Nat.beq (hre t Tx (stgE t Tx sp).2.1) 59 = may → cV E 159 [.ref 179, .int (bI may)] (nS σ P' T' f V) (fun s3 => Q none s3) := fun may hm => by
        refine r_tak H q8 q10 fun P2 hp => hK P2 T' ⟨?_, ?_, ?_, ?_, fun j h1 h2 h3 h4 => ?_, qt⟩
        · rw [hp.1]
          unfold ordP ordF
          rw [hm]
          rfl
        · rw [hp.2.2 9 (by decide) (by decide)]; exact q9
        · rw [hp.2.1]
          unfold ordF
          rw [hm]
          rfl
        · rw [hp.2.2 11 (by decide) (by decide)]; exact q11
        · rw [hp.2.2 j h1 h3]; exact qo j h1 h2 h3 h4
      refine ⟨shM H, r_here H ht hx (by omega) q6 q8 ⟨fun g => ⟨shM H, put false ?_⟩, fun g => ⟨shM H, put true ?_⟩⟩⟩
      · cases hq : Nat.beq (hre t Tx (stgE t Tx sp).2.1) 59 with
        | false => rfl
        | true => exact absurd (e59.mpr (beq_iff'.mp hq)) g
      · exact beq_iff'.mpr (e59.mp (Classical.not_not.mp g))
    refine sg161_95 ⟨shM H, ?_⟩
    rw [n_p, q11]
    refine ⟨fun g => ⟨fun _ => fin, fun z => absurd ?_ z⟩, fun g => ⟨fun _ => fin, fun z => absurd ?_ z⟩⟩
    · have : cntL (hre t Tx sp) = 1 := if_neg (fun z => g (hl98.mpr z))
      rw [this]
      exact nI_le (Nat.le_refl _) (by decide)
    · have : cntL (hre t Tx sp) = 3 := if_pos (hl98.mp (Classical.not_not.mp g))
      rw [this]
      exact nI_le (Nat.le_refl _) (by decide)
  | succ d ih =>
    intro k P' T' hk hP
    have hle := stgs_le (t := t) (Tx := Tx) (s := stg0 t Tx sp) k
    have nx := fun P2 T2 => ih (k + 1) P2 T2 (by omega)
    rw [stgs] at nx
    generalize stgs t Tx (stg0 t Tx sp) k = S at hP nx hle
    obtain ⟨q8, q9, q10, q11, qo, qt⟩ := hP
    have q6 : P' 6 = nI t := (qo 6 (by decide) (by decide) (by decide) (by decide)).trans h6
    have ek := nI_leI (a := k) (b := 0) (by omega) (by decide)
    have hh := hre_lt hTx S.2.1
    have e44 := nI_eq (a := hre t Tx S.2.1) (b := 44) (by omega) (by decide)
    have step : ((nI k ≤ nI 0 → sh (nS σ P' T' f V) 179 6 15 ∧ cV E 160 [.ref 179, .int (nI k)] (nS σ P' T' f V) (fun s5 => wp E 161 95 [.ref 179, .int (nI k + nI 1)] [] s5 Q)) ∧
        (¬ nI k ≤ nI 0 → sh (nS σ P' T' f V) 179 6 15 ∧ cI E 158 [.ref 179] (nS σ P' T' f V) (fun x7 s6 =>
        (x7 ≠ nI 44 → sh s6 179 6 15 ∧ cV E 159 [.ref 179, .int (nI 0)] s6 (fun s8 => sh s8 179 6 15 ∧ cV E 160 [.ref 179, .int (nI k)] s8 (fun s9 => wp E 161 95 [.ref 179, .int (nI k + nI 1)] [] s9 Q))) ∧
        (¬ x7 ≠ nI 44 → sh s6 179 6 15 ∧ cV E 159 [.ref 179, .int (nI 1)] s6 (fun s10 => sh s10 179 6 15 ∧ cV E 160 [.ref 179, .int (nI k)] s10 (fun s11 => wp E 161 95 [.ref 179, .int (nI k + nI 1)] [] s11 Q)))))) := by
      rw [nI_add]
      refine ⟨fun g => ⟨shM H, ?_⟩, fun g => ⟨shM H, r_here H ht hx (by omega) q6 q8 ?_⟩⟩
      · obtain rfl : k = 0 := by have := ek.mp g; omega
        refine r_num H ht hTx hx (by decide) (by omega) q6 q8 q10 fun P2 T2 hp ht1 ht2 => nx P2 T2 ⟨?_, ?_, ?_, ?_, fun j h1 h2 h3 h4 => ?_, fun j hj => ?_⟩
        · rw [hp.1]; rfl
        · rw [hp.2.2 9 (by decide) (by decide)]; exact q9
        · rw [hp.2.1]; rfl
        · rw [hp.2.2 11 (by decide) (by decide)]; exact q11
        · rw [hp.2.2 j h1 h3]; exact qo j h1 h2 h3 h4
        · obtain rfl : j = 0 := by omega
          rw [ht1]; rfl
      · have hk0 : k ≠ 0 := fun z => g (ek.mpr (by omega))
        have put : ∀ may : Bool, Nat.beq (hre t Tx S.2.1) 44 = may → cV E 159 [.ref 179, .int (bI may)] (nS σ P' T' f V) (fun s8 => sh s8 179 6 15 ∧ cV E 160 [.ref 179, .int (nI k)] s8 (fun s9 => wp E 161 95 [.ref 179, .int (nI (k + 1))] [] s9 Q)) := fun may hm => by
          unfold stg at nx
          rw [if_neg hk0, if_neg hk0, hm] at nx
          refine r_tak H q8 q10 fun P1 hp1 => ⟨shM H, ?_⟩
          have p6 : P1 6 = nI t := (hp1.2.2 6 (by decide) (by decide)).trans q6
          refine r_num H ht hTx hx (by omega) (by split <;> omega) p6 hp1.1 hp1.2.1 fun P2 T2 hp ht1 ht2 => nx P2 T2 ⟨?_, ?_, ?_, ?_, fun j h1 h2 h3 h4 => ?_, fun j hj => ?_⟩
          · rw [hp.1]
          · rw [hp.2.2 9 (by decide) (by decide), hp1.2.2 9 (by decide) (by decide)]; exact q9
          · rw [hp.2.1]
          · rw [hp.2.2 11 (by decide) (by decide), hp1.2.2 11 (by decide) (by decide)]; exact q11
          · rw [hp.2.2 j h1 h3, hp1.2.2 j h1 h3]; exact qo j h1 h2 h3 h4
          · dsimp only
            by_cases hjk : j = k
            · rw [hjk, ht1, upN_s]
            · rw [ht2 j hjk, upN_n hjk]; exact qt j (by omega)
        refine ⟨fun g2 => ⟨shM H, put false ?_⟩, fun g2 => ⟨shM H, put true ?_⟩⟩
        · cases hq : Nat.beq (hre t Tx S.2.1) 44 with
          | false => rfl
          | true => exact absurd (e44.mpr (beq_iff'.mp hq)) g2
        · exact beq_iff'.mpr (e44.mp (Classical.not_not.mp g2))
    refine sg161_95 ⟨shM H, ?_⟩
    rw [n_p, q11]
    refine ⟨fun g => ⟨fun z => absurd z ?_, fun _ => step⟩, fun g => ⟨fun z => absurd z ?_, fun _ => step⟩⟩
    · have : cntL (hre t Tx sp) = 1 := if_neg (fun z => g (hl98.mpr z))
      exact nI_ge (by omega) (by omega)
    · have : cntL (hre t Tx sp) = 3 := if_pos (hl98.mp (Classical.not_not.mp g))
      exact nI_ge (by omega) (by omega)
end REF17
