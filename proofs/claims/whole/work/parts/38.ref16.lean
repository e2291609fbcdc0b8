/-! the reference reads its text -/
section REF16
variable {E : AEnv} {σ τ : ASt} {V : Nat → Nat} {m n t : Nat} {Tx : Nat → Nat} {P T f : Nat → Int32} {Q : Option Value → ASt → Prop} {K : Int32 → ASt → Prop} {KV : ASt → Prop}
/-- the reference's own fields are P, its numbers T -/
def tS (σ : ASt) (P T : Nat → Int32) : ASt := (σ.1, (fun q => if q = 179 then P else if q = 186 then T else σ.2.1 q), σ.2.2)
def nS (σ : ASt) (P T f : Nat → Int32) (V : Nat → Nat) : ASt := mS (s5 (tS σ P T) f) V
theorem n_p {k : Nat} : gI (nS σ P T f V) 179 k = P k := by
  unfold nS
  rw [mS_ne (by decide)]
  rfl
theorem n_t {k : Nat} : gI (nS σ P T f V) 186 k = T k := by
  unfold nS
  rw [mS_ne (by decide)]
  rfl
theorem n_x {k : Nat} : gI (nS σ P T f V) 184 k = gI σ 184 k := by
  unfold nS
  rw [mS_ne (by decide)]
  rfl
theorem n_wp {k : Nat} {x : Int32} : wrI (nS σ P T f V) 179 k x = nS σ (upd P k x) T f V := by
  unfold nS
  rw [mS_wr (by decide)]
  congr 1
  unfold wrI s5 tS
  dsimp only
  congr 2
  funext q
  by_cases hq : q = 179
  · subst hq
    rfl
  · rw [if_neg hq]
    by_cases h5 : q = 185
    · rw [if_pos h5, if_pos h5]
    · rw [if_neg h5, if_neg h5, if_neg hq, if_neg hq]
theorem n_wt {k : Nat} {x : Int32} : wrI (nS σ P T f V) 186 k x = nS σ P (upd T k x) f V := by
  unfold nS
  rw [mS_wr (by decide)]
  congr 1
  unfold wrI s5 tS
  dsimp only
  congr 2
  funext q
  by_cases hq : q = 186
  · subst hq
    rfl
  · rw [if_neg hq]
    by_cases h5 : q = 185
    · rw [if_pos h5, if_pos h5]
    · rw [if_neg h5, if_neg h5]
      by_cases h9 : q = 179
      · rw [if_pos h9, if_pos h9]
      · rw [if_neg h9, if_neg h9, if_neg hq, if_neg hq]
theorem upd_s {P : Nat → Int32} {k : Nat} {x : Int32} : upd P k x k = x := if_pos rfl
theorem upd_n {P : Nat → Int32} {k j : Nat} {x : Int32} (h : j ≠ k) : upd P k x j = P j := if_neg h
def hre (t : Nat) (Tx : Nat → Nat) (sp : Nat) : Nat := if t ≤ sp then 0 else Tx sp
theorem hre_lt (hTx : ∀ j, j < t → Tx j ≤ 126) (sp : Nat) : hre t Tx sp ≤ 126 := by
  unfold hre
  split
  · omega
  · exact hTx sp (by omega)
theorem r_here (H : MI σ) (ht : t ≤ 60) (hx : ∀ j, j < t → gI σ 184 j = nI (Tx j)) {sp : Nat} (hs : sp < 2 ^ 31) (h6 : P 6 = nI t) (h8 : P 8 = nI sp) (hK : K (nI (hre t Tx sp)) (nS σ P T f V)) : cI E 158 [.ref 179] (nS σ P T f V) K := by
  have e := nI_leI (a := t) (b := sp) (by omega) hs
  unfold hre at hK
  refine sg158_0 ⟨shM H, shM H, ?_⟩
  rw [n_p, n_p, h6, h8]
  refine ⟨fun g => ?_, fun g => ⟨shM H, _, rM5 H, shM H, ?_⟩⟩
  · rw [if_pos (e.mp g)] at hK; exact hK
  · have g2 : ¬ t ≤ sp := fun z => g (e.mpr z)
    rw [if_neg g2] at hK
    rw [cl _ hs, n_x, hx sp (by omega)]
    exact ⟨60, sh184 H, vi (by omega) (by decide), hK⟩
/-- the same fields, spot and isForm aside -/
def PR (P P' : Nat → Int32) (sp : Nat) (fm : Bool) : Prop := P' 8 = nI sp ∧ P' 10 = bI fm ∧ ∀ k, k ≠ 8 → k ≠ 10 → P' k = P k
theorem r_tak (H : MI σ) {sp : Nat} {fm may : Bool} (h8 : P 8 = nI sp) (h10 : P 10 = bI fm) (hK : ∀ P', PR P P' (sp + if (fm && may) = true then 1 else 0) (fm && may) → KV (nS σ P' T f V)) : cV E 159 [.ref 179, .int (bI may)] (nS σ P T f V) KV := by
  have fin0 : (fm && may) = false → ∀ s, s = nS σ (upd P 10 (nI 0)) T f V → (sh s 179 6 15 ∧ sh s 179 6 15 ∧ ((gI s 179 10) = (nI 0) → sh s 179 6 15 ∧ nw (wrI s 179 8 ((gI s 179 8) + (nI 0))) (fun s2 => QV KV none s2)) ∧ (¬ (gI s 179 10) = (nI 0) → sh s 179 6 15 ∧ nw (wrI s 179 8 ((gI s 179 8) + (nI 1))) (fun s3 => QV KV none s3))) := by
    intro hf s hs
    subst hs
    refine ⟨shM H, shM H, fun _ => ⟨shM H, ?_⟩, fun z => absurd (by rw [n_p, upd_s]) z⟩
    rw [n_p, upd_n (by decide), h8, nI_add]
    refine nw_e n_wp (hK _ ⟨?_, ?_, fun k h1 h2 => ?_⟩)
    · rw [upd_s, hf]; rfl
    · rw [upd_n (by decide), upd_s, hf]; rfl
    · rw [upd_n h1, upd_n h2]
  refine sg159_0 ⟨shM H, ?_⟩
  rw [n_p, h10]
  refine ⟨fun g => ⟨shM H, fb0, ?_⟩, fun g => ⟨fun g2 => ⟨shM H, fb0, ?_⟩, fun g2 => ⟨shM H, fb1, ?_⟩⟩⟩
  · exact nw_e n_wp (fin0 (by rw [(bI_0 _).mp g]; rfl) _ rfl)
  · exact nw_e n_wp (fin0 (by rw [(bI_0 _).mp g2]; cases fm <;> rfl) _ rfl)
  · refine nw_e n_wp ⟨shM H, shM H, fun z => ?_, fun _ => ⟨shM H, ?_⟩⟩
    · rw [n_p, upd_s] at z
      exact absurd z (by decide)
    · have hf : (fm && may) = true := by rw [bI_1 g, bI_1 g2]; rfl
      rw [n_p, upd_n (by decide), h8, nI_add]
      refine nw_e n_wp (hK _ ⟨?_, ?_, fun k h1 h2 => ?_⟩)
      · rw [upd_s, hf]; rfl
      · rw [upd_n (by decide), upd_s, hf]; rfl
      · rw [upd_n h1, upd_n h2]
/-- digits from a place on: value, how many, the place behind -/
def pN (t : Nat) (Tx : Nat → Nat) : Nat → Nat → Nat → Nat → Nat × Nat × Nat
  | 0, v, c, sp => (v, c, sp)
  | d + 1, v, c, sp => if 48 ≤ hre t Tx sp ∧ hre t Tx sp ≤ 57 then pN t Tx d (10 * v + hre t Tx sp - 48) (c + 1) (sp + 1) else (v, c, sp)
theorem rM12 (H : MI σ) : rf σ 179 12 186 := H.rf (by decide +kernel)
theorem sh186 (H : MI σ) : sh σ 186 10 3 := H.sh rfl
theorem r_nmL (H : MI σ) (ht : t ≤ 60) (hTx : ∀ j, j < t → Tx j ≤ 126) (hx : ∀ j, j < t → gI σ 184 j = nI (Tx j)) {w : Nat} (hw : w < 3) {R : Nat × Nat × Nat} (h6 : P 6 = nI t)
    (hK : ∀ P' T', PR P P' R.2.2 (Nat.blt 0 R.2.1) → T' w = nI R.1 → (∀ j, j ≠ w → T' j = T j) → Q none (nS σ P' T' f V)) :
    ∀ (d v c sp : Nat) (P1 : Nat → Int32), c + d = 3 → sp ≤ 1000 + c → (∀ k, k ≠ 8 → k ≠ 10 → P1 k = P k) → P1 8 = nI sp → P1 10 = nI 1 → pN t Tx d v c sp = R → wp E 160 4 [.ref 179, .int (nI w), .int (nI v), .int (nI c)] [] (nS σ P1 T f V) Q := by
  intro d
  induction d with
  | zero =>
    intro v c sp P1 hc hsp hP h8 h10 hR
    obtain rfl : c = 3 := by omega
    rw [pN] at hR
    subst hR
    refine sg160_4 ⟨shM H, ?_⟩
    rw [n_p, h10]
    refine ⟨fun z => absurd z (by decide), fun _ => ⟨fun _ => ⟨shM H, ?_⟩, fun z => absurd (nI_le (by decide) (by decide)) z⟩⟩
    refine ⟨fun z => absurd z (by decide), fun _ => ⟨fun z => absurd z (by decide), fun _ => ⟨shM H, fb1, nw_e n_wp ⟨shM H, _, rM12 H, 3, sh186 H, vi hw (by decide), ?_⟩⟩⟩⟩
    rw [cl _ (by omega)]
    refine nw_e n_wt (hK _ _ ⟨?_, ?_, fun k h1 h2 => ?_⟩ upd_s fun j hj => upd_n hj)
    · rw [upd_n (by decide)]; exact h8
    · exact upd_s
    · rw [upd_n h2]; exact hP k h1 h2
  | succ d ih =>
    intro v c sp P1 hc hsp hP h8 h10 hR
    have h6' : P1 6 = nI t := (hP 6 (by decide) (by decide)).trans h6
    have hl := hre_lt hTx sp
    have ec := nI_leI (a := c) (b := 0) (by omega) (by decide)
    rw [pN] at hR
    refine sg160_4 ⟨shM H, ?_⟩
    rw [n_p, h10]
    refine ⟨fun z => absurd z (by decide), fun _ => ⟨fun z => absurd z (nI_ge (by omega) (by omega)), fun _ => ⟨shM H, r_here H ht hx (by omega) h6' h8 (r_in ⟨fun g => ⟨shM H, ?_⟩, fun g => ⟨shM H, r_here H ht hx (by omega) h6' h8 ⟨shM H, shM H, ?_⟩⟩⟩)⟩⟩⟩
    · have hno : ¬ (48 ≤ hre t Tx sp ∧ hre t Tx sp ≤ 57) := fun z => bI_3 g ((inRg_nn (by decide) (by decide)).mpr ⟨_, z.1, z.2, rfl⟩)
      rw [if_neg hno] at hR
      subst hR
      rw [n_p, h10]
      refine ⟨fun z => absurd z (by decide), fun _ => ⟨fun z => ⟨shM H, fb0, nw_e n_wp ⟨shM H, _, rM12 H, 3, sh186 H, vi hw (by decide), ?_⟩⟩, fun z => ⟨shM H, fb1, nw_e n_wp ⟨shM H, _, rM12 H, 3, sh186 H, vi hw (by decide), ?_⟩⟩⟩⟩
      · rw [cl _ (by omega)]
        have hc0 : c = 0 := by have := ec.mp z; omega
        refine nw_e n_wt (hK _ _ ⟨?_, ?_, fun k h1 h2 => ?_⟩ upd_s fun j hj => upd_n hj)
        · rw [upd_n (by decide)]; exact h8
        · rw [upd_s]; subst hc0; rfl
        · rw [upd_n h2]; exact hP k h1 h2
      · rw [cl _ (by omega)]
        have hc0 : Nat.blt 0 c = true := by
          simp only [Nat.blt_eq]
          have : ¬ c ≤ 0 := fun y => z (ec.mpr y)
          omega
        refine nw_e n_wt (hK _ _ ⟨?_, ?_, fun k h1 h2 => ?_⟩ upd_s fun j hj => upd_n hj)
        · rw [upd_n (by decide)]; exact h8
        · rw [upd_s]; dsimp only; rw [hc0]; rfl
        · rw [upd_n h2]; exact hP k h1 h2
    · obtain ⟨g1, g2, _⟩ := inRg_n (by decide) (by decide) (bI_1 g)
      rw [toN_nI (by omega)] at g1 g2
      rw [if_pos ⟨g1, g2⟩] at hR
      rw [n_p, h8, nI_add, pk_mul, nI_add, pk_sub (by omega), nI_add]
      exact nw_e n_wp (ih _ _ _ _ (by omega) (by omega) (fun k h1 h2 => by rw [upd_n h1]; exact hP k h1 h2) upd_s (by rw [upd_n (by decide)]; exact h10) hR)
def nmR (t : Nat) (Tx : Nat → Nat) (fm : Bool) (sp : Nat) : Nat × Nat × Nat := if fm = true then pN t Tx 3 0 0 sp else (0, 0, sp)
theorem r_num (H : MI σ) (ht : t ≤ 60) (hTx : ∀ j, j < t → Tx j ≤ 126) (hx : ∀ j, j < t → gI σ 184 j = nI (Tx j)) {w sp : Nat} {fm : Bool} (hw : w < 3) (hs : sp ≤ 1000) (h6 : P 6 = nI t) (h8 : P 8 = nI sp) (h10 : P 10 = bI fm)
    (hK : ∀ P' T', PR P P' (nmR t Tx fm sp).2.2 (fm && Nat.blt 0 (nmR t Tx fm sp).2.1) → T' w = nI (nmR t Tx fm sp).1 → (∀ j, j ≠ w → T' j = T j) → KV (nS σ P' T' f V)) : cV E 160 [.ref 179, .int (nI w)] (nS σ P T f V) KV := by
  refine sg160_0 ?_
  cases fm with
  | true => exact r_nmL (Q := QV KV) H ht hTx hx hw h6 hK 3 0 0 sp P rfl (by omega) (fun _ _ _ => rfl) h8 h10 rfl
  | false =>
    refine sg160_4 ⟨shM H, ?_⟩
    rw [n_p, h10]
    refine ⟨fun _ => ⟨shM H, fun _ => ⟨shM H, fb0, nw_e n_wp ⟨shM H, _, rM12 H, 3, sh186 H, vi hw (by decide), ?_⟩⟩, fun z => absurd rfl z⟩, fun z => absurd rfl z⟩
    rw [cl _ (by omega)]
    refine nw_e n_wt (hK _ _ ⟨?_, ?_, fun k h1 h2 => ?_⟩ upd_s fun j hj => upd_n hj)
    · rw [upd_n (by decide)]; exact h8
    · exact upd_s
    · rw [upd_n h2]
end REF16
