/-! the reference's day -/
theorem bI_1 {b : Bool} (h : ¬ bI b = nI 0) : b = true := by
  cases b with
  | true => rfl
  | false => exact absurd rfl h
section REF5
variable {E : AEnv} {σ : ASt} {V : Nat → Nat} {m : Nat} {Q : Option Value → ASt → Prop} {K : Int32 → ASt → Prop} {KV : ASt → Prop}
theorem nI_dec {k : Nat} (h : 1 ≤ k) : nI k + (-1 : Int32) = nI (k - 1) := by
  have h1 : k = k - 1 + 1 := by omega
  rw [h1, ← nI_add, Int32.add_assoc, show nI 1 + (-1 : Int32) = 0 from by decide, Int32.add_zero]
  rfl
theorem r_bokL (H : MI σ) (h15 : V 15 ≤ 8) {c : Nat} (hK : Q none (mS σ (dNot V c))) : ∀ d n : Nat, n + d = 14 → wp E 119 3 [.ref 179, .int (nI c), .int (nI (31 - n))] [] (mS σ (shN V n)) Q := by
  intro d
  induction d with
  | zero =>
    intro n hn
    obtain rfl : n = 14 := by omega
    refine sg119_3 ⟨fun _ => ⟨shM H, _, rM0 H, shM H, _, rM0 H, 184, shV H, vi (by decide) (by decide), 184, shV H, vi (by decide) (by decide), ?_⟩, fun h => absurd (nI_le (by decide) (by decide)) h⟩
    rw [mS_get (by decide), shN_o 14 (by decide) (by decide)]
    refine nw_e (mS_put (by decide)) ⟨shM H, _, rM0 H, 184, shV H, vi (by decide) (by decide), ?_⟩
    refine nw_e (mS_put (by decide)) ⟨shM H, _, rM0 H, 184, shV H, vi (by decide) (by decide), shM H, _, rM0 H, 184, shV H, vi (by decide) (by decide), ?_⟩
    rw [mS_get (by decide), nI_add, nI_add]
    simp (disch := omega) only [upN_n, upN_s]
    rw [shN_o 14 (by decide) (by decide)]
    unfold dNot at hK
    refine ⟨fun h => ⟨184, shV H, vi (by decide) (by decide), nw_e (mS_put (by decide)) ?_⟩, fun h => ⟨184, shV H, vi (by decide) (by decide), nw_e (mS_put (by decide)) ?_⟩⟩
    · rw [nI_leI (by decide) (by omega)] at h
      rw [if_pos h] at hK
      exact hK
    · rw [nI_leI (by decide) (by omega)] at h
      rw [if_neg h] at hK
      exact hK
  | succ d ih =>
    intro n hn
    refine sg119_3 ⟨fun h => absurd h (nI_ge (by omega) (by omega)), fun _ => ?_⟩
    rw [pk_sub (by omega), show 31 - n - 2 = 29 - n by omega, cl _ (by omega), cl _ (by omega), nI_dec (by omega)]
    refine ⟨shM H, _, rM0 H, shM H, _, rM0 H, 184, shV H, vi (by omega) (by decide), 184, shV H, vi (by omega) (by decide), ?_⟩
    rw [mS_get (by omega)]
    refine nw_e (mS_put (by omega)) ?_
    rw [show 31 - n - 1 = 31 - (n + 1) by omega]
    exact ih (n + 1) (by omega)
theorem r_bok (H : MI σ) (h15 : V 15 ≤ 8) {c : Nat} (hK : KV (mS σ (dNot V c))) : cV E 119 [.ref 179, .int (nI c)] (mS σ V) KV := sg119_0 (r_bokL H h15 hK 14 0 (by omega))
def s5 (σ : ASt) (f : Nat → Int32) : ASt := (σ.1, (fun q => if q = 185 then f else σ.2.1 q), σ.2.2)
theorem s5_get {f : Nat → Int32} {k : Nat} : gI (mS (s5 σ f) V) 185 k = f k := by
  rw [mS_ne (by decide)]
  show (if 185 = 185 then f else σ.2.1 185) k = f k
  rw [if_pos rfl]
theorem s5_put {f : Nat → Int32} {k : Nat} {x : Int32} : wrI (mS (s5 σ f) V) 185 k x = mS (s5 σ (upd f k x)) V := by
  rw [mS_wr (by decide)]
  congr 1
  unfold wrI s5
  dsimp only
  congr 2
  funext q
  by_cases hq : q = 185
  · rw [if_pos hq, if_pos hq, if_pos rfl]
  · rw [if_neg hq, if_neg hq, if_neg hq]
theorem s5_s5 {f g : Nat → Int32} : s5 (s5 σ f) g = s5 σ g := by
  unfold s5
  dsimp only
  congr 2
  funext q
  by_cases hq : q = 185
  · rw [if_pos hq, if_pos hq]
  · rw [if_neg hq, if_neg hq, if_neg hq]
theorem s5_self : s5 σ (σ.2.1 185) = σ := by
  obtain ⟨a, b, c⟩ := σ
  unfold s5
  dsimp only
  congr 2
  funext q
  by_cases hq : q = 185
  · rw [if_pos hq, hq]
  · rw [if_neg hq]
theorem nar_bI (b : Bool) : vp_nar .boolean (bI b) = bI b := by cases b <;> decide
theorem sh5 (H : MI σ) : sh σ 185 12 14 := H.sh rfl
theorem rM7 (H : MI σ) : rf σ 179 7 185 := H.rf (by decide +kernel)
theorem r_ed1 (H : MI σ) (hw : WF m V) (hK : ∀ f : Nat → Int32, (∀ j, j < V 2 → f j = bI (opn V j)) → wp E 120 31 [.ref 179, .int (nI 0)] [] (mS (s5 σ f) V) Q) :
    ∀ (d k : Nat) (f : Nat → Int32), k + d = V 2 → (∀ j, j < k → f j = bI (opn V j)) → wp E 120 2 [.ref 179, .int (nI k)] [] (mS (s5 σ f) V) Q := by
  have h1 := hw.1
  unfold W1 at h1
  intro d
  induction d with
  | zero =>
    intro k f hk hf
    obtain rfl : k = V 2 := by omega
    refine sg120_2 ⟨shM H, _, rM0 H, 184, shV H, vi (by decide) (by decide), fun _ => hK f hf, fun h => absurd ?_ h⟩
    rw [mS_get (by decide)]
    exact nI_le (Nat.le_refl _) (by omega)
  | succ d ih =>
    intro k f hk hf
    have hb := hw.b (b := k) (by omega)
    refine sg120_2 ⟨shM H, _, rM0 H, 184, shV H, vi (by decide) (by decide), fun h => absurd h ?_, fun _ => ⟨shM H, _, rM7 H, shM H, r_isO (σ := s5 σ f) H (by omega) hb.2.2.1 hb.2.2.2 ⟨14, sh5 H, vi (by omega) (by omega), ?_⟩⟩⟩
    · rw [mS_get (by decide)]
      exact nI_ge (by omega) (by omega)
    · rw [nar_bI, cl _ (by omega), nI_add]
      refine nw_e s5_put (ih (k + 1) _ (by omega) fun j hj => ?_)
      unfold upd
      by_cases hjk : j = k
      · rw [if_pos hjk, hjk]
      · rw [if_neg hjk]; exact hf j (by omega)
theorem r_ed2 (H : MI σ) (hw : WF m V) (hK : wp E 120 62 [.ref 179, .int (nI 0)] [] (mS σ (dPA V (V 2))) Q) :
    ∀ d k : Nat, k + d = V 2 → wp E 120 31 [.ref 179, .int (nI k)] [] (mS σ (dPA V k)) Q := by
  have h1 := hw.1
  unfold W1 at h1
  intro d
  induction d with
  | zero =>
    intro k hk
    obtain rfl : k = V 2 := by omega
    refine sg120_31 ⟨shM H, _, rM0 H, 184, shV H, vi (by decide) (by decide), fun _ => hK, fun h => absurd ?_ h⟩
    rw [mS_get (by decide), dPA_o _ (by decide) (by decide) (by omega)]
    exact nI_le (Nat.le_refl _) (by omega)
  | succ d ih =>
    intro k hk
    have hw2 := hw.pa k (by omega)
    have e2 : dPA V k 2 = V 2 := dPA_o _ (by decide) (by decide) (by omega)
    have hb := hw2.b (b := k) (by omega)
    have nx := ih (k + 1) (by omega)
    rw [dPA] at nx
    refine sg120_31 ⟨shM H, _, rM0 H, 184, shV H, vi (by decide) (by decide), fun h => absurd h ?_, fun _ => ⟨shM H, r_isP H (by omega) hb.2.2.1 ⟨fun h => ?_, fun h => ⟨shM H, r_pnt H hw2 (by omega) ?_⟩⟩⟩⟩
    · rw [mS_get (by decide), e2]
      exact nI_ge (by omega) (by omega)
    · rw [if_neg (by rw [(bI_0 _).mp h]; decide)] at nx
      rw [nI_add]
      exact nx
    · rw [if_pos (bI_1 h)] at nx
      rw [nI_add]
      exact nx
theorem r_ed3 (H : MI σ) {o : Nat → Bool} {f : Nat → Int32} (hf : ∀ j, j < V 2 → f j = bI (o j)) (hw : WF m V) (hK : wp E 120 124 [.ref 179, .int (nI (reachV (dWA o V (V 2)) 0 99)), .int (nI 0), .int (nI 1)] [] (mS (s5 σ f) (dWA o V (V 2))) Q) :
    ∀ d k : Nat, k + d = V 2 → wp E 120 62 [.ref 179, .int (nI k)] [] (mS (s5 σ f) (dWA o V k)) Q := by
  have h1 := hw.1
  unfold W1 at h1
  have H' : MI (s5 σ f) := H
  intro d
  induction d with
  | zero =>
    intro k hk
    obtain rfl : k = V 2 := by omega
    refine sg120_62 ⟨shM H, _, rM0 H, 184, shV H, vi (by decide) (by decide), fun _ => ⟨shM H, r_reach H' (hw.wa o _ (Nat.le_refl _)) (by decide) woI_n hK⟩, fun h => absurd ?_ h⟩
    rw [mS_get (by decide), dWA_o _ (by omega)]
    exact nI_le (Nat.le_refl _) (by omega)
  | succ d ih =>
    intro k hk
    have hw2 := hw.wa o k (by omega)
    have e2 : dWA o V k 2 = V 2 := dWA_o _ (by omega)
    have nx := ih (k + 1) (by omega)
    rw [dWA] at nx
    have fin : ∀ W, WF m W → W = dWA1 o (dWA o V k) k → k < W 2 → (sh (mS (s5 σ f) W) 179 6 15 ∧ cI E 104 [.ref 179, .int (nI k)] (mS (s5 σ f) W) (fun x8 s7 =>
      (x8 = (nI 0) → sh s7 179 6 15 ∧ cV E 99 [.ref 179, .int (nI k), .int (nI 6), .int (nI 1)] s7 (fun s9 => wp E 120 62 [.ref 179, .int (nI k + (nI 1))] [] s9 Q)) ∧
      (¬ x8 = (nI 0) → sh s7 179 6 15 ∧ cV E 99 [.ref 179, .int (nI k), .int (nI 6), .int (nI 0)] s7 (fun s10 => wp E 120 62 [.ref 179, .int (nI k + (nI 1))] [] s10 Q)))) := by
      intro W hW eW hkW
      have hb := hW.b hkW
      rw [← eW] at nx
      refine ⟨shM H, r_isO H' (by omega) hb.2.2.1 hb.2.2.2 ⟨fun h => ⟨shM H, r_adds H' (by omega) (by decide) ?_⟩, fun h => ⟨shM H, r_adds H' (by omega) (by decide) ?_⟩⟩⟩
      · rw [if_neg (by rw [(bI_0 _).mp h]; decide)] at nx
        rw [nI_add]
        exact nx
      · rw [if_pos (bI_1 h)] at nx
        rw [nI_add]
        exact nx
    refine sg120_62 ⟨shM H, _, rM0 H, 184, shV H, vi (by decide) (by decide), fun h => absurd h ?_, fun _ => ⟨shM H, _, rM7 H, 14, sh5 H, vi (by omega) (by omega), fun h => ?_, fun h => ⟨shM H, r_wea H' hw2 (by omega) ?_⟩⟩⟩
    · rw [mS_get (by decide), e2]
      exact nI_ge (by omega) (by omega)
    · rw [cl _ (by omega), s5_get, hf k (by omega)] at h
      refine fin _ hw2 ?_ (by omega)
      unfold dWA1
      rw [if_neg (by rw [(bI_0 _).mp h]; decide)]
    · rw [cl _ (by omega), s5_get, hf k (by omega)] at h
      refine fin _ (hw2.wea (by omega)) ?_ (by rw [dWea_o (by omega)]; omega)
      unfold dWA1
      rw [if_pos (bI_1 h)]
/-- the crews that go by themselves -/
def aut : Nat → (Nat → Nat) → (Nat → Nat)
  | 0, W => W
  | n + 1, W => if bsV W = 99 then W else aut n (dSnd W (bsV W))
theorem bsN_ok (V : Nat → Nat) : ∀ n, bsN V n ≠ 99 → rsn V (bsN V n) = 0
  | 0, h => absurd rfl h
  | n + 1, h => by
    rw [bsN] at h ⊢
    split
    · rename_i h2
      exact h2.2.1
    · rename_i h2
      rw [if_neg h2] at h
      exact bsN_ok V n h
theorem bs_free {W : Nat → Nat} (h : bsV W ≠ 99) : pcV W < W 3 := by
  have h1 := bsN_ok W _ h
  unfold rsn at h1
  split at h1
  · omega
  · split at h1
    · omega
    · split at h1
      · omega
      · omega
theorem bs_crew {W : Nat → Nat} (hW : WF m W) (h : bsV W ≠ 99) : W (72 + 8 * bsV W + 4) = 0 := by
  have h1 := bsN_ok W _ h
  have hl : bsV W = 99 ∨ bsV W < W 2 := bsN_lt W (W 2)
  have hb := hW.2.2.1 (bsV W) (by omega)
  unfold rsn at h1
  split at h1
  · omega
  · rename_i h2
    have h3 : W (72 + 8 * bsV W + 4) ≠ 1 := fun z => h2 (beq_iff'.mpr z)
    omega
theorem pcN_snd {W : Nat → Nat} {b : Nat} (h : W (72 + 8 * b + 4) = 0) : ∀ n, pcN (dSnd W b) n = pcN W n + (if b < n then 1 else 0)
  | 0 => rfl
  | n + 1 => by
    rw [pcN, pcN, pcN_snd h n]
    by_cases hb : n = b
    · subst hb
      have e : dSnd W n (72 + 8 * n + 4) = 1 := by unfold dSnd; simp (disch := omega) only [upN_n, upN_s]
      rw [e, h, if_neg (by omega), if_pos (by omega)]
    · rw [dSnd_o (by omega)]
      by_cases hb2 : b < n
      · rw [if_pos hb2, if_pos (by omega)]; omega
      · rw [if_neg hb2, if_neg (by omega)]; omega
theorem pc_snd {W : Nat → Nat} (hW : WF m W) {b : Nat} (hb : b < W 2) (h : W (72 + 8 * b + 4) = 0) : pcV (dSnd W b) = pcV W + 1 := by
  unfold pcV
  rw [dSnd_o (by omega), pcN_snd h, if_pos hb]
theorem r_ed5 (H : MI σ) {a1 c : Int32} : ∀ (n : Nat) (W : Nat → Nat), WF m W → W 3 ≤ pcV W + n → Q (some (.int c)) (mS σ (aut n W)) → wp E 120 236 [.ref 179, .int a1, .int c, .int (bsI (bsV W))] [] (mS σ W) Q := by
  intro n
  induction n with
  | zero =>
    intro W hW hn hQ
    have hr := hW.1
    unfold W1 at hr
    have hl := bsN_lt W (W 2)
    have e : bsV W = 99 := Classical.byContradiction fun h => by
      have := bs_free h
      omega
    refine sg120_236 ⟨fun _ => hQ, fun h => absurd ((bsI_neg (Or.inl e)).mpr e) h⟩
  | succ n ih =>
    intro W hW hn hQ
    have hr := hW.1
    unfold W1 at hr
    have hl : bsV W = 99 ∨ bsV W < W 2 := bsN_lt W (W 2)
    have h99 := bsI_neg (b := bsV W) (by omega)
    rw [aut] at hQ
    refine sg120_236 ⟨fun h => ?_, fun h => ?_⟩
    · rw [if_pos (h99.mp h)] at hQ
      exact hQ
    · have h9 : bsV W ≠ 99 := fun z => h (h99.mpr z)
      rw [if_neg h9] at hQ
      have e : bsI (bsV W) = nI (bsV W) := if_neg h9
      have hb : bsV W < W 2 := by omega
      rw [e]
      have hS := hW.snd hb
      refine ⟨shM H, r_goS H hW (by omega) ⟨shM H, r_bs H hS ?_⟩⟩
      refine ih _ hS ?_ hQ
      rw [pc_snd hW hb (bs_crew hW h9), dSnd_o (by omega)]
      omega
end REF5
