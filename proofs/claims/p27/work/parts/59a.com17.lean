/-! the component's book, the day -/
section COM17
variable {E : AEnv} {σ τ : ASt} {B : Nat} {U U' : Nat → Nat → Int32} {V W : Nat → Nat} {m n t : Nat} {Q : Option Value → ASt → Prop} {K : Int32 → ASt → Prop} {KV : ASt → Prop}
theorem Rel.bok (R : Rel U V) (hU : ∀ c k, c ≠ 4 → c ≠ 5 → c ≠ 6 → U' c k = U c k) (hW : ∀ j, j < 15 ∨ 32 ≤ j → W j = V j) (hk : RK U' W) (h8 : V 1 ≤ 8) : Rel U' W := by
  obtain ⟨r1, r2, r3, r4, r5⟩ := R
  refine ⟨r1.keep (fun k => hU 0 k (by decide) (by decide) (by decide)) (hW _ (by omega)) (hW _ (by omega)) (hW _ (by omega)) (hW _ (by omega)) (hW _ (by omega)) (hW _ (by omega)) (hW _ (by omega)), fun s hs => ?_, hk, fun i hi => ?_, fun b hb => ?_⟩
  · rw [hU _ _ (by decide) (by decide) (by decide), hW _ (by omega)]
    exact r2 s hs
  · rw [hW _ (by omega)] at hi
    have := r4 i hi
    unfold RI at this ⊢
    rw [hU _ 0 (by omega) (by omega) (by omega), hU _ 1 (by omega) (by omega) (by omega), hU _ 2 (by omega) (by omega) (by omega), hU _ 3 (by omega) (by omega) (by omega), hU _ 4 (by omega) (by omega) (by omega), hW _ (by omega), hW _ (by omega), hW _ (by omega), hW _ (by omega), hW _ (by omega)]
    exact this
  · rw [hW _ (by omega)] at hb
    have := r5 b hb
    have w : ∀ k, W (72 + 8 * b + k) = V (72 + 8 * b + k) := fun k => hW _ (by omega)
    have ee : endsM W b = endsM V b := by unfold endsM; rw [w, w]
    have es : stOf W b = stOf V b := by unfold stOf pntd; rw [w, w]
    unfold RB at this ⊢
    rw [ee, es, hU _ 0 (by omega) (by omega) (by omega), hU _ 1 (by omega) (by omega) (by omega), hU _ 2 (by omega) (by omega) (by omega), hU _ 3 (by omega) (by omega) (by omega), hU _ 4 (by omega) (by omega) (by omega), hU _ 5 (by omega) (by omega) (by omega), hU _ 6 (by omega) (by omega) (by omega), hU _ 7 (by omega) (by omega) (by omega), hU _ 8 (by omega) (by omega) (by omega), w, w, w, w, w, w, w]
    exact this
theorem dNot_16 {c : Nat} : dNot V c 16 = V 0 := by unfold dNot; simp (disch := omega) only [upN_n, upN_s]
theorem dNot_17 {c : Nat} : dNot V c 17 = c := by unfold dNot; simp (disch := omega) only [upN_n, upN_s]
theorem dNot_15 {c : Nat} : dNot V c 15 = if 8 ≤ V 15 then V 15 else V 15 + 1 := by unfold dNot; simp (disch := omega) only [upN_n, upN_s]
theorem dNot_v {c j : Nat} (h : 18 ≤ j) (h2 : j < 32) : dNot V c j = V (j - 2) := by
  unfold dNot
  simp (disch := omega) only [upN_n, upN_s]
  exact shN_v 14 (by omega) (by omega) h2
def shU (U : Nat → Nat → Int32) : Nat → (Nat → Nat → Int32)
  | 0 => U
  | n + 1 => upU (upU (shU U n) 5 n (U 5 (n + 1))) 6 n (U 6 (n + 1))
theorem shU_o {c k : Nat} (h5 : c ≠ 5) (h6 : c ≠ 6) : ∀ n, shU U n c k = U c k
  | 0 => rfl
  | n + 1 => by rw [shU, upU_c h6, upU_c h5]; exact shU_o h5 h6 n
theorem shU_5 {s : Nat} : ∀ n, shU U n 5 s = if s < n then U 5 (s + 1) else U 5 s
  | 0 => by rw [if_neg (by omega)]; rfl
  | n + 1 => by
    rw [shU, upU_c (by decide)]
    by_cases h : s = n
    · rw [h, upU_s, if_pos (by omega)]
    · rw [upU_k h, shU_5 n]
      by_cases h2 : s < n
      · rw [if_pos h2, if_pos (by omega)]
      · rw [if_neg h2, if_neg (by omega)]
theorem shU_6 {s : Nat} : ∀ n, shU U n 6 s = if s < n then U 6 (s + 1) else U 6 s
  | 0 => by rw [if_neg (by omega)]; rfl
  | n + 1 => by
    rw [shU]
    by_cases h : s = n
    · rw [h, upU_s, if_pos (by omega)]
    · rw [upU_k h, upU_c (by decide), shU_6 n]
      by_cases h2 : s < n
      · rw [if_pos h2, if_pos (by omega)]
      · rw [if_neg h2, if_neg (by omega)]
theorem c_drpL (H : MI σ) (hB : isB B) (hK : Q none (bS σ B (upU (shU U 7) 4 2 (nI 7)))) : ∀ d k : Nat, k + d = 7 → wp E 3 2 [.ref (B + 4), .int (nI (k + 1))] [] (bS σ B (shU U k)) Q := by
  intro d
  induction d with
  | zero =>
    intro k hk
    obtain rfl : k = 7 := by omega
    exact sg3_2 ⟨fun _ => ⟨shBk H hB, nw_e (bS_put (by decide)) hK⟩, fun h => absurd (nI_le (by decide) (by decide)) h⟩
  | succ d ih =>
    intro k hk
    have nx := ih (k + 1) (by omega)
    have e1 : nI (k + 1) - nI 1 = nI k := pk_sub (by omega)
    refine sg3_2 ⟨fun h => absurd h (nI_ge (by omega) (by omega)), fun _ => ⟨shBk H hB, _, rK0 H hB, shBk H hB, _, rK0 H hB, 8, shD H hB, vi (by omega) (by decide), 8, shD H hB, ?_, ?_⟩⟩
    · rw [e1]; exact vi (by omega) (by decide)
    · rw [e1, cl _ (by omega), cl _ (by omega), bS_get (by decide), shU_5, if_neg (by omega)]
      refine nw_e (bS_put (by decide)) ⟨shBk H hB, _, rK1 H hB, shBk H hB, _, rK1 H hB, 8, shC H hB, vi (by omega) (by decide), 8, shC H hB, vi (by omega) (by decide), ?_⟩
      rw [bS_get (by decide), upU_c (by decide), shU_6, if_neg (by omega)]
      refine nw_e (bS_put (by decide)) ?_
      rw [nI_add]
      exact nx
theorem c_not (H : MI σ) (hB : isB B) (h1 : V 1 ≤ 8) (h15 : V 15 ≤ 8) (R : Rel U V) {c : Nat} (hK : ∀ U', Rel U' (dNot V c) → KV (bS σ B U')) : cV E 2 [.ref (B + 4), .int (nI (V 0)), .int (nI c)] (bS σ B U) KV := by
  have rk := R.2.2.1
  have eL := nI_ltI (a := V 15) (b := 8) (by omega) (by decide)
  have rd : ∀ X, gI (bS σ B X) (B + 4) 2 = X 4 2 := fun X => bS_get (by decide)
  refine sg2_0 ⟨shBk H hB, ?_, ?_⟩
  · rw [rd, rk.1]
    intro g
    have h8 := eL.mp g
    refine ⟨shBk H hB, _, rK0 H hB, shBk H hB, 8, shD H hB, vi (by omega) (by decide), ?_⟩
    rw [cl _ (by omega)]
    refine nw_e (bS_put (by decide)) ⟨shBk H hB, _, rK1 H hB, shBk H hB, 8, shC H hB, ?_⟩
    rw [rd, upU_c (by decide), rk.1]
    refine ⟨vi (by omega) (by decide), ?_⟩
    rw [cl _ (by omega)]
    refine nw_e (bS_put (by decide)) ⟨shBk H hB, shBk H hB, ?_⟩
    rw [rd, upU_c (by decide), upU_c (by decide), rk.1, nI_add]
    refine nw_e (bS_put (by decide)) (hK _ ?_)
    refine R.bok (fun c k h4 h5 h6 => ?_) (fun j h => dNot_o h) ?_ h1
    · simp (disch := omega) only [upU_s, upU_k, upU_c]
    · unfold RK
      rw [dNot_15, if_neg (by omega)]
      refine ⟨by simp (disch := omega) only [upU_s, upU_k, upU_c], fun a ha => ?_⟩
      by_cases h0 : a = 0
      · subst h0
        rw [dNot_16, dNot_17, show V 15 + 1 - 1 - 0 = V 15 by omega]
        simp (disch := omega) only [upU_s, upU_k, upU_c]
        exact ⟨trivial, trivial⟩
      · rw [dNot_v (by omega) (by omega), dNot_v (by omega) (by omega)]
        have := rk.2 (a - 1) (by omega)
        rw [show V 15 + 1 - 1 - a = V 15 - 1 - (a - 1) by omega, show 16 + 2 * a - 2 = 16 + 2 * (a - 1) by omega, show 17 + 2 * a - 2 = 17 + 2 * (a - 1) by omega]
        simp (disch := omega) only [upU_s, upU_k, upU_c]
        exact this
  · rw [rd, rk.1]
    intro g
    have h8 : V 15 = 8 := by
      have : ¬ V 15 < 8 := fun z => g (eL.mpr z)
      omega
    refine ⟨shBk H hB, sg3_0 (c_drpL H hB ?_ 7 0 rfl)⟩
    refine ⟨shBk H hB, _, rK0 H hB, shBk H hB, 8, shD H hB, ?_⟩
    rw [rd, upU_s]
    refine ⟨vi (by decide) (by decide), ?_⟩
    rw [cl _ (by decide)]
    refine nw_e (bS_put (by decide)) ⟨shBk H hB, _, rK1 H hB, shBk H hB, 8, shC H hB, ?_⟩
    rw [rd, upU_c (by decide), upU_s]
    refine ⟨vi (by decide) (by decide), ?_⟩
    rw [cl _ (by decide)]
    refine nw_e (bS_put (by decide)) ⟨shBk H hB, shBk H hB, ?_⟩
    rw [rd, upU_c (by decide), upU_c (by decide), upU_s, nI_add]
    refine nw_e (bS_put (by decide)) (hK _ ?_)
    refine R.bok (fun c k h4 h5 h6 => ?_) (fun j h => dNot_o h) ?_ h1
    · simp (disch := omega) only [upU_s, upU_k, upU_c]
      exact shU_o h5 h6 7
    · unfold RK
      rw [dNot_15, if_pos (by omega), h8]
      refine ⟨by simp (disch := omega) only [upU_s, upU_k, upU_c], fun a ha => ?_⟩
      by_cases h0 : a = 0
      · subst h0
        rw [dNot_16, dNot_17, show 8 - 1 - 0 = 7 from rfl]
        simp (disch := omega) only [upU_s, upU_k, upU_c]
        exact ⟨trivial, trivial⟩
      · rw [dNot_v (by omega) (by omega), dNot_v (by omega) (by omega)]
        have := rk.2 (a - 1) (by omega)
        rw [h8, show 8 - 1 - (a - 1) = 8 - 1 - a + 1 by omega] at this
        rw [show 16 + 2 * a - 2 = 16 + 2 * (a - 1) by omega, show 17 + 2 * a - 2 = 17 + 2 * (a - 1) by omega]
        simp (disch := omega) only [upU_s, upU_k, upU_c]
        rw [shU_5, shU_6, if_pos (by omega), if_pos (by omega)]
        exact this
theorem c_dag (H : MI σ) (hB : isB B) (hw : WF m V) (R : Rel U V) {a : Nat} (ha : a < 2 ^ 31) (h1 : V 15 ≤ a → K (-1000004 : Int32) (bS σ B U)) (h2 : a < V 15 → K (nI (V (16 + 2 * a))) (bS σ B U)) : cI E 4 [.ref (B + 4), .int (nI a)] (bS σ B U) K := by
  have w1 := hw.1
  unfold W1 at w1
  have rk := R.2.2.1
  have e := nI_leI (a := V 15) (b := a) (by omega) ha
  have rd : gI (bS σ B U) (B + 4) 2 = U 4 2 := bS_get (by decide)
  refine sg4_0 ⟨shBk H hB, ?_, ?_⟩
  · rw [rd, rk.1]
    exact fun g => h1 (e.mp g)
  · rw [rd, rk.1]
    intro g
    have hl : a < V 15 := by
      have : ¬ V 15 ≤ a := fun z => g (e.mpr z)
      omega
    rw [show nI (V 15) - nI 1 = nI (V 15 - 1) from pk_sub (by omega), show nI (V 15 - 1) - nI a = nI (V 15 - 1 - a) from pk_sub (by omega)]
    refine ⟨shBk H hB, _, rK0 H hB, shBk H hB, 8, shD H hB, vi (by omega) (by decide), ?_⟩
    rw [cl _ (by omega), bS_get (by decide), (rk.2 a hl).1]
    exact h2 hl
theorem c_cag (H : MI σ) (hB : isB B) (hw : WF m V) (R : Rel U V) {a : Nat} (ha : a < 2 ^ 31) (h1 : V 15 ≤ a → K (-1000004 : Int32) (bS σ B U)) (h2 : a < V 15 → K (nI (V (17 + 2 * a))) (bS σ B U)) : cI E 5 [.ref (B + 4), .int (nI a)] (bS σ B U) K := by
  have w1 := hw.1
  unfold W1 at w1
  have rk := R.2.2.1
  have e := nI_leI (a := V 15) (b := a) (by omega) ha
  have rd : gI (bS σ B U) (B + 4) 2 = U 4 2 := bS_get (by decide)
  refine sg5_0 ⟨shBk H hB, ?_, ?_⟩
  · rw [rd, rk.1]
    exact fun g => h1 (e.mp g)
  · rw [rd, rk.1]
    intro g
    have hl : a < V 15 := by
      have : ¬ V 15 ≤ a := fun z => g (e.mpr z)
      omega
    rw [show nI (V 15) - nI 1 = nI (V 15 - 1) from pk_sub (by omega), show nI (V 15 - 1) - nI a = nI (V 15 - 1 - a) from pk_sub (by omega)]
    refine ⟨shBk H hB, _, rK1 H hB, shBk H hB, 8, shC H hB, vi (by omega) (by decide), ?_⟩
    rw [cl _ (by omega), bS_get (by decide), (rk.2 a hl).2]
    exact h2 hl
theorem c_rcv (H : MI σ) (hB : isB B) (R : Rel U V) (h8 : V 1 ≤ 8) {a : Nat} (hK : ∀ U', Rel U' (dPay V a) → KV (bS σ B U')) : cV E 34 [.ref B, .int (nI a)] (bS σ B U) KV := by
  have rg := R.1
  unfold RG at rg
  refine sg34_0 ⟨shS H hB, shS H hB, ?_⟩
  rw [bS_get0, rg.2.2.2.1, nI_add]
  refine nw_e bS_put0 ⟨shS H hB, shS H hB, ?_⟩
  rw [bS_get0, upU_k (by decide), rg.2.2.2.2.2.2, nI_add]
  refine nw_e bS_put0 (hK _ ?_)
  refine R.coi ?_ (fun c k h => ?_) (fun j _ h1 _ _ h2 => ?_)
  · unfold RG dPay
    simp (disch := omega) only [upN_n, upN_s]
    simp (disch := omega) only [upU_s, upU_k, upU_c]
    exact ⟨rg.1, rg.2.1, rg.2.2.1, trivial, rg.2.2.2.2.1, rg.2.2.2.2.2.1, trivial⟩
  · simp (disch := omega) only [upU_s, upU_k, upU_c]
  · unfold dPay
    simp (disch := omega) only [upN_n, upN_s]
theorem c_autL (H : MI σ) (hB : isB B) {x y : Int32} : ∀ (d k m : Nat) (V : Nat → Nat) (U : Nat → Nat → Int32), k + d = 4 → WF m V → V 9 = 1 → Rel U V → (∀ U', Rel U' (aut d V) → Q (some (.int y)) (bS σ B U')) → wp E 29 58 [.ref B, .int x, .int y, .int (nI k)] [] (bS σ B U) Q := by
  intro d
  induction d with
  | zero =>
    intro k m V U hk hw h9 R hK
    exact sg29_58 ⟨fun _ => hK U R, fun h => absurd (nI_le (by omega) (by omega)) h⟩
  | succ d ih =>
    intro k m V U hk hw h9 R hK
    have h1 := hw.1
    unfold W1 at h1
    have h14 : V 2 ≤ 14 := by omega
    have hl : bsV V = 99 ∨ bsV V < V 2 := bsN_lt V (V 2)
    have ii := inBr_i (x := bsI (bsV V)) hw
    rw [aut] at hK
    refine sg29_58 ⟨fun h => absurd h (nI_ge (by omega) (by omega)), fun _ => ⟨shS H hB, _, rS2 H hB, 8, shSe H hB, vi (by decide) (by decide), ?_⟩⟩
    rw [bS_get (by decide), R.2.1 6 (by decide)]
    refine ⟨fun g => absurd (congrArg nI h9) g, fun _ => ⟨shS H hB, c_bs H hB hw R ⟨shS H hB, c_isB H hB hw R ⟨fun g => ?_, fun g => ?_⟩⟩⟩⟩
    · obtain ⟨j, hj, e⟩ := ii.mp (bI_1 g)
      by_cases h99 : bsV V = 99
      · rw [h99] at e
        unfold bsI at e
        rw [if_pos rfl] at e
        have h0 := nI_pos (n := j) (by omega)
        rw [← e] at h0
        exact absurd (by decide) h0
      · rw [if_neg h99] at hK
        have eb : bsI (bsV V) = nI (bsV V) := by unfold bsI; rw [if_neg h99]
        rw [eb]
        have hb2 := hl.resolve_left h99
        have hb3 := Nat.lt_of_lt_of_le hb2 h14
        have hw2 := hw.snd hb2
        have hn9 : dSnd V (bsV V) 9 = 1 := (dSnd_o (Or.inl (Nat.lt_of_lt_of_le (by decide : 9 < 72) (Nat.le_trans (Nat.le_add_right 72 _) (Nat.le_add_right _ 4))))).trans h9
        clear hl e
        generalize bsV V = b at *
        refine ⟨shS H hB, _, rS1 H hB, 14, _, shBA H hB, vi hb3 (by decide), rBAc H hB hb3, shB H hB hb3, c_tak H hB hw R hb2 fun U' r => ?_⟩
        rw [nI_add]
        exact ih (k + 1) m _ U' (by omega) hw2 hn9 r hK
    · have hf := bI_2 g
      by_cases h99 : bsV V = 99
      · rw [if_pos h99] at hK
        exact hK U R
      · have eb : bsI (bsV V) = nI (bsV V) := by unfold bsI; rw [if_neg h99]
        have := ii.mpr ⟨bsV V, hl.resolve_left h99, eb⟩
        rw [hf] at this
        exact absurd this (by decide)
theorem c_end (H : MI σ) (hB : isB B) {N : Nat → Nat} (hw : WF n (dEnd N)) (h1 : N 1 ≤ 8) (h9 : N 9 ≤ 1) (R : Rel U N) {x y : Int32} (hK : ∀ U', Rel U' (dFin N) → Q (some (.int y)) (bS σ B U')) : sh (bS σ B U) B 3 11 ∧ sh (bS σ B U) B 3 11 ∧ nw (wrI (bS σ B U) B 6 ((gI (bS σ B U) B 6) + (nI 1))) (fun s7 =>
    sh s7 B 3 11 ∧ ∃ r8, rf s7 B 2 r8 ∧ ∃ n9, sh s7 r8 10 n9 ∧ vp_in (nI 5) n9 ∧ sh s7 B 3 11 ∧ cV E 34 [.ref B, .int (gI s7 r8 5)] s7 (fun s10 =>
    wp E 29 58 [.ref B, .int x, .int y, .int (nI 0)] [] s10 Q)) := by
  have rg := R.1
  unfold RG at rg
  refine ⟨shS H hB, shS H hB, ?_⟩
  rw [bS_get0, rg.2.2.1, nI_add]
  have R1 : Rel (upU U 0 6 (nI (N 0 + 1))) (upN N 0 (N 0 + 1)) := by
    refine R.coi ?_ (fun c k h => ?_) (fun j h1 _ _ _ h2 => ?_)
    · unfold RG
      simp (disch := omega) only [upN_n, upN_s]
      simp (disch := omega) only [upU_s, upU_k, upU_c]
      exact ⟨rg.1, rg.2.1, trivial, rg.2.2.2.1, rg.2.2.2.2.1, rg.2.2.2.2.2.1, rg.2.2.2.2.2.2⟩
    · simp (disch := omega) only [upU_s, upU_k, upU_c]
    · simp (disch := omega) only [upN_n, upN_s]
  refine nw_e bS_put0 ⟨shS H hB, _, rS2 H hB, 8, shSe H hB, vi (by decide) (by decide), shS H hB, ?_⟩
  rw [bS_get (by decide), R1.2.1 5 (by decide)]
  refine c_rcv H hB R1 (by simp (disch := omega) only [upN_n, upN_s]; exact h1) fun U' r => ?_
  have e : dPay (upN N 0 (N 0 + 1)) (upN N 0 (N 0 + 1) (3 + 5)) = dEnd N := by
    unfold dEnd dPay
    simp (disch := omega) only [upN_n, upN_s]
  rw [e] at r
  have e9 : dEnd N 9 = N 9 := by unfold dEnd; simp (disch := omega) only [upN_n, upN_s]
  unfold dFin at hK
  by_cases h : N 9 = 1
  · rw [if_pos h] at hK
    exact c_autL H hB 4 0 n _ U' rfl hw (e9.trans h) r hK
  · rw [if_neg h] at hK
    refine sg29_58 ⟨fun g => absurd g (nI_ge (by omega) (by omega)), fun _ => ⟨shS H hB, _, rS2 H hB, 8, shSe H hB, vi (by decide) (by decide), ?_⟩⟩
    rw [bS_get (by decide), r.2.1 6 (by decide), e9]
    exact ⟨fun _ => hK U' r, fun g => absurd ((nI_eq (by omega) (by decide)).mp (Classical.not_not.mp g)) h⟩
theorem c_day (H : MI σ) (hB : isB B) (hw : WF m V) (hm : m < 100000) (R : Rel U V) (hK : ∀ U', Rel U' (dDay V) → K (nI (cDay V)) (bS σ B U')) : cI E 29 [.ref B] (bS σ B U) K := by
  have h1 := hw.1
  unfold W1 at h1
  have hW := hw.w3
  have e1 : dW3 V 1 = V 1 := dW3_o (by omega) (by omega) (by omega)
  have hc : cDay V ≤ V 1 := cIA_le _
  have hbk := hw.bk.fin hm
  refine sg29_0 ⟨shS H hB, c_st H hB hw R (c := 0) (by decide) ⟨shS H hB, c_paA H hB hw R fun U1 r1 => ⟨shS H hB, c_weA H hB hw r1 fun U2 r2 => ⟨shS H hB, c_waA H hB hW r2 fun U3 r3 => ?_⟩⟩⟩⟩
  rw [e1] at r3 ⊢
  have e0 := nI_leI (a := cDay V) (b := 0) (by omega) (by decide)
  have o : ∀ j, j ≠ 11 → j ≠ 13 → j < 32 → dIA (dW3 V) (reachV (dW3 V) 0 99) (V 1) j = dW3 V j := fun j h1 h2 h3 => dIA_o _ h1 h2 (by omega)
  unfold dDay at hK
  unfold cDay at hK hbk hc e0
  generalize hN : dIA (dW3 V) (reachV (dW3 V) 0 99) (V 1) = N at hK hbk r3 o ⊢
  generalize hcc : cIA (dW3 V) (reachV (dW3 V) 0 99) (V 1) = cc at hK hbk hc e0 ⊢
  have n1 : N 1 ≤ 8 := by rw [o 1 (by omega) (by omega) (by omega), e1]; omega
  have n9 : N 9 ≤ 1 := by rw [o 9 (by omega) (by omega) (by omega)]; have := hW.2.1; unfold W2 at this; omega
  have n15 : N 15 ≤ 8 := by rw [o 15 (by omega) (by omega) (by omega)]; have := hW.1; unfold W1 at this; omega
  refine ⟨fun g => ?_, fun g => ?_⟩
  · have hc0 := Nat.le_zero.mp (e0.mp g)
    have eb : dBok N cc = N := by unfold dBok; rw [if_pos hc0]
    rw [eb] at hK hbk
    exact c_end H hB hbk n1 n9 r3 hK
  · have eb : dBok N cc = dNot N cc := by unfold dBok; rw [if_neg (fun z => g (e0.mpr (Nat.le_of_eq z)))]
    rw [eb] at hK hbk
    have rg := r3.1
    unfold RG at rg
    refine ⟨shS H hB, _, rS3 H hB, shS H hB, shBk H hB, ?_⟩
    rw [bS_get0, rg.2.2.1]
    refine c_not H hB n1 n15 r3 fun U4 r4 => ?_
    refine c_end H hB hbk ?_ ?_ r4 hK
    · rw [dNot_o (by omega)]; exact n1
    · rw [dNot_o (by omega)]; exact n9
theorem c_dysL (H : MI σ) (hB : isB B) {n : Nat} (hn : n < 2 ^ 31) : ∀ (d k c m : Nat) (V : Nat → Nat) (U : Nat → Nat → Int32), k + d = n → WF m V → m + d ≤ 100000 → Rel U V → (∀ U', Rel U' (dDays d V) → Q (some (.int (nI (c + cDays d V)))) (bS σ B U')) →
    wp E 28 33 [.ref B, .int (nI n), .int (nI c), .int (nI k)] [] (bS σ B U) Q := by
  intro d
  induction d with
  | zero =>
    intro k c m V U hk hw hm R hK
    exact sg28_33 ⟨fun _ => hK U R, fun h => absurd (nI_le (by omega) (by omega)) h⟩
  | succ d ih =>
    intro k c m V U hk hw hm R hK
    refine sg28_33 ⟨fun h => absurd h (nI_ge (by omega) (by omega)), fun _ => ⟨shS H hB, c_day H hB hw (by omega) R fun U1 r1 => ?_⟩⟩
    rw [nI_add, nI_add]
    refine ih (k + 1) (c + cDay V) (m + 1) (dDay V) U1 (by omega) (hw.day (by omega)) (by omega) r1 fun U' r' => ?_
    have := hK U' r'
    rw [cDays, ← Nat.add_assoc] at this
    exact this
end COM17
