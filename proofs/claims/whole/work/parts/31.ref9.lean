/-! the reference's questions, 2 -/
section REF9
variable {E : AEnv} {σ : ASt} {V : Nat → Nat} {m : Nat} {Q : Option Value → ASt → Prop} {K : Int32 → ASt → Prop} {KV : ASt → Prop}
def qBrg (V : Nat → Nat) (x w : Int32) : Int32 :=
  if inBr V x = true then
    if w = nI 0 then nI (V (72 + 8 * toN x + 0))
    else if w = nI 1 then nI (V (72 + 8 * toN x + 1))
    else if w = nI 2 then nI (V (72 + 8 * toN x + 2))
    else if w = nI 3 then nI (V (72 + 8 * toN x + 3))
    else if w = nI 4 then nI (stOf V (toN x))
    else if w = nI 5 then nI (V (72 + 8 * toN x + 5))
    else if w = nI 6 then nI (V (72 + 8 * toN x + 6))
    else if w = nI 7 then nI (V (72 + 8 * toN x + 7))
    else if w = nI 8 then (if opn V (toN x) = true ∧ cutV V (toN x) ≠ 0 then nI 1 else nI 0)
    else (-1000001 : Int32)
  else (-1000001 : Int32)
theorem r_qBrg (H : MI σ) (hw : WF m V) {x w : Int32} (hK : K (qBrg V x w) (mS σ V)) : cI E 137 [.ref 179, .int x, .int w] (mS σ V) K := by
  have h1 := hw.1
  unfold W1 at h1
  unfold qBrg at hK
  refine sg137_0 ⟨shM H, r_isB H ⟨fun h => ?_, fun h => ?_⟩⟩
  · rw [if_pos (show inBr V x = true from bI_1 h)] at hK
    obtain ⟨hx, ex⟩ := inBr_n hw (bI_1 h)
    have hb := hw.b hx
    have hc := cutV_lt hw (toN x)
    have hc0 := nI_eq (a := cutV V (toN x)) (b := 0) (by omega) (by decide)
    rw [ex]
    refine ⟨fun g => ?_, fun g0 => ⟨fun g => ?_, fun g1 => ⟨fun g => ?_, fun g2 => ⟨fun g => ?_, fun g3 => ⟨fun g => ?_, fun g4 => ⟨fun g => ?_, fun g5 => ⟨fun g => ?_, fun g6 => ⟨fun g => ?_, fun g7 => ⟨fun g => ?_, fun g8 => ?_⟩⟩⟩⟩⟩⟩⟩⟩⟩
    · rw [if_pos g] at hK
      rw [g]; exact ⟨shM H, r_of H (by omega) (by decide) hK⟩
    · rw [if_neg g0, if_pos g] at hK
      rw [g]; exact ⟨shM H, r_of H (by omega) (by decide) hK⟩
    · rw [if_neg g0, if_neg g1, if_pos g] at hK
      rw [g]; exact ⟨shM H, r_of H (by omega) (by decide) hK⟩
    · rw [if_neg g0, if_neg g1, if_neg g2, if_pos g] at hK
      rw [g]; exact ⟨shM H, r_of H (by omega) (by decide) hK⟩
    · rw [if_neg g0, if_neg g1, if_neg g2, if_neg g3, if_pos g] at hK
      exact ⟨shM H, r_stO H (by omega) hb.2.2.1 hb.2.2.2 hK⟩
    · rw [if_neg g0, if_neg g1, if_neg g2, if_neg g3, if_neg g4, if_pos g] at hK
      rw [g]; exact ⟨shM H, r_of H (by omega) (by decide) hK⟩
    · rw [if_neg g0, if_neg g1, if_neg g2, if_neg g3, if_neg g4, if_neg g5, if_pos g] at hK
      rw [g]; exact ⟨shM H, r_of H (by omega) (by decide) hK⟩
    · rw [if_neg g0, if_neg g1, if_neg g2, if_neg g3, if_neg g4, if_neg g5, if_neg g6, if_pos g] at hK
      rw [g]; exact ⟨shM H, r_of H (by omega) (by decide) hK⟩
    · rw [if_neg g0, if_neg g1, if_neg g2, if_neg g3, if_neg g4, if_neg g5, if_neg g6, if_neg g7, if_pos g] at hK
      refine ⟨shM H, r_isO H (by omega) hb.2.2.1 hb.2.2.2 ⟨fun h2 => ?_, fun h2 => ⟨shM H, r_cut H hw (by omega) ⟨fun h3 => ?_, fun h3 => ?_⟩⟩⟩⟩
      · rw [if_neg (fun z => bI_3 h2 z.1)] at hK
        exact hK
      · rw [if_neg (fun z => z.2 (hc0.mp h3))] at hK
        exact hK
      · rw [if_pos ⟨bI_1 h2, fun z => h3 (hc0.mpr z)⟩] at hK
        exact hK
    · rw [if_neg g0, if_neg g1, if_neg g2, if_neg g3, if_neg g4, if_neg g5, if_neg g6, if_neg g7, if_neg g8] at hK
      exact hK
  · rw [if_neg (show ¬ inBr V x = true from by rw [show inBr V x = false from bI_2 h]; decide)] at hK
    exact hK
def qIsl (V : Nat → Nat) (x w : Int32) : Int32 :=
  if inIs V x = true then
    if w = nI 0 then bI (bt (reachV V 0 99) (toN x))
    else if w = nI 1 then nI (V (32 + 5 * toN x + 1))
    else if w = nI 2 then nI (V (32 + 5 * toN x + 0))
    else if w = nI 3 then nI (V (32 + 5 * toN x + 2))
    else if w = nI 4 then nI (V (32 + 5 * toN x + 3))
    else if w = nI 5 then nI (V (32 + 5 * toN x + 4))
    else if w = nI 6 then nI (oaN V (toN x) (V 2))
    else if w = nI 7 then fwD V (toN x) 8 1 0
    else (-1000001 : Int32)
  else (-1000001 : Int32)
theorem r_qIsl (H : MI σ) (hw : WF m V) {x w : Int32} (hK : K (qIsl V x w) (mS σ V)) : cI E 140 [.ref 179, .int x, .int w] (mS σ V) K := by
  have h1 := hw.1
  unfold W1 at h1
  unfold qIsl at hK
  refine sg140_0 ⟨shM H, r_isI H ⟨fun h => ?_, fun h => ?_⟩⟩
  · rw [if_pos (show inIs V x = true from bI_1 h)] at hK
    obtain ⟨hx, ex⟩ := inIs_n hw (bI_1 h)
    have hR := reach_lt hw.ends (i := 0) (wo := 99) (by decide)
    rw [ex]
    refine ⟨fun g => ?_, fun g0 => ⟨fun g => ?_, fun g1 => ⟨fun g => ?_, fun g2 => ⟨fun g => ?_, fun g3 => ⟨fun g => ?_, fun g4 => ⟨fun g => ?_, fun g5 => ⟨fun g => ?_, fun g6 => ⟨fun g => ?_, fun g7 => ?_⟩⟩⟩⟩⟩⟩⟩⟩
    · rw [if_pos g] at hK
      refine ⟨shM H, r_reach H hw (by decide) woI_n ?_⟩
      rw [bt_i (by omega) (by omega)]
      exact hK
    · rw [if_neg g0, if_pos g] at hK
      exact ⟨shM H, r_ofI H (by omega) (by decide) hK⟩
    · rw [if_neg g0, if_neg g1, if_pos g] at hK
      exact ⟨shM H, r_ofI H (by omega) (by decide) hK⟩
    · rw [if_neg g0, if_neg g1, if_neg g2, if_pos g] at hK
      exact ⟨shM H, r_ofI H (by omega) (by decide) hK⟩
    · rw [if_neg g0, if_neg g1, if_neg g2, if_neg g3, if_pos g] at hK
      exact ⟨shM H, r_ofI H (by omega) (by decide) hK⟩
    · rw [if_neg g0, if_neg g1, if_neg g2, if_neg g3, if_neg g4, if_pos g] at hK
      exact ⟨shM H, r_ofI H (by omega) (by decide) hK⟩
    · rw [if_neg g0, if_neg g1, if_neg g2, if_neg g3, if_neg g4, if_neg g5, if_pos g] at hK
      exact ⟨shM H, r_oa H hw (by omega) hK⟩
    · rw [if_neg g0, if_neg g1, if_neg g2, if_neg g3, if_neg g4, if_neg g5, if_neg g6, if_pos g] at hK
      exact ⟨shM H, r_fw H hw (by omega) hK⟩
    · rw [if_neg g0, if_neg g1, if_neg g2, if_neg g3, if_neg g4, if_neg g5, if_neg g6, if_neg g7] at hK
      exact hK
  · rw [if_neg (show ¬ inIs V x = true from by rw [show inIs V x = false from bI_2 h]; decide)] at hK
    exact hK
def qRea (V : Nat → Nat) (x : Int32) : Int32 := if inIs V x = true then nI (reachV V (toN x) 99) else (-1000001 : Int32)
theorem r_qRea (H : MI σ) (hw : WF m V) {x : Int32} (hK : K (qRea V x) (mS σ V)) : cI E 141 [.ref 179, .int x] (mS σ V) K := by
  have h1 := hw.1
  unfold W1 at h1
  unfold qRea at hK
  refine sg141_0 ⟨shM H, r_isI H ⟨fun h => ?_, fun h => ?_⟩⟩
  · rw [if_neg (show ¬ inIs V x = true from bI_3 h)] at hK
    exact hK
  · rw [if_pos (show inIs V x = true from bI_1 h)] at hK
    obtain ⟨hx, ex⟩ := inIs_n hw (bI_1 h)
    rw [ex]
    exact ⟨shM H, r_reach H hw (by omega) woI_n hK⟩
def qBok (V : Nat → Nat) (a w : Int32) : Int32 :=
  if a < nI 0 then (-1000001 : Int32) else if inRg w (nI 0) (nI 1) = true then (if V 15 ≤ toN a then (-1000004 : Int32) else nI (V (16 + 2 * toN a + toN w))) else (-1000001 : Int32)
theorem r_qBok (H : MI σ) (hw : WF m V) {a w : Int32} (hK : K (qBok V a w) (mS σ V)) : cI E 142 [.ref 179, .int a, .int w] (mS σ V) K := by
  have h1 := hw.1
  unfold W1 at h1
  unfold qBok at hK
  refine sg142_0 ⟨fun h => ?_, fun h => r_in ⟨fun h2 => ⟨shM H, _, rM0 H, 184, shV H, vi (by decide) (by decide), ?_⟩, fun h2 => ?_⟩⟩
  · rw [if_pos h] at hK
    exact hK
  · rw [if_neg h, if_pos (bI_1 h2)] at hK
    obtain ⟨_, hb, ew⟩ := inRg_n (by decide) (by decide) (bI_1 h2)
    obtain ⟨j, hj, rfl⟩ := nI_of h
    rw [toN_nI hj] at hK
    have e := nI_leI (a := V 15) (b := j) (by omega) hj
    rw [mS_get (by decide)]
    refine ⟨fun h3 => ?_, fun h3 => ⟨shM H, _, rM0 H, 184, shV H, ?_⟩⟩
    · rw [if_pos (e.mp h3)] at hK
      exact hK
    · have h4 : ¬ V 15 ≤ j := fun z => h3 (e.mpr z)
      rw [if_neg h4] at hK
      rw [ew, pk_mul, nI_add, nI_add, cl _ (by omega), mS_get (by omega)]
      exact ⟨vi (by omega) (by omega), hK⟩
  · rw [if_neg h, if_neg (by rw [bI_2 h2]; decide)] at hK
    exact hK
/-- the lowest member of a set of islands -/
def lowF (S : Nat) : Nat → Nat → Nat
  | 0, k => k
  | d + 1, k => if bt S k = true then k else lowF S d (k + 1)
def low (S : Nat) : Nat := lowF S 8 0
theorem r_lowL (H : MI σ) {S i : Nat} (hS : S < 2 ^ 8) (hi : i < 8) (hb : bt S i = true) : ∀ d k : Nat, k + d = 8 → k ≤ i → Q (some (.int (nI (lowF S d k)))) (mS σ V) → wp E 143 2 [.ref 179, .int (nI S), .int (nI k)] [] (mS σ V) Q := by
  intro d
  induction d with
  | zero => intro k hk hki; omega
  | succ d ih =>
    intro k hk hki hK
    have b0 := bt_0 (R := S) (i := k) (by omega) (by omega)
    rw [lowF] at hK
    refine sg143_2 ⟨fun h => ?_, fun h => ?_⟩
    · rw [if_pos (by cases hq : bt S k with
        | true => rfl
        | false => exact absurd (b0.mpr hq) h)] at hK
      exact hK
    · have hf := b0.mp (Classical.not_not.mp h)
      rw [if_neg (by rw [hf]; decide)] at hK
      rw [nI_add]
      have : k ≠ i := fun z => by rw [z, hb] at hf; exact absurd hf (by decide)
      exact ih (k + 1) (by omega) (by omega) hK
theorem r_low (H : MI σ) {S i : Nat} (hS : S < 2 ^ 8) (hi : i < 8) (hb : bt S i = true) (hK : K (nI (low S)) (mS σ V)) : cI E 143 [.ref 179, .int (nI S)] (mS σ V) K := sg143_0 (r_lowL H hS hi hb 8 0 (by omega) (by omega) hK)
theorem some_bit {S : Nat} (hS : S < 2 ^ 8) (h : S ≠ 0) : ∃ i, i < 8 ∧ bt S i = true := by
  obtain ⟨i, h1, h2⟩ := strict_bit (S := 0) (T := S) (fun i h => by simp at h) h
  exact ⟨i, lt_bit hS h2, by rw [bt_tb]; exact h2⟩
def qWhy (V : Nat → Nat) (x w : Int32) : Int32 :=
  if inBr V x = true ∧ inRg w (nI 0) (nI 1) = true then
    if w = nI 0 then nI (rsn V (toN x)) else if rsn V (toN x) = 4 then nI (low (cutV V (toN x))) else (-1000004 : Int32)
  else (-1000001 : Int32)
theorem rsn_4 {b : Nat} (h : rsn V b = 4) : cutV V b ≠ 0 := by
  unfold rsn at h
  intro z
  rw [if_pos z] at h
  repeat' split at h
  all_goals omega
theorem r_qWhy (H : MI σ) (hw : WF m V) {x w : Int32} (hK : K (qWhy V x w) (mS σ V)) : cI E 144 [.ref 179, .int x, .int w] (mS σ V) K := by
  have h1 := hw.1
  unfold W1 at h1
  unfold qWhy at hK
  refine sg144_0 ⟨shM H, r_isB H ⟨fun h => ?_, fun h => r_in ⟨fun h2 => ⟨shM H, ?_⟩, fun h2 => ?_⟩⟩⟩
  · rw [if_neg (fun z => bI_3 h z.1)] at hK
    exact hK
  · rw [if_pos ⟨bI_1 h, bI_1 h2⟩] at hK
    obtain ⟨hx, ex⟩ := inBr_n hw (bI_1 h)
    have h5 := rsn_lt V (toN x)
    have r4 := nI_eq (a := rsn V (toN x)) (b := 4) (by omega) (by decide)
    rw [ex]
    refine r_rsn H hw hx ⟨fun h3 => ⟨fun h4 => ?_, fun h4 => ?_⟩, fun h3 => ?_⟩
    · rw [if_neg h3, if_neg (fun z => h4 (r4.mpr z))] at hK
      exact hK
    · have e4 := r4.mp (Classical.not_not.mp h4)
      rw [if_neg h3, if_pos e4] at hK
      obtain ⟨i, hi, hb⟩ := some_bit (cutV_lt hw (toN x)) (rsn_4 e4)
      exact ⟨shM H, r_cut H hw (by omega) ⟨shM H, r_low H (cutV_lt hw _) hi hb hK⟩⟩
    · rw [if_pos (Classical.not_not.mp h3)] at hK
      exact hK
  · rw [if_neg (fun z => by have := z.2; rw [bI_2 h2] at this; exact absurd this (by decide))] at hK
    exact hK
theorem r_best (H : MI σ) (hw : WF m V) (hK : K (bsI (bsV V)) (mS σ V)) : cI E 145 [.ref 179] (mS σ V) K := sg145_0 ⟨shM H, r_bs H hw hK⟩
def qRus (V : Nat → Nat) (x : Int32) : Int32 :=
  if inBr V x = true then (if pntd V (toN x) = true then (-1000002 : Int32) else nI ((V (72 + 8 * toN x + 3) + V (72 + 8 * toN x + 2) - 1) / V (72 + 8 * toN x + 2))) else (-1000001 : Int32)
theorem r_qRus (H : MI σ) (hw : WF m V) {x : Int32} (hK : K (qRus V x) (mS σ V)) : cI E 146 [.ref 179, .int x] (mS σ V) K := by
  have h1 := hw.1
  unfold W1 at h1
  unfold qRus at hK
  refine sg146_0 ⟨shM H, r_isB H ⟨fun h => ⟨shM H, ?_⟩, fun h => ?_⟩⟩
  · rw [if_pos (show inBr V x = true from bI_1 h)] at hK
    obtain ⟨hx, ex⟩ := inBr_n hw (bI_1 h)
    have hb := hw.b hx
    have h3 := hw.2.2.1 _ hx
    rw [ex]
    refine r_isP H (by omega) hb.2.2.1 ⟨fun h2 => ⟨shM H, r_of H (by omega) (by decide) ⟨shM H, r_of H (by omega) (by decide) ⟨shM H, r_of H (by omega) (by decide) ?_⟩⟩⟩, fun h2 => ?_⟩
    · rw [if_neg (bI_3 h2)] at hK
      refine ⟨fun z => ?_, ?_⟩
      · have := (nI_eq (a := V (72 + 8 * toN x + 2)) (b := 0) (by omega) (by decide)).mp z
        omega
      · rw [nI_add, pk_sub (by omega), pk_div (by omega) (by omega) (by omega)]
        exact hK
    · rw [if_pos (bI_1 h2)] at hK
      exact hK
  · rw [if_neg (show ¬ inBr V x = true from by rw [show inBr V x = false from bI_2 h]; decide)] at hK
    exact hK
end REF9
