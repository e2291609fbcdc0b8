/-! the reference's questions, 3 -/
section REF10
variable {E : AEnv} {σ : ASt} {V : Nat → Nat} {m : Nat} {Q : Option Value → ASt → Prop} {K : Int32 → ASt → Prop} {KV : ASt → Prop}
/-- the set of the bridges b for which p b -/
def setN (p : Nat → Bool) : Nat → Nat
  | 0 => 0
  | n + 1 => if p n = true then setN p n ||| 2 ^ n else setN p n
theorem setN_lt (p : Nat → Bool) : ∀ n, setN p n < 2 ^ n
  | 0 => Nat.one_pos
  | n + 1 => by
    have ih := setN_lt p n
    have hp : 2 ^ n < 2 ^ (n + 1) := Nat.pow_lt_pow_right (by decide) (by omega)
    rw [setN]
    split
    · exact Nat.or_lt_two_pow (by omega) hp
    · omega
theorem setN_lt' (p : Nat → Bool) {n : Nat} (h : n ≤ 14) : setN p n < 2 ^ 14 := Nat.lt_of_lt_of_le (setN_lt p n) (Nat.pow_le_pow_right (by decide) h)
theorem setN_b (p : Nat → Bool) {i : Nat} : ∀ n, (setN p n).testBit i = (decide (i < n) && p i)
  | 0 => by rw [setN]; simp
  | n + 1 => by
    have ih := setN_b p (i := i) n
    have e : (decide (i < n + 1)) = (decide (i < n) || decide (i = n)) := by
      rw [Bool.eq_iff_iff, Bool.or_eq_true, decide_eq_true_iff, decide_eq_true_iff, decide_eq_true_iff]; omega
    rw [setN, e]
    split
    · rename_i h
      rw [Nat.testBit_or, ih, Nat.testBit_two_pow]
      by_cases hi : i = n
      · subst hi; simp [h]
      · simp [hi, Ne.symm hi]
    · rename_i h
      rw [ih]
      by_cases hi : i = n
      · subst hi; simp [Bool.not_eq_true _ ▸ h]
      · simp [hi]
def isSt (V : Nat → Nat) (c b : Nat) : Bool := Nat.beq (stOf V b) c
theorem stOf_lt (V : Nat → Nat) (b : Nat) : stOf V b < 3 := by unfold stOf; repeat' split
                                                               all_goals omega
theorem r_stL (H : MI σ) (hw : WF m V) {c : Nat} (hc : c < 3) (hK : Q (some (.int (nI (setN (isSt V c) (V 2))))) (mS σ V)) : ∀ d k : Nat, k + d = V 2 → wp E 151 4 [.ref 179, .int (nI c), .int (nI (setN (isSt V c) k)), .int (nI k)] [] (mS σ V) Q := by
  have h1 := hw.1
  unfold W1 at h1
  intro d
  induction d with
  | zero =>
    intro k hk
    obtain rfl : k = V 2 := by omega
    refine sg151_4 ⟨shM H, _, rM0 H, 184, shV H, vi (by decide) (by decide), fun _ => hK, fun h => absurd ?_ h⟩
    rw [mS_get (by decide)]
    exact nI_le (Nat.le_refl _) (by omega)
  | succ d ih =>
    intro k hk
    have hb := hw.b (b := k) (by omega)
    have nx := ih (k + 1) (by omega)
    have hs := setN_lt' (isSt V c) (n := k) (by omega)
    have h3 := stOf_lt V k
    have hp : 2 ^ k < 2 ^ 14 := Nat.pow_lt_pow_right (by decide) (by omega)
    have e := nI_eq (a := stOf V k) (b := c) (by omega) (by omega)
    rw [setN] at nx
    refine sg151_4 ⟨shM H, _, rM0 H, 184, shV H, vi (by decide) (by decide), fun h => absurd h ?_, fun _ => ⟨shM H, r_stO H (by omega) hb.2.2.1 hb.2.2.2 ⟨fun h => ?_, fun h => ?_⟩⟩⟩
    · rw [mS_get (by decide)]
      exact nI_ge (by omega) (by omega)
    · rw [if_neg (show ¬ isSt V c k = true from fun z => h (e.mpr (beq_iff'.mp z)))] at nx
      rw [nI_or0 (by omega), nI_add]; exact nx
    · rw [if_pos (show isSt V c k = true from beq_iff'.mpr (e.mp (Classical.not_not.mp h)))] at nx
      rw [nI_shl (by omega), nI_or (by omega) (by omega), nI_add]; exact nx
theorem r_st (H : MI σ) (hw : WF m V) {c : Nat} (hc : c < 3) (hK : K (nI (setN (isSt V c) (V 2))) (mS σ V)) : cI E 151 [.ref 179, .int (nI c)] (mS σ V) K := sg151_0 (r_stL H hw hc hK (V 2) 0 (by omega))
def isNd (V : Nat → Nat) (b : Nat) : Bool := opn V b && !(Nat.beq (cutV V b) 0)
theorem r_ndL (H : MI σ) (hw : WF m V) (hK : Q (some (.int (nI (setN (isNd V) (V 2))))) (mS σ V)) : ∀ d k : Nat, k + d = V 2 → wp E 152 4 [.ref 179, .int (nI (setN (isNd V) k)), .int (nI k)] [] (mS σ V) Q := by
  have h1 := hw.1
  unfold W1 at h1
  intro d
  induction d with
  | zero =>
    intro k hk
    obtain rfl : k = V 2 := by omega
    refine sg152_4 ⟨shM H, _, rM0 H, 184, shV H, vi (by decide) (by decide), fun _ => hK, fun h => absurd ?_ h⟩
    rw [mS_get (by decide)]
    exact nI_le (Nat.le_refl _) (by omega)
  | succ d ih =>
    intro k hk
    have hb := hw.b (b := k) (by omega)
    have nx := ih (k + 1) (by omega)
    have hs := setN_lt' (isNd V) (n := k) (by omega)
    have hp : 2 ^ k < 2 ^ 14 := Nat.pow_lt_pow_right (by decide) (by omega)
    have hc := cutV_lt hw k
    have e := nI_eq (a := cutV V k) (b := 0) (by omega) (by decide)
    rw [setN] at nx
    refine sg152_4 ⟨shM H, _, rM0 H, 184, shV H, vi (by decide) (by decide), fun h => absurd h ?_, fun _ => ⟨shM H, r_isO H (by omega) hb.2.2.1 hb.2.2.2 ⟨fun h => ?_, fun h => ⟨shM H, r_cut H hw (by omega) ⟨fun h2 => ?_, fun h2 => ?_⟩⟩⟩⟩⟩
    · rw [mS_get (by decide)]
      exact nI_ge (by omega) (by omega)
    · rw [if_neg (by unfold isNd; rw [(bI_0 _).mp h]; exact ff)] at nx
      rw [nI_or0 (by omega), nI_add]; exact nx
    · rw [if_neg (by unfold isNd; rw [e.mp h2]; cases opn V k <;> exact ff)] at nx
      rw [nI_or0 (by omega), nI_add]; exact nx
    · rw [if_pos (by
        unfold isNd
        rw [bI_1 h]
        cases hq : Nat.beq (cutV V k) 0 with
        | false => rfl
        | true => exact absurd (e.mpr (beq_iff'.mp hq)) h2)] at nx
      rw [nI_shl (by omega), nI_or (by omega) (by omega), nI_add]; exact nx
theorem r_nd (H : MI σ) (hw : WF m V) (hK : K (nI (setN (isNd V) (V 2))) (mS σ V)) : cI E 152 [.ref 179] (mS σ V) K := sg152_0 (r_ndL H hw hK (V 2) 0 (by omega))
def grN (V : Nat → Nat) : Nat → Nat
  | 0 => 0
  | n + 1 => grN V n + (if low (reachV V n 99) = n then 1 else 0)
theorem lowF_le (S : Nat) : ∀ d k, lowF S d k ≤ k + d
  | 0, k => Nat.le_refl _
  | d + 1, k => by
    rw [lowF]
    have := lowF_le S d (k + 1)
    split <;> omega
theorem low_le (S : Nat) : low S ≤ 8 := lowF_le S 8 0
theorem reach_i (V : Nat → Nat) (i wo : Nat) : bt (reachV V i wo) i = true := by
  rw [bt_tb]
  exact reach_ge V i wo i (by rw [Nat.testBit_two_pow]; simp)
theorem r_grL (H : MI σ) (hw : WF m V) (hK : Q (some (.int (nI (grN V (V 1))))) (mS σ V)) : ∀ d k : Nat, k + d = V 1 → wp E 153 4 [.ref 179, .int (nI (grN V k)), .int (nI k)] [] (mS σ V) Q := by
  have h1 := hw.1
  unfold W1 at h1
  intro d
  induction d with
  | zero =>
    intro k hk
    obtain rfl : k = V 1 := by omega
    refine sg153_4 ⟨shM H, _, rM0 H, 184, shV H, vi (by decide) (by decide), fun _ => hK, fun h => absurd ?_ h⟩
    rw [mS_get (by decide)]
    exact nI_le (Nat.le_refl _) (by omega)
  | succ d ih =>
    intro k hk
    have nx := ih (k + 1) (by omega)
    have hR := reach_lt hw.ends (i := k) (wo := 99) (by omega)
    have hl := low_le (reachV V k 99)
    have e := nI_eq (a := low (reachV V k 99)) (b := k) (by omega) (by omega)
    rw [grN] at nx
    refine sg153_4 ⟨shM H, _, rM0 H, 184, shV H, vi (by decide) (by decide), fun h => absurd h ?_, fun _ => ⟨shM H, r_reach H hw (by omega) woI_n ⟨shM H, r_low H hR (by omega) (reach_i V k 99) ⟨fun h => ?_, fun h => ?_⟩⟩⟩⟩
    · rw [mS_get (by decide)]
      exact nI_ge (by omega) (by omega)
    · rw [if_neg (fun z => h (e.mpr z))] at nx
      rw [nI_add, nI_add]; exact nx
    · rw [if_pos (e.mp (Classical.not_not.mp h))] at nx
      rw [nI_add, nI_add]; exact nx
theorem r_gr (H : MI σ) (hw : WF m V) (hK : K (nI (grN V (V 1))) (mS σ V)) : cI E 153 [.ref 179] (mS σ V) K := sg153_0 (r_grL H hw hK (V 1) 0 (by omega))
def smN (V : Nat → Nat) (w : Nat) : Nat → Nat
  | 0 => 0
  | n + 1 => smN V w n + V (32 + 5 * n + w)
def mxN (V : Nat → Nat) (w : Nat) : Nat → Nat
  | 0 => 0
  | n + 1 => if V (32 + 5 * n + w) ≤ mxN V w n then mxN V w n else V (32 + 5 * n + w)
theorem r_smL (H : MI σ) (hw : WF m V) {w : Nat} (hwi : w < 5) (hK : Q (some (.int (nI (smN V w (V 1))))) (mS σ V)) : ∀ d k : Nat, k + d = V 1 → wp E 154 5 [.ref 179, .int (nI w), .int (nI 0), .int (nI (smN V w k)), .int (nI k)] [] (mS σ V) Q := by
  have h1 := hw.1
  unfold W1 at h1
  intro d
  induction d with
  | zero =>
    intro k hk
    obtain rfl : k = V 1 := by omega
    refine sg154_5 ⟨shM H, _, rM0 H, 184, shV H, vi (by decide) (by decide), fun _ => hK, fun h => absurd ?_ h⟩
    rw [mS_get (by decide)]
    exact nI_le (Nat.le_refl _) (by omega)
  | succ d ih =>
    intro k hk
    have nx := ih (k + 1) (by omega)
    rw [smN] at nx
    refine sg154_5 ⟨shM H, _, rM0 H, 184, shV H, vi (by decide) (by decide), fun h => absurd h ?_, fun _ => ⟨shM H, r_ofI H (by omega) hwi ⟨fun h => absurd rfl h, fun _ => ?_⟩⟩⟩
    · rw [mS_get (by decide)]
      exact nI_ge (by omega) (by omega)
    · rw [nI_add, nI_add]; exact nx
theorem r_sm (H : MI σ) (hw : WF m V) {w : Nat} (hwi : w < 5) (hK : K (nI (smN V w (V 1))) (mS σ V)) : cI E 154 [.ref 179, .int (nI w), .int (nI 0)] (mS σ V) K := sg154_0 (r_smL H hw hwi hK (V 1) 0 (by omega))
theorem mx_lt (hw : WF m V) : ∀ n, n ≤ V 1 → mxN V 3 n ≤ V 0
  | 0, _ => Nat.zero_le _
  | n + 1, h => by
    have ih := mx_lt hw n (by omega)
    have := hw.2.2.2.1 n (by omega)
    rw [mxN]
    split <;> omega
theorem r_mxL (H : MI σ) (hw : WF m V) (hK : Q (some (.int (nI (mxN V 3 (V 1))))) (mS σ V)) : ∀ d k : Nat, k + d = V 1 → wp E 154 5 [.ref 179, .int (nI 3), .int (nI 1), .int (nI (mxN V 3 k)), .int (nI k)] [] (mS σ V) Q := by
  have h1 := hw.1
  unfold W1 at h1
  have h5 := hw.2.2.2.2
  unfold W5 at h5
  intro d
  induction d with
  | zero =>
    intro k hk
    obtain rfl : k = V 1 := by omega
    refine sg154_5 ⟨shM H, _, rM0 H, 184, shV H, vi (by decide) (by decide), fun _ => hK, fun h => absurd ?_ h⟩
    rw [mS_get (by decide)]
    exact nI_le (Nat.le_refl _) (by omega)
  | succ d ih =>
    intro k hk
    have nx := ih (k + 1) (by omega)
    have hx := mx_lt hw k (by omega)
    have h4 := hw.2.2.2.1 k (by omega)
    have e := nI_leI (a := V (32 + 5 * k + 3)) (b := mxN V 3 k) (by omega) (by omega)
    rw [mxN] at nx
    refine sg154_5 ⟨shM H, _, rM0 H, 184, shV H, vi (by decide) (by decide), fun h => absurd h ?_, fun _ => ⟨shM H, r_ofI H (by omega) (by decide) ⟨fun _ => ⟨fun h => ?_, fun h => ?_⟩, fun h => absurd (by decide) h⟩⟩⟩
    · rw [mS_get (by decide)]
      exact nI_ge (by omega) (by omega)
    · rw [if_pos (e.mp h)] at nx
      rw [nI_add]; exact nx
    · rw [if_neg (fun z => h (e.mpr z))] at nx
      rw [nI_add]; exact nx
theorem r_mx (H : MI σ) (hw : WF m V) (hK : K (nI (mxN V 3 (V 1))) (mS σ V)) : cI E 154 [.ref 179, .int (nI 3), .int (nI 1)] (mS σ V) K := sg154_0 (r_mxL H hw hK (V 1) 0 (by omega))
end REF10
