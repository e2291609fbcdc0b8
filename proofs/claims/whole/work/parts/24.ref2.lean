/-! the reference: who is reached, reasons, the best -/
section REF2
variable {E : AEnv} {σ : ASt} {V : Nat → Nat} {m : Nat} {Q : Option Value → ASt → Prop} {K : Int32 → ASt → Prop} {KV : ASt → Prop}
/-- x stands for the bridge wo (or for none) -/
def woI (x : Int32) (wo : Nat) : Prop := ∀ b, b < 14 → (nI b = x ↔ b = wo)
theorem woI_b {b : Nat} (hb : b < 14) : woI (nI b) b := fun c hc => nI_eq (by omega) (by omega)
theorem woI_n : woI (-1000004 : Int32) 99 := fun b hb => ⟨fun h => by
  exfalso
  have h1 := congrArg Int32.toInt h
  rw [nI_toInt (by omega)] at h1
  have h2 : (-1000004 : Int32).toInt = -1000004 := by decide
  omega, fun h => by omega⟩
theorem woI_m : woI (-1 : Int32) 99 := fun b hb => ⟨fun h => by
  exfalso
  have h1 := congrArg Int32.toInt h
  rw [nI_toInt (by omega)] at h1
  have h2 : (-1 : Int32).toInt = -1 := by decide
  omega, fun h => by omega⟩
theorem WF.b (h : WF m V) {b : Nat} (hb : b < V 2) : V (72 + 8 * b + 0) < 8 ∧ V (72 + 8 * b + 1) < 8 ∧ V (72 + 8 * b + 4) < 2 ^ 31 ∧ V (72 + 8 * b + 3) < 2 ^ 31 := by
  have h3 := h.2.2.1 b hb
  have h1 := h.1
  unfold W1 at h1
  omega
theorem ends_nI (h : WF m V) {b : Nat} (hb : b < V 2) : nI 1 <<< (nI (V (72 + 8 * b + 0)) &&& 31) ||| nI 1 <<< (nI (V (72 + 8 * b + 1)) &&& 31) = nI (endsM V b) := by
  have h1 := h.b hb
  have a1 : 2 ^ V (72 + 8 * b + 0) < 2 ^ 31 := Nat.pow_lt_pow_right (by decide) (by omega)
  have a2 : 2 ^ V (72 + 8 * b + 1) < 2 ^ 31 := Nat.pow_lt_pow_right (by decide) (by omega)
  rw [nI_shl (by omega), nI_shl (by omega), nI_or a1 a2]
  rfl
/-- one growing round, from bridge k on -/
theorem r_round (H : MI σ) (hw : WF m V) {i x a4 : Int32} {wo S : Nat} (hx : woI x wo) (hS : S < 2 ^ 8) (hK : wp E 106 7 [.ref 179, .int i, .int x, .int (nI (gsd V wo S (V 2))), .int a4] [] (mS σ V) Q) :
    ∀ d k : Nat, k + d = V 2 → wp E 106 19 [.ref 179, .int i, .int x, .int (nI (gsd V wo S k)), .int a4, .int (nI k)] [] (mS σ V) Q := by
  have h1 := hw.1
  unfold W1 at h1
  intro d
  induction d with
  | zero =>
    intro k hk
    obtain rfl : k = V 2 := by omega
    refine sg106_19 ⟨shM H, _, rM0 H, 184, shV H, vi (by decide) (by decide), fun _ => hK, fun h => absurd ?_ h⟩
    rw [mS_get (by decide)]
    exact nI_le (Nat.le_refl _) (by omega)
  | succ d ih =>
    intro k hk
    have hk2 : k < V 2 := by omega
    have hb := hw.b hk2
    have hg : gsd V wo S k < 2 ^ 8 := gsd_lt hw.ends hS k (by omega)
    have he := ends_lt hw.ends hk2
    have hor : ∀ T, T < 2 ^ 8 → nI T ||| nI 0 = nI T := fun T hT => by rw [nI_or (by omega) (by decide), Nat.or_zero]
    have next : wp E 106 19 [.ref 179, .int i, .int x, .int (nI (gsd V wo S (k + 1))), .int a4, .int (nI k + nI 1)] [] (mS σ V) Q := by
      rw [nI_add]; exact ih (k + 1) (by omega)
    refine sg106_19 ⟨shM H, _, rM0 H, 184, shV H, vi (by decide) (by decide), fun h => absurd h ?_, fun _ => ⟨shM H, r_of H (by omega) (by decide) ⟨shM H, r_of H (by omega) (by decide) ⟨fun h => ?_, fun h => ⟨shM H, r_isO H (by omega) hb.2.2.1 hb.2.2.2 ⟨fun h2 => ?_, fun h2 => ⟨fun h3 => ?_, fun h3 => ?_⟩⟩⟩⟩⟩⟩⟩
    · rw [mS_get (by decide)]
      exact nI_ge hk2 (by omega)
    · rw [hor _ hg]
      have e : gsd V wo S (k + 1) = gsd V wo S k := by
        rw [gsd, if_neg]
        unfold useB
        rw [beq_iff'.mpr ((hx k (by omega)).mp h)]
        simp
      rw [e] at next; exact next
    · rw [hor _ hg]
      have e : gsd V wo S (k + 1) = gsd V wo S k := by
        rw [gsd, if_neg]
        unfold useB
        rw [(bI_0 _).mp h2]
        simp
      rw [e] at next; exact next
    · rw [hor _ hg]
      rw [ends_nI hw hk2, nI_and (by omega) (by omega)] at h3
      have h4 : gsd V wo S k &&& endsM V k = 0 := (nI_eq (Nat.lt_of_le_of_lt Nat.and_le_left (by omega)) (by decide)).mp h3
      have e : gsd V wo S (k + 1) = gsd V wo S k := by
        rw [gsd, if_neg]
        unfold hit
        rw [h4]
        simp
      rw [e] at next; exact next
    · rw [ends_nI hw hk2, nI_and (by omega) (by omega)] at h3
      rw [ends_nI hw hk2, nI_or (by omega) (by omega)]
      have h4 : gsd V wo S k &&& endsM V k ≠ 0 := fun z => h3 (congrArg nI z)
      have e : gsd V wo S (k + 1) = gsd V wo S k ||| endsM V k := by
        rw [gsd, if_pos]
        unfold useB hit
        have e1 : opn V k = true := by
          cases hq : opn V k with
          | true => rfl
          | false => exact absurd ((bI_0 _).mpr hq) h2
        have e2 : Nat.beq k wo = false := by
          cases hq : Nat.beq k wo with
          | false => rfl
          | true => exact absurd ((hx k (by omega)).mpr (beq_iff'.mp hq)) h
        have e3 : Nat.beq (gsd V wo S k &&& endsM V k) 0 = false := by
          cases hq : Nat.beq (gsd V wo S k &&& endsM V k) 0 with
          | false => rfl
          | true => exact absurd (beq_iff'.mp hq) h4
        rw [e1, e2, e3]; rfl
      rw [e] at next; exact next
theorem r_loop (H : MI σ) (hw : WF m V) {i : Nat} {x : Int32} {wo : Nat} (hi : i < 8) (hx : woI x wo) (hK : Q (some (.int (nI (reachV V i wo)))) (mS σ V)) :
    ∀ (f S : Nat) (a4 : Int32), 256 ≤ f + S → S < 2 ^ 8 → subM (2 ^ i) S → subM S (reachV V i wo) → (a4 = nI S → gsd V wo S (V 2) = S) → wp E 106 7 [.ref 179, .int (nI i), .int x, .int (nI S), .int a4] [] (mS σ V) Q := by
  intro f
  induction f with
  | zero => intro S a4 hf hS; omega
  | succ f ih =>
    intro S a4 hf hS h1 h2 h3
    refine sg106_7 ⟨fun h => ?_, fun h => ?_⟩
    · rw [gsd_is hw.ends hi h1 h2 (h3 h)]
      exact hK
    · have hlt := gsd_lt hw.ends (wo := wo) hS (V 2) (Nat.le_refl _)
      have hge := gsd_ge V wo S (V 2)
      refine r_round H hw hx hS ?_ (V 2) 0 (by omega)
      by_cases he : gsd V wo S (V 2) = S
      · rw [he]
        refine sg106_7 ⟨fun _ => ?_, fun z => absurd rfl z⟩
        rw [gsd_is hw.ends hi h1 h2 he]
        exact hK
      · have hlt2 : S < gsd V wo S (V 2) := Nat.lt_of_le_of_ne (sub_le hge) (fun z => he z.symm)
        refine ih _ _ (by omega) hlt (h1.tr hge) (gsd_le (reach_closed hw.ends hi) h2 _ (Nat.le_refl _)) (fun z => ?_)
        exact absurd ((nI_eq (by omega) (by omega)).mp z).symm he
theorem r_reach (H : MI σ) (hw : WF m V) {i : Nat} {x : Int32} {wo : Nat} (hi : i < 8) (hx : woI x wo) (hK : K (nI (reachV V i wo)) (mS σ V)) : cI E 106 [.ref 179, .int (nI i), .int x] (mS σ V) K := by
  refine sg106_0 ?_
  rw [nI_shl (by omega)]
  have hp : 2 ^ i < 2 ^ 8 := Nat.pow_lt_pow_right (by decide) hi
  refine r_loop H hw hi hx hK 256 (2 ^ i) (nI 0) (Nat.le_add_right 256 _) hp (subM.rf _) (reach_ge V i wo) (fun z => ?_)
  have := (nI_eq (by decide) (by omega)).mp z
  have hpos : 0 < 2 ^ i := Nat.two_pow_pos i
  omega
/-- islands that are cut off without b -/
def cutV (V : Nat → Nat) (b : Nat) : Nat := reachV V 0 99 ^^^ (reachV V 0 99 &&& reachV V 0 b)
theorem r_cut (H : MI σ) (hw : WF m V) {b : Nat} (hb : b < 14) (hK : K (nI (cutV V b)) (mS σ V)) : cI E 107 [.ref 179, .int (nI b)] (mS σ V) K := by
  refine sg107_0 ⟨shM H, r_reach H hw (by decide) woI_n ⟨shM H, r_reach H hw (by decide) (woI_b hb) ?_⟩⟩
  have h1 := reach_lt hw.ends (i := 0) (wo := 99) (by decide)
  have h2 := reach_lt hw.ends (i := 0) (wo := b) (by decide)
  rw [nI_andn (by omega) (by omega)]
  exact hK
theorem cutV_lt (hw : WF m V) (b : Nat) : cutV V b < 2 ^ 8 := by
  have h1 := reach_lt hw.ends (i := 0) (wo := 99) (by decide)
  exact Nat.xor_lt_two_pow h1 (Nat.lt_of_le_of_lt Nat.and_le_left h1)
/-- how many are painted -/
def pcN (V : Nat → Nat) : Nat → Nat
  | 0 => 0
  | n + 1 => pcN V n + V (72 + 8 * n + 4)
def pcV (V : Nat → Nat) : Nat := pcN V (V 2)
theorem pcN_le (hw : WF m V) : ∀ n, n ≤ V 2 → pcN V n ≤ n
  | 0, _ => Nat.le_refl _
  | n + 1, h => by
    have ih := pcN_le hw n (by omega)
    have h3 := hw.2.2.1 n (by omega)
    rw [pcN]
    omega
theorem pcV_le (hw : WF m V) : pcV V ≤ 14 := by
  have := pcN_le hw (V 2) (Nat.le_refl _)
  have h1 := hw.1
  unfold W1 at h1
  unfold pcV
  omega
theorem r_pcL (H : MI σ) (hw : WF m V) (hK : Q (some (.int (nI (pcV V)))) (mS σ V)) : ∀ d k : Nat, k + d = V 2 → wp E 108 4 [.ref 179, .int (nI (pcN V k)), .int (nI k)] [] (mS σ V) Q := by
  have h1 := hw.1
  unfold W1 at h1
  intro d
  induction d with
  | zero =>
    intro k hk
    obtain rfl : k = V 2 := by omega
    refine sg108_4 ⟨shM H, _, rM0 H, 184, shV H, vi (by decide) (by decide), fun _ => hK, fun h => absurd ?_ h⟩
    rw [mS_get (by decide)]
    exact nI_le (Nat.le_refl _) (by omega)
  | succ d ih =>
    intro k hk
    refine sg108_4 ⟨shM H, _, rM0 H, 184, shV H, vi (by decide) (by decide), fun h => absurd h ?_, fun _ => ⟨shM H, r_of H (by omega) (by decide) ?_⟩⟩
    · rw [mS_get (by decide)]
      exact nI_ge (by omega) (by omega)
    · rw [nI_add, nI_add]
      exact ih (k + 1) (by omega)
theorem r_pc (H : MI σ) (hw : WF m V) (hK : K (nI (pcV V)) (mS σ V)) : cI E 108 [.ref 179] (mS σ V) K := sg108_0 (r_pcL H hw hK (V 2) 0 (by omega))
def rsn (V : Nat → Nat) (b : Nat) : Nat := if pntd V b = true then 1 else if V (72 + 8 * b + 3) = 100 then 2 else if V 3 ≤ pcV V then 3 else if cutV V b = 0 then 0 else 4
theorem r_rsn (H : MI σ) (hw : WF m V) {b : Nat} (hb : b < V 2) (hK : K (nI (rsn V b)) (mS σ V)) : cI E 109 [.ref 179, .int (nI b)] (mS σ V) K := by
  have h1 := hw.1
  unfold W1 at h1
  have h2 := hw.2.1
  unfold W2 at h2
  have hbb := hw.b hb
  have hc := cutV_lt hw b
  have hp := pcV_le hw
  refine sg109_0 ⟨shM H, r_isP H (by omega) hbb.2.2.1 ⟨fun h => ⟨shM H, r_of H (by omega) (by decide) ⟨fun h3 => ⟨shM H, r_pc H hw ⟨shM H, _, rM0 H, 184, shV H, vi (by decide) (by decide), fun h4 => ⟨shM H, r_cut H hw (by omega) ⟨fun h5 => ?_, fun h5 => ?_⟩⟩, fun h4 => ?_⟩⟩, fun h3 => ?_⟩⟩, fun h => ?_⟩⟩
  · rw [mS_get (by decide), nI_ltI (by omega) (by omega)] at h4
    have e : rsn V b = 0 := by
      unfold rsn
      rw [if_neg (by rw [(bI_0 _).mp h]; decide), if_neg (fun z => h3 (congrArg nI z)), if_neg (by omega), if_pos ((nI_eq (by omega) (by decide)).mp h5)]
    rw [e] at hK; exact hK
  · rw [mS_get (by decide), nI_ltI (by omega) (by omega)] at h4
    have e : rsn V b = 4 := by
      unfold rsn
      rw [if_neg (by rw [(bI_0 _).mp h]; decide), if_neg (fun z => h3 (congrArg nI z)), if_neg (by omega), if_neg (fun z => h5 (congrArg nI z))]
    rw [e] at hK; exact hK
  · rw [mS_get (by decide), nI_ltI (by omega) (by omega)] at h4
    have e : rsn V b = 3 := by
      unfold rsn
      rw [if_neg (by rw [(bI_0 _).mp h]; decide), if_neg (fun z => h3 (congrArg nI z)), if_pos (by omega)]
    rw [e] at hK; exact hK
  · have e : rsn V b = 2 := by
      unfold rsn
      rw [if_neg (by rw [(bI_0 _).mp h]; decide), if_pos ((nI_eq hbb.2.2.2 (by decide)).mp (Classical.not_not.mp h3))]
    rw [e] at hK; exact hK
  · have e : rsn V b = 1 := by
      unfold rsn
      rw [if_pos]
      cases hq : pntd V b with
      | true => rfl
      | false => exact absurd ((bI_0 _).mpr hq) h
    rw [e] at hK; exact hK
/-- the best among the first n: a bridge, or 99 -/
def bsN (V : Nat → Nat) : Nat → Nat
  | 0 => 99
  | n + 1 => if V (72 + 8 * n + 3) ≤ V 10 ∧ rsn V n = 0 ∧ (bsN V n = 99 ∨ V (72 + 8 * n + 3) < V (72 + 8 * bsN V n + 3)) then n else bsN V n
def bsV (V : Nat → Nat) : Nat := bsN V (V 2)
/-- as the int that tells it -/
def bsI (b : Nat) : Int32 := if b = 99 then (-1000004 : Int32) else nI b
theorem bsN_lt (V : Nat → Nat) : ∀ n, bsN V n = 99 ∨ bsN V n < n
  | 0 => Or.inl rfl
  | n + 1 => by
    rw [bsN]
    split
    · right; omega
    · rcases bsN_lt V n with h | h
      · exact Or.inl h
      · right; omega
theorem bsI_neg {b : Nat} (hb : b = 99 ∨ b < 14) : bsI b < nI 0 ↔ b = 99 := by
  rcases hb with rfl | hb
  · exact ⟨fun _ => rfl, fun _ => by decide⟩
  · unfold bsI
    rw [if_neg (by omega), nI_ltI (by omega) (by decide)]
    omega
theorem rsn_lt (V : Nat → Nat) (b : Nat) : rsn V b < 5 := by
  unfold rsn
  repeat' split
  all_goals decide
theorem r_bsL (H : MI σ) (hw : WF m V) (hK : Q (some (.int (bsI (bsV V)))) (mS σ V)) : ∀ d k : Nat, k + d = V 2 → wp E 110 5 [.ref 179, .int (bsI (bsN V k)), .int (nI k)] [] (mS σ V) Q := by
  have h1 := hw.1
  unfold W1 at h1
  have h2 := hw.2.1
  unfold W2 at h2
  intro d
  induction d with
  | zero =>
    intro k hk
    obtain rfl : k = V 2 := by omega
    refine sg110_5 ⟨shM H, _, rM0 H, 184, shV H, vi (by decide) (by decide), fun _ => hK, fun h => absurd ?_ h⟩
    rw [mS_get (by decide)]
    exact nI_le (Nat.le_refl _) (by omega)
  | succ d ih =>
    intro k hk
    have hk2 : k < V 2 := by omega
    have hbb := hw.b hk2
    have hlt := bsN_lt V k
    have hr5 := rsn_lt V k
    have next : wp E 110 5 [.ref 179, .int (bsI (bsN V (k + 1))), .int (nI k + nI 1)] [] (mS σ V) Q := by
      rw [nI_add]; exact ih (k + 1) (by omega)
    have keep : bsN V (k + 1) = bsN V k → wp E 110 5 [.ref 179, .int (bsI (bsN V k)), .int (nI k + nI 1)] [] (mS σ V) Q := fun e => by rw [e] at next; exact next
    have take : bsN V (k + 1) = k → wp E 110 5 [.ref 179, .int (nI k), .int (nI k + nI 1)] [] (mS σ V) Q := fun e => by
      rw [e] at next
      unfold bsI at next
      rw [if_neg (by omega)] at next
      exact next
    refine sg110_5 ⟨shM H, _, rM0 H, 184, shV H, vi (by decide) (by decide), fun h => absurd h ?_, fun _ => ⟨shM H, r_of H (by omega) (by decide) ⟨shM H, _, rM0 H, 184, shV H, vi (by decide) (by decide), fun h3 => ⟨fun _ => keep ?_, fun z => absurd rfl z⟩, fun h3 => ⟨shM H, r_rsn H hw hk2 ⟨fun h4 => ⟨fun _ => keep ?_, fun z => absurd rfl z⟩, fun h4 => ⟨fun z => absurd z (by decide), fun _ => ⟨fun h5 => take ?_, fun h5 => ⟨shM H, r_of H (by omega) (by decide) ⟨shM H, ?_⟩⟩⟩⟩⟩⟩⟩⟩⟩
    · rw [mS_get (by decide)]
      exact nI_ge hk2 (by omega)
    · rw [mS_get (by decide), nI_ltI (by omega) (by omega)] at h3
      rw [bsN, if_neg (by omega)]
    · have h4 : rsn V k ≠ 0 := fun z => h4 (congrArg nI z)
      rw [bsN, if_neg (fun z => h4 z.2.1)]
    · rw [mS_get (by decide), nI_ltI (by omega) (by omega)] at h3
      have h4 : rsn V k = 0 := (nI_eq (by omega) (by decide)).mp (Classical.not_not.mp h4)
      rw [bsN, if_pos ⟨by omega, h4, Or.inl ((bsI_neg (by omega)).mp h5)⟩]
    · rw [mS_get (by decide), nI_ltI (by omega) (by omega)] at h3
      have h4 : rsn V k = 0 := (nI_eq (by omega) (by decide)).mp (Classical.not_not.mp h4)
      have h99 : bsN V k ≠ 99 := fun z => h5 ((bsI_neg (by omega)).mpr z)
      have hb2 : bsN V k < k := by omega
      have hbb2 := hw.b (b := bsN V k) (by omega)
      have e : bsI (bsN V k) = nI (bsN V k) := if_neg h99
      rw [e] at keep ⊢
      refine r_of H (by omega) (by decide) ⟨fun h6 => keep ?_, fun h6 => take ?_⟩
      · rw [nI_leI hbb2.2.2.2 hbb.2.2.2] at h6
        rw [bsN, if_neg (by omega)]
      · rw [nI_leI hbb2.2.2.2 hbb.2.2.2] at h6
        rw [bsN, if_pos ⟨by omega, h4, Or.inr (by omega)⟩]
theorem r_bs (H : MI σ) (hw : WF m V) (hK : K (bsI (bsV V)) (mS σ V)) : cI E 110 [.ref 179] (mS σ V) K := sg110_0 (r_bsL H hw hK (V 2) 0 (by omega))
end REF2
