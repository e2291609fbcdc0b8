/-! the reference's questions -/
section REF8
variable {E : AEnv} {σ : ASt} {V : Nat → Nat} {m : Nat} {Q : Option Value → ASt → Prop} {K : Int32 → ASt → Prop} {KV : ASt → Prop}
theorem nI_or0 {a : Nat} (h : a < 2 ^ 31) : nI a ||| nI 0 = nI a := by rw [nI_or h (by decide), Nat.or_zero]
theorem bt_0 {R i : Nat} (hR : R < 2 ^ 31) (hi : i < 32) : (nI R >>> (nI i &&& 31)) &&& nI 1 = nI 0 ↔ bt R i = false := by rw [bt_i hR hi]; exact bI_0 _
theorem bt_1 {R i : Nat} (hR : R < 2 ^ 31) (hi : i < 32) : (nI R >>> (nI i &&& 31)) &&& nI 1 = nI 1 ↔ bt R i = true := by
  rw [bt_i hR hi]
  cases bt R i <;> simp [bI] <;> decide
theorem bt_tb {R i : Nat} : bt R i = R.testBit i := by
  unfold bt
  rw [Nat.testBit_eq_decide_div_mod_eq, Bool.eq_iff_iff, beq_iff', decide_eq_true_iff]
/-- ended at head: the islands or bridges are through -/
theorem end_i {c k : Nat} (h : k = V c) (hc : c < 184) : gI (mS σ V) 180 c = nI k := by rw [mS_get hc, h]
def oaN (V : Nat → Nat) (i : Nat) : Nat → Nat
  | 0 => 0
  | n + 1 => oaN V i n + (if opn V n = true ∧ (V (72 + 8 * n + 0) = i ∨ V (72 + 8 * n + 1) = i) then 1 else 0)
theorem r_oaL (H : MI σ) (hw : WF m V) {i : Nat} (hi : i < 8) (hK : Q (some (.int (nI (oaN V i (V 2))))) (mS σ V)) : ∀ d k : Nat, k + d = V 2 → wp E 138 4 [.ref 179, .int (nI i), .int (nI (oaN V i k)), .int (nI k)] [] (mS σ V) Q := by
  have h1 := hw.1
  unfold W1 at h1
  intro d
  induction d with
  | zero =>
    intro k hk
    obtain rfl : k = V 2 := by omega
    refine sg138_4 ⟨shM H, _, rM0 H, 184, shV H, vi (by decide) (by decide), fun _ => hK, fun h => absurd ?_ h⟩
    rw [mS_get (by decide)]
    exact nI_le (Nat.le_refl _) (by omega)
  | succ d ih =>
    intro k hk
    have hb := hw.b (b := k) (by omega)
    have nx := ih (k + 1) (by omega)
    rw [oaN] at nx
    have e0 := nI_eq (a := V (72 + 8 * k + 0)) (b := i) (by omega) (by omega)
    have e1 := nI_eq (a := V (72 + 8 * k + 1)) (b := i) (by omega) (by omega)
    refine sg138_4 ⟨shM H, _, rM0 H, 184, shV H, vi (by decide) (by decide), fun h => absurd h ?_, fun _ => ⟨shM H, r_isO H (by omega) hb.2.2.1 hb.2.2.2 ⟨fun h => ?_, fun h => ⟨shM H, r_of H (by omega) (by decide) ⟨fun h2 => ?_, fun h2 => ⟨shM H, r_of H (by omega) (by decide) ⟨fun h3 => ?_, fun h3 => ?_⟩⟩⟩⟩⟩⟩⟩
    · rw [mS_get (by decide)]
      exact nI_ge (by omega) (by omega)
    · rw [if_neg (fun z => bI_3 h z.1)] at nx
      rw [nI_add, nI_add]; exact nx
    · rw [if_pos ⟨bI_1 h, Or.inl (e0.mp h2)⟩] at nx
      rw [nI_add, nI_add]; exact nx
    · rw [if_neg (fun z => z.2.elim (fun y => h2 (e0.mpr y)) (fun y => h3 (e1.mpr y)))] at nx
      rw [nI_add, nI_add]; exact nx
    · rw [if_pos ⟨bI_1 h, Or.inr (e1.mp (Classical.not_not.mp h3))⟩] at nx
      rw [nI_add, nI_add]; exact nx
theorem r_oa (H : MI σ) (hw : WF m V) {i : Nat} (hi : i < 8) (hK : K (nI (oaN V i (V 2))) (mS σ V)) : cI E 138 [.ref 179, .int (nI i)] (mS σ V) K := sg138_0 (r_oaL H hw hi hK (V 2) 0 (by omega))
/-- the fewest bridges, within d more rounds -/
def fwD (V : Nat → Nat) (i : Nat) : Nat → Nat → Nat → Int32
  | 0, S, k => if bt S i = true then nI k else (-1000004 : Int32)
  | d + 1, S, k => if bt S i = true then nI k else fwD V i d (jac V 99 S (V 2)) (k + 1)
theorem r_fwJ (H : MI σ) (hw : WF m V) {i S k3 : Nat} (hS : S < 2 ^ 8) (hK : wp E 139 4 [.ref 179, .int (nI i), .int (nI (jac V 99 S (V 2))), .int (nI k3 + nI 1)] [] (mS σ V) Q) :
    ∀ d k : Nat, k + d = V 2 → wp E 139 24 [.ref 179, .int (nI i), .int (nI S), .int (nI k3), .int (nI (jac V 99 S k)), .int (nI k)] [] (mS σ V) Q := by
  have h1 := hw.1
  unfold W1 at h1
  intro d
  induction d with
  | zero =>
    intro k hk
    obtain rfl : k = V 2 := by omega
    refine sg139_24 ⟨shM H, _, rM0 H, 184, shV H, vi (by decide) (by decide), fun _ => hK, fun h => absurd ?_ h⟩
    rw [mS_get (by decide)]
    exact nI_le (Nat.le_refl _) (by omega)
  | succ d ih =>
    intro k hk
    have hb := hw.b (b := k) (by omega)
    have nx := ih (k + 1) (by omega)
    have hj := jac_lt hw.ends (wo := 99) hS k (by omega)
    have he := ends_lt hw.ends (b := k) (by omega)
    refine sg139_24 ⟨shM H, _, rM0 H, 184, shV H, vi (by decide) (by decide), fun h => absurd h ?_, fun _ => ⟨shM H, r_of H (by omega) (by decide) ⟨shM H, r_of H (by omega) (by decide) ⟨shM H, r_isO H (by omega) hb.2.2.1 hb.2.2.2 ⟨fun h => ?_, fun h => ?_⟩⟩⟩⟩⟩
    · rw [mS_get (by decide)]
      exact nI_ge (by omega) (by omega)
    · have e : jac V 99 S (k + 1) = jac V 99 S k := by
        rw [jac, if_neg]
        unfold useB
        rw [(bI_0 _).mp h]
        simp
      rw [e] at nx
      rw [nI_or0 (by omega), nI_add]; exact nx
    · rw [ends_nI hw (by omega), nI_and (by omega) (by omega)]
      have e1 : useB V 99 k = true := by
        unfold useB
        rw [bI_1 h]
        have : Nat.beq k 99 = false := by
          cases hq : Nat.beq k 99 with
          | false => rfl
          | true => exact absurd (beq_iff'.mp hq) (by omega)
        rw [this]; rfl
      refine ⟨fun h3 => ?_, fun h3 => ?_⟩
      · have h4 : S &&& endsM V k = 0 := (nI_eq (Nat.lt_of_le_of_lt Nat.and_le_left (by omega)) (by decide)).mp h3
        have e : jac V 99 S (k + 1) = jac V 99 S k := by
          rw [jac, if_neg]
          unfold hit
          rw [h4]
          simp
        rw [e] at nx
        rw [nI_or0 (by omega), nI_add]; exact nx
      · have h4 : S &&& endsM V k ≠ 0 := fun z => h3 (congrArg nI z)
        have e : jac V 99 S (k + 1) = jac V 99 S k ||| endsM V k := by
          rw [jac, if_pos]
          have e3 : Nat.beq (S &&& endsM V k) 0 = false := by
            cases hq : Nat.beq (S &&& endsM V k) 0 with
            | false => rfl
            | true => exact absurd (beq_iff'.mp hq) h4
          unfold hit
          rw [e1, e3]; rfl
        rw [e] at nx
        rw [nI_or (by omega) (by omega), nI_add]; exact nx
theorem r_fwL (H : MI σ) (hw : WF m V) {i : Nat} (hi : i < 8) : ∀ d k S : Nat, k + d = 8 → S < 2 ^ 8 → Q (some (.int (fwD V i d S k))) (mS σ V) → wp E 139 4 [.ref 179, .int (nI i), .int (nI S), .int (nI k)] [] (mS σ V) Q := by
  intro d
  induction d with
  | zero =>
    intro k S hk hS hK
    have b0 := bt_0 (R := S) (i := i) (by omega) (by omega)
    have b1 := bt_1 (R := S) (i := i) (by omega) (by omega)
    rw [fwD] at hK
    refine sg139_4 ⟨fun h => ⟨fun h2 => ?_, fun h2 => ?_⟩, fun h => ⟨fun _ => ⟨fun h2 => ?_, fun h2 => ?_⟩, fun h2 => absurd (nI_le (by omega) (by omega)) h2⟩⟩
    · rw [if_neg (fun z => h2 (b1.mpr z))] at hK
      exact hK
    · rw [if_pos (b1.mp (Classical.not_not.mp h2))] at hK
      exact hK
    · rw [if_neg (fun z => h2 (b1.mpr z))] at hK
      exact hK
    · rw [if_pos (b1.mp (Classical.not_not.mp h2))] at hK
      exact hK
  | succ d ih =>
    intro k S hk hS hK
    have b0 := bt_0 (R := S) (i := i) (by omega) (by omega)
    have b1 := bt_1 (R := S) (i := i) (by omega) (by omega)
    rw [fwD] at hK
    refine sg139_4 ⟨fun h => ⟨fun h2 => ?_, fun h2 => ?_⟩, fun h => ⟨fun h2 => absurd h2 (nI_ge (by omega) (by omega)), fun _ => r_fwJ H hw hS ?_ (V 2) 0 (by omega)⟩⟩
    · cases hq : bt S i with
      | true => exact absurd (b1.mpr hq) h2
      | false => exact absurd (b0.mpr hq) h
    · rw [if_pos (b1.mp (Classical.not_not.mp h2))] at hK
      exact hK
    · rw [if_neg (by rw [b0.mp (Classical.not_not.mp h)]; decide)] at hK
      rw [nI_add]
      exact ih (k + 1) _ (by omega) (jac_lt hw.ends hS _ (Nat.le_refl _)) hK
theorem r_fw (H : MI σ) (hw : WF m V) {i : Nat} (hi : i < 8) (hK : K (fwD V i 8 1 0) (mS σ V)) : cI E 139 [.ref 179, .int (nI i)] (mS σ V) K := sg139_0 (r_fwL H hw hi 8 0 1 (by omega) (by decide) hK)
end REF8
