/-! the component's sums; the lowest of a set -/
section COM6
variable {E : AEnv} {σ τ : ASt} {B : Nat} {U : Nat → Nat → Int32} {V : Nat → Nat} {m n t : Nat} {Q : Option Value → ASt → Prop} {K : Int32 → ASt → Prop} {KV : ASt → Prop}
def ctN (V : Nat → Nat) : Nat → Nat
  | 0 => 0
  | n + 1 => ctN V n + V (72 + 8 * n + 3)
theorem c_ctL (H : MI σ) (hB : isB B) (hw : WF m V) (R : Rel U V) (hK : Q (some (.int (nI (ctN V (V 2))))) (bS σ B U)) : ∀ d k : Nat, k + d = V 2 → wp E 47 4 [.ref B, .int (nI (ctN V k)), .int (nI k)] [] (bS σ B U) Q := by
  have h1 := hw.1
  unfold W1 at h1
  intro d
  induction d with
  | zero =>
    intro k hk
    obtain rfl : k = V 2 := by omega
    refine sg47_4 ⟨shS H hB, fun _ => hK, fun h => absurd ?_ h⟩
    rw [bS_get0, R.1.2.1]
    exact nI_le (Nat.le_refl _) (by omega)
  | succ d ih =>
    intro k hk
    have nx := ih (k + 1) (by omega)
    have rb := R.2.2.2.2 k (by omega)
    refine sg47_4 ⟨shS H hB, fun h => absurd h ?_, fun _ => ⟨shS H hB, _, rS1 H hB, 14, _, shBA H hB, vi (by omega) (by omega), rBAc H hB (by omega), shB H hB (by omega), ?_⟩⟩
    · rw [bS_get0, R.1.2.1]
      exact nI_ge (by omega) (by omega)
    · rw [gB (by omega), rb.2.2.2.2.1, nI_add, nI_add]
      exact nx
theorem c_ct (H : MI σ) (hB : isB B) (hw : WF m V) (R : Rel U V) (hK : K (nI (ctN V (V 2))) (bS σ B U)) : cI E 47 [.ref B] (bS σ B U) K := sg47_0 (c_ctL H hB hw R hK (V 2) 0 (by omega))
theorem c_smL (H : MI σ) (hB : isB B) (hw : WF m V) (R : Rel U V) (hK : Q (some (.int (nI (smN V 2 (V 1))))) (bS σ B U)) : ∀ d k : Nat, k + d = V 1 → wp E 48 4 [.ref B, .int (nI (smN V 2 k)), .int (nI k)] [] (bS σ B U) Q := by
  have h1 := hw.1
  unfold W1 at h1
  intro d
  induction d with
  | zero =>
    intro k hk
    obtain rfl : k = V 1 := by omega
    refine sg48_4 ⟨shS H hB, fun _ => hK, fun h => absurd ?_ h⟩
    rw [bS_get0, R.1.1]
    exact nI_le (Nat.le_refl _) (by omega)
  | succ d ih =>
    intro k hk
    have nx := ih (k + 1) (by omega)
    have ri := R.2.2.2.1 k (by omega)
    refine sg48_4 ⟨shS H hB, fun h => absurd h ?_, fun _ => ⟨shS H hB, _, rS0 H hB, 8, _, shIA H hB, vi (by omega) (by omega), rIAc H hB (by omega), shI H hB (by omega), ?_⟩⟩
    · rw [bS_get0, R.1.1]
      exact nI_ge (by omega) (by omega)
    · rw [gIl (by omega), ri.2.2.2.1, nI_add, nI_add]
      exact nx
theorem c_sm (H : MI σ) (hB : isB B) (hw : WF m V) (R : Rel U V) (hK : K (nI (smN V 2 (V 1))) (bS σ B U)) : cI E 48 [.ref B] (bS σ B U) K := sg48_0 (c_smL H hB hw R hK (V 1) 0 (by omega))
theorem c_mxL (H : MI σ) (hB : isB B) (hw : WF m V) (R : Rel U V) (hK : Q (some (.int (nI (mxN V 3 (V 1))))) (bS σ B U)) : ∀ d k : Nat, k + d = V 1 → wp E 49 4 [.ref B, .int (nI (mxN V 3 k)), .int (nI k)] [] (bS σ B U) Q := by
  have h1 := hw.1
  unfold W1 at h1
  have h5 := hw.2.2.2.2
  unfold W5 at h5
  intro d
  induction d with
  | zero =>
    intro k hk
    obtain rfl : k = V 1 := by omega
    refine sg49_4 ⟨shS H hB, fun _ => hK, fun h => absurd ?_ h⟩
    rw [bS_get0, R.1.1]
    exact nI_le (Nat.le_refl _) (by omega)
  | succ d ih =>
    intro k hk
    have nx := ih (k + 1) (by omega)
    have ri := R.2.2.2.1 k (by omega)
    have hx := mx_lt hw k (by omega)
    have h4 := hw.2.2.2.1 k (by omega)
    have e := nI_ltI (a := mxN V 3 k) (b := V (32 + 5 * k + 3)) (by omega) (by omega)
    rw [mxN] at nx
    refine sg49_4 ⟨shS H hB, fun h => absurd h ?_, fun _ => ⟨shS H hB, _, rS0 H hB, 8, _, shIA H hB, vi (by omega) (by omega), rIAc H hB (by omega), shI H hB (by omega), ?_⟩⟩
    · rw [bS_get0, R.1.1]
      exact nI_ge (by omega) (by omega)
    · rw [gIl (by omega), ri.2.2.1, nI_add]
      refine c_max (fun g => ?_) fun g => ?_
      · rw [if_neg (by have := e.mp g; omega)] at nx
        exact nx
      · rw [if_pos (by have : ¬ mxN V 3 k < V (32 + 5 * k + 3) := fun z => g (e.mpr z)
                       omega)] at nx
        exact nx
theorem c_mx (H : MI σ) (hB : isB B) (hw : WF m V) (R : Rel U V) (hK : K (nI (mxN V 3 (V 1))) (bS σ B U)) : cI E 49 [.ref B] (bS σ B U) K := sg49_0 (c_mxL H hB hw R hK (V 1) 0 (by omega))
def tzX (S : Nat) : Nat := (S - 1) ^^^ ((S - 1) &&& S)
def tzN (X : Nat) : Nat := if 0 < X then (if X ≤ 16 then (if X ≤ 4 then 1 + X / 2 ^ 1 else 1 + 2 + X / 2 ^ 2 / 2 ^ 1) else (if X / 2 ^ 4 ≤ 4 then 1 + 4 + X / 2 ^ 4 / 2 ^ 1 else 1 + 4 + 2 + X / 2 ^ 4 / 2 ^ 2 / 2 ^ 1)) else 0
theorem tz_all : (List.range 256).all (fun S => Nat.beq S 0 || (Nat.blt (tzX S) 256 && Nat.beq (tzN (tzX S)) (low S))) = true := by decide +kernel
theorem c_tz {s : ASt} {S : Nat} (h0 : 0 < S) (hS : S < 256) (hK : K (nI (low S)) s) : cI E 91 [.int (nI S)] s K := by
  have hz := List.all_eq_true.mp tz_all S (List.mem_range.mpr hS)
  rw [Bool.or_eq_true, Bool.and_eq_true, beq_iff', beq_iff', Nat.blt_eq] at hz
  obtain ⟨hx, ht⟩ : tzX S < 256 ∧ tzN (tzX S) = low S := by
    rcases hz with hz | hz
    · omega
    · exact hz
  rw [← ht] at hK
  unfold tzN at hK
  have e : (nI S ^^^ (-1 : Int32)) &&& (nI S - nI 1) = nI (tzX S) := by
    rw [pk_sub (by omega), Int32.and_comm]
    exact nI_andn (by omega) (by omega)
  refine sg91_0 ?_
  rw [e]
  generalize tzX S = X at hx hK ⊢
  have u : ∀ (x k : Nat), x < 2 ^ 31 → k < 31 → ((nI x).toUInt32 >>> ((nI k).toUInt32 &&& Int32.toUInt32 31)).toInt32 = nI (x / 2 ^ k) := fun x k hx hk => ush hx hk
  rw [u X 1 (by omega) (by decide), u X 2 (by omega) (by decide), u X 4 (by omega) (by decide), u (X / 2 ^ 2) 1 (by omega) (by decide), u (X / 2 ^ 4) 1 (by omega) (by decide), u (X / 2 ^ 4) 2 (by omega) (by decide), u (X / 2 ^ 4 / 2 ^ 2) 1 (by omega) (by decide)]
  have l0 := nI_ltI (a := 0) (b := X) (by decide) (by omega)
  have l4 := nI_leI (a := X) (b := 4) (by omega) (by decide)
  have l16 := nI_leI (a := X) (b := 16) (by omega) (by decide)
  have l44 := nI_leI (a := X / 2 ^ 4) (b := 4) (by omega) (by decide)
  refine ⟨fun g => ⟨fun _ => ⟨fun _ => ⟨fun g2 => ⟨fun g3 => ?_, fun g3 => ?_⟩, fun g2 => ⟨fun g3 => ?_, fun g3 => ?_⟩⟩, fun z => absurd (nI_le (by omega) (by decide)) z⟩, fun z => absurd (nI_le (by omega) (by decide)) z⟩, fun g => ?_⟩
  · rw [if_pos (l0.mp g), if_pos (l16.mp g2), if_pos (l4.mp g3)] at hK
    rw [nI_add]; exact hK
  · rw [if_pos (l0.mp g), if_pos (l16.mp g2), if_neg (fun z => g3 (l4.mpr z))] at hK
    rw [nI_add, nI_add]; exact hK
  · rw [if_pos (l0.mp g), if_neg (fun z => g2 (l16.mpr z)), if_pos (l44.mp g3)] at hK
    rw [nI_add, nI_add]; exact hK
  · rw [if_pos (l0.mp g), if_neg (fun z => g2 (l16.mpr z)), if_neg (fun z => g3 (l44.mpr z))] at hK
    rw [nI_add, nI_add, nI_add]; exact hK
  · have hX : X = 0 := by
      have : ¬ 0 < X := fun z => g (l0.mpr z)
      omega
    rw [if_neg (by omega)] at hK
    rw [hX]
    exact hK
theorem c_lo {s : ASt} {S : Nat} (h0 : 0 < S) (hS : S < 256) (hK : K (nI (low S)) s) : cI E 89 [.int (nI S)] s K := sg89_0 (c_tz h0 hS hK)
end COM6
