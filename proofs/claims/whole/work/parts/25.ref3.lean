/-! the reference's changes -/
section REF3
variable {E : AEnv} {σ : ASt} {V : Nat → Nat} {m : Nat} {Q : Option Value → ASt → Prop} {K : Int32 → ASt → Prop} {KV : ASt → Prop}
theorem ff : ¬ (false = true) := by decide
theorem nI_subT {a b : Nat} (ha : a < 2 ^ 31) (hb : b < 2 ^ 31) (h : nI 0 ≤ nI a - nI b) : b ≤ a := by
  rw [Int32.le_iff_toInt_le, nI_toInt (by decide), Int32.toInt_sub, nI_toInt ha, nI_toInt hb, Int.bmod_def] at h
  split at h <;> omega
def zI (V : Nat → Nat) (i : Nat) : Nat → (Nat → Nat)
  | 0 => V
  | n + 1 => upN (zI V i n) (32 + 5 * i + n) 0
theorem zI_o {i j : Nat} : ∀ n, (j < 32 + 5 * i ∨ 32 + 5 * i + n ≤ j) → zI V i n j = V j
  | 0, _ => rfl
  | n + 1, h => by rw [zI, upN_n (by omega)]; exact zI_o n (by omega)
theorem zI_z {i j : Nat} : ∀ n, 32 + 5 * i ≤ j → j < 32 + 5 * i + n → zI V i n j = 0
  | 0, _, _ => by omega
  | n + 1, h1, h2 => by
    rw [zI]
    by_cases hj : j = 32 + 5 * i + n
    · rw [hj, upN_s]
    · rw [upN_n hj]; exact zI_z n h1 (by omega)
def zB (V : Nat → Nat) (i : Nat) : Nat → (Nat → Nat)
  | 0 => V
  | n + 1 => upN (zB V i n) (72 + 8 * i + n) 0
theorem zB_o {i j : Nat} : ∀ n, (j < 72 + 8 * i ∨ 72 + 8 * i + n ≤ j) → zB V i n j = V j
  | 0, _ => rfl
  | n + 1, h => by rw [zB, upN_n (by omega)]; exact zB_o n (by omega)
theorem zB_z {i j : Nat} : ∀ n, 72 + 8 * i ≤ j → j < 72 + 8 * i + n → zB V i n j = 0
  | 0, _, _ => by omega
  | n + 1, h1, h2 => by
    rw [zB]
    by_cases hj : j = 72 + 8 * i + n
    · rw [hj, upN_s]
    · rw [upN_n hj]; exact zB_z n h1 (by omega)
def dIsl (V : Nat → Nat) (f : Nat) : Nat → Nat := upN (upN (zI V (V 1) 5) (32 + 5 * V 1 + 0) f) 1 (V 1 + 1)
def dBrg (V : Nat → Nat) (o t w : Nat) : Nat → Nat := upN (upN (upN (upN (upN (zB V (V 2) 8) (72 + 8 * V 2 + 0) o) (72 + 8 * V 2 + 1) t) (72 + 8 * V 2 + 2) w) (72 + 8 * V 2 + 3) 100) 2 (V 2 + 1)
def dSnd (V : Nat → Nat) (b : Nat) : Nat → Nat := upN (upN V (72 + 8 * b + 4) 1) (72 + 8 * b + 5) (V (72 + 8 * b + 5) + 1)
def dRec (V : Nat → Nat) (b : Nat) : Nat → Nat := upN V (72 + 8 * b + 4) 0
def dPay (V : Nat → Nat) (c : Nat) : Nat → Nat := upN (upN V 11 (V 11 + c)) 14 (V 14 + c)
theorem r_goIL (H : MI σ) (h1 : V 1 < 8) {f : Nat} (hK : Q (some (.int (nI (V 1)))) (mS σ (dIsl V f))) :
    ∀ d k : Nat, k + d = 5 → wp E 111 9 [.ref 179, .int (nI f), .int (nI (V 1)), .int (nI k)] [] (mS σ (zI V (V 1) k)) Q := by
  intro d
  induction d with
  | zero =>
    intro k hk
    obtain rfl : k = 5 := by omega
    refine sg111_9 ⟨fun _ => ⟨shM H, r_laysI H h1 (by decide) ⟨shM H, _, rM0 H, 184, shV H, vi (by decide) (by decide), 184, shV H, vi (by decide) (by decide), ?_⟩⟩, fun h => absurd (nI_le (Nat.le_refl _) (by decide)) h⟩
    rw [mS_get (by decide), nI_add, upN_n (by omega), zI_o 5 (by omega)]
    exact nw_e (mS_put (by decide)) hK
  | succ d ih =>
    intro k hk
    refine sg111_9 ⟨fun h => absurd h (nI_ge (by omega) (by omega)), fun _ => ⟨shM H, r_laysI H h1 (by omega) ?_⟩⟩
    rw [nI_add]
    exact ih (k + 1) (by omega)
theorem r_goI (H : MI σ) (h1 : V 1 < 8) {f : Nat} (hK : K (nI (V 1)) (mS σ (dIsl V f))) : cI E 111 [.ref 179, .int (nI f)] (mS σ V) K := by
  refine sg111_0 ⟨shM H, _, rM0 H, 184, shV H, vi (by decide) (by decide), ?_⟩
  rw [mS_get (by decide)]
  exact r_goIL H h1 hK 5 0 (by omega)
theorem r_goBL (H : MI σ) (h1 : V 2 < 14) {o t w : Nat} (hK : Q (some (.int (nI (V 2)))) (mS σ (dBrg V o t w))) :
    ∀ d k : Nat, k + d = 8 → wp E 112 11 [.ref 179, .int (nI o), .int (nI t), .int (nI w), .int (nI (V 2)), .int (nI k)] [] (mS σ (zB V (V 2) k)) Q := by
  intro d
  induction d with
  | zero =>
    intro k hk
    obtain rfl : k = 8 := by omega
    refine sg112_11 ⟨fun _ => ⟨shM H, r_lays H h1 (by decide) ⟨shM H, r_lays H h1 (by decide) ⟨shM H, r_lays H h1 (by decide) ⟨shM H, r_lays H h1 (by decide) ⟨shM H, _, rM0 H, 184, shV H, vi (by decide) (by decide), 184, shV H, vi (by decide) (by decide), ?_⟩⟩⟩⟩⟩, fun h => absurd (nI_le (Nat.le_refl _) (by decide)) h⟩
    rw [mS_get (by decide), nI_add, upN_n (by omega), upN_n (by omega), upN_n (by omega), upN_n (by omega), zB_o 8 (by omega)]
    exact nw_e (mS_put (by decide)) hK
  | succ d ih =>
    intro k hk
    refine sg112_11 ⟨fun h => absurd h (nI_ge (by omega) (by omega)), fun _ => ⟨shM H, r_lays H h1 (by omega) ?_⟩⟩
    rw [nI_add]
    exact ih (k + 1) (by omega)
theorem r_goB (H : MI σ) (h1 : V 2 < 14) {o t w : Nat} (hK : K (nI (V 2)) (mS σ (dBrg V o t w))) : cI E 112 [.ref 179, .int (nI o), .int (nI t), .int (nI w)] (mS σ V) K := by
  refine sg112_0 ⟨shM H, _, rM0 H, 184, shV H, vi (by decide) (by decide), ?_⟩
  rw [mS_get (by decide)]
  exact r_goBL H h1 hK 8 0 (by omega)
theorem r_goS (H : MI σ) (hw : WF m V) {b : Nat} (hb : b < 14) (hK : K (nI (cutV V b)) (mS σ (dSnd V b))) : cI E 113 [.ref 179, .int (nI b)] (mS σ V) K := by
  refine sg113_0 ⟨shM H, r_cut H hw hb ⟨shM H, r_lays H hb (by decide) ⟨shM H, r_adds H hb (by decide) ?_⟩⟩⟩
  rw [upN_n (by omega)]
  exact hK
theorem r_goR (H : MI σ) {b : Nat} (hb : b < 14) (hK : K (nI (V (72 + 8 * b + 3))) (mS σ (dRec V b))) : cI E 114 [.ref 179, .int (nI b)] (mS σ V) K := by
  refine sg114_0 ⟨shM H, r_lays H hb (by decide) ⟨shM H, r_of H hb (by decide) ?_⟩⟩
  rw [upN_n (by omega)]
  exact hK
theorem r_goP (H : MI σ) {c : Nat} (hK : K (nI (V 11 + c)) (mS σ (dPay V c))) : cI E 115 [.ref 179, .int (nI c)] (mS σ V) K := by
  refine sg115_0 ⟨shM H, _, rM0 H, 184, shV H, vi (by decide) (by decide), 184, shV H, vi (by decide) (by decide), ?_⟩
  rw [mS_get (by decide), nI_add]
  refine nw_e (mS_put (by decide)) ⟨shM H, _, rM0 H, 184, shV H, vi (by decide) (by decide), 184, shV H, vi (by decide) (by decide), ?_⟩
  rw [mS_get (by decide), nI_add, upN_n (by decide)]
  refine nw_e (mS_put (by decide)) ⟨shM H, _, rM0 H, 184, shV H, vi (by decide) (by decide), ?_⟩
  rw [mS_get (by decide), upN_n (by decide), upN_s]
  exact hK
/-- one day of one crew -/
def dPnt (V : Nat → Nat) (b : Nat) : Nat → Nat :=
  if V 5 ≤ V 11 then
    let W := upN (upN (upN (upN V 11 (V 11 - V 5)) 12 (V 12 + V 5)) (72 + 8 * b + 7) (V (72 + 8 * b + 7) + V 5)) (72 + 8 * b + 3) (V (72 + 8 * b + 3) + V 4)
    if V (72 + 8 * b + 3) + V 4 < 100 then W else upN (upN W (72 + 8 * b + 3) 100) (72 + 8 * b + 4) 0
  else V
theorem r_pnt (H : MI σ) (hw : WF m V) {b : Nat} (hb : b < V 2) (hK : KV (mS σ (dPnt V b))) : cV E 116 [.ref 179, .int (nI b)] (mS σ V) KV := by
  have h1 := hw.1
  unfold W1 at h1
  have h2 := hw.2.1
  unfold W2 at h2
  have h5 := hw.2.2.2.2
  unfold W5 at h5
  have h3 := hw.2.2.1 b hb
  refine sg116_0 ⟨shM H, _, rM0 H, 184, shV H, vi (by decide) (by decide), shM H, _, rM0 H, 184, shV H, vi (by decide) (by decide), fun h => ⟨shM H, _, rM0 H, 184, shV H, vi (by decide) (by decide), 184, shV H, vi (by decide) (by decide), ?_⟩, fun h => ?_⟩
  · rw [mS_get (by decide), mS_get (by decide), nI_leI (by omega) (by omega)] at h
    rw [mS_get (by decide), mS_get (by decide), pk_sub h]
    refine nw_e (mS_put (by decide)) ⟨shM H, _, rM0 H, 184, shV H, vi (by decide) (by decide), 184, shV H, vi (by decide) (by decide), ?_⟩
    rw [mS_get (by decide), nI_add, upN_n (by decide)]
    refine nw_e (mS_put (by decide)) ⟨shM H, r_adds H (by omega) (by decide) ⟨shM H, _, rM0 H, 184, shV H, vi (by decide) (by decide), ?_⟩⟩
    rw [mS_get (by decide)]
    simp (disch := omega) only [upN_n, upN_s]
    refine ⟨shM H, r_adds H (by omega) (by decide) ⟨shM H, r_of H (by omega) (by decide) ?_⟩⟩
    simp (disch := omega) only [upN_n, upN_s]
    have e := nI_ltI (a := V (72 + 8 * b + 3) + V 4) (b := 100) (by omega) (by decide)
    unfold dPnt at hK
    rw [if_pos h] at hK
    dsimp only at hK
    refine ⟨fun h6 => ?_, fun h6 => ⟨shM H, r_lays H (by omega) (by decide) ⟨shM H, r_lays H (by omega) (by decide) ?_⟩⟩⟩
    · rw [if_pos (e.mp h6)] at hK
      exact hK
    · rw [if_neg (fun z => h6 (e.mpr z))] at hK
      exact hK
  · rw [mS_get (by decide), mS_get (by decide), nI_leI (by omega) (by omega)] at h
    unfold dPnt at hK
    rw [if_neg h] at hK
    exact hK
def dWea (V : Nat → Nat) (b : Nat) : Nat → Nat := upN V (72 + 8 * b + 3) (V (72 + 8 * b + 3) - V (72 + 8 * b + 2))
theorem r_wea (H : MI σ) (hw : WF m V) {b : Nat} (hb : b < V 2) (hK : KV (mS σ (dWea V b))) : cV E 117 [.ref 179, .int (nI b)] (mS σ V) KV := by
  have h1 := hw.1
  unfold W1 at h1
  have h3 := hw.2.2.1 b hb
  unfold dWea at hK
  refine sg117_0 ⟨shM H, r_of H (by omega) (by decide) ⟨shM H, r_of H (by omega) (by decide) ⟨fun h => ?_, fun h => ?_⟩⟩⟩
  · have h4 := nI_subT (by omega) (by omega) h
    rw [pk_sub h4]
    exact ⟨shM H, r_lays H (by omega) (by decide) hK⟩
  · have h4 : ¬ V (72 + 8 * b + 2) ≤ V (72 + 8 * b + 3) := fun z => h (by rw [pk_sub z]; exact nI_le (Nat.zero_le _) (by omega))
    rw [show V (72 + 8 * b + 3) - V (72 + 8 * b + 2) = 0 by omega] at hK
    exact ⟨shM H, r_lays H (by omega) (by decide) hK⟩
/-- one day of one island: its vector, its complaint -/
def dWai (V : Nat → Nat) (i : Nat) (r : Bool) : Nat → Nat :=
  if r = true then upN V (32 + 5 * i + 1) 0
  else if V 6 = 1 ∧ V (32 + 5 * i + 0) ≤ V 11 then upN (upN (upN (upN V 11 (V 11 - V (32 + 5 * i + 0))) 13 (V 13 + V (32 + 5 * i + 0))) (32 + 5 * i + 4) (V (32 + 5 * i + 4) + 1)) (32 + 5 * i + 1) 0
  else
    let W := upN (upN V (32 + 5 * i + 1) (V (32 + 5 * i + 1) + 1)) (32 + 5 * i + 3) (if V (32 + 5 * i + 1) + 1 ≤ V (32 + 5 * i + 3) then V (32 + 5 * i + 3) else V (32 + 5 * i + 1) + 1)
    if V 7 < V (32 + 5 * i + 1) + 1 then upN W (32 + 5 * i + 2) (V (32 + 5 * i + 2) + 1) else W
def cWai (V : Nat → Nat) (i : Nat) (r : Bool) : Nat :=
  if r = true then 0 else if V 6 = 1 ∧ V (32 + 5 * i + 0) ≤ V 11 then 0 else if V 7 < V (32 + 5 * i + 1) + 1 then 1 else 0
end REF3
