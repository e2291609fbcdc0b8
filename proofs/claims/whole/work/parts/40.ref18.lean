/-! the reference reads and does an order -/
section REF18
variable {E : AEnv} {σ τ : ASt} {V : Nat → Nat} {m n t : Nat} {Tx : Nat → Nat} {P T f : Nat → Int32} {Q : Option Value → ASt → Prop} {K : Int32 → ASt → Prop} {KV : ASt → Prop}
theorem r_ord (H : MI σ) (ht : t ≤ 60) (hTx : ∀ j, j < t → Tx j ≤ 126) (hx : ∀ j, j < t → gI σ 184 j = nI (Tx j)) {sp : Nat} (hsp : sp < t) (h6 : P 6 = nI t) (h8 : P 8 = nI sp)
    (hK : ∀ P' T', PS P P' T' sp (hre t Tx sp) (cntL (hre t Tx sp)) (ordF t Tx sp, ordP t Tx sp, ordN t Tx sp) → KV (nS σ P' T' f V)) : cV E 161 [.ref 179] (nS σ P T f V) KV := by
  have hl := hre_lt hTx sp
  refine sg161_0 ⟨shM H, shM H, ?_⟩
  rw [n_p, h8]
  refine nw_e n_wp ⟨shM H, fb1, nw_e n_wp ⟨shM H, r_here (sp := sp) H ht hx (by omega) ?_ ?_ ⟨shM H, nw_e n_wp ⟨shM H, ?_⟩⟩⟩⟩
  · rw [upd_n (by decide), upd_n (by decide)]; exact h6
  · rw [upd_n (by decide), upd_n (by decide)]; exact h8
  rw [n_p, upd_s]
  have yes : ∀ may : Bool, lgl (hre t Tx sp) = may → cV E 159 [.ref 179, .int (bI may)] (nS σ (upd (upd (upd P 9 (nI sp)) 10 (nI 1)) 11 (nI (hre t Tx sp))) T f V) (fun s6 => wp E 161 95 [.ref 179, .int (nI 0)] [] s6 (QV KV)) := fun may hm => by
    refine r_tak (fm := true) (sp := sp) H ?_ ?_ fun P' hp => ?_
    · rw [upd_n (by decide), upd_n (by decide), upd_n (by decide)]; exact h8
    · rw [upd_n (by decide), upd_s]; rfl
    · refine r_oL (P := P) H ht hTx hx hsp h6 hK (cntL (hre t Tx sp)) 0 P' T (by omega) ⟨?_, ?_, ?_, ?_, fun j h1 h2 h3 h4 => ?_, fun j hj => absurd hj (Nat.not_lt_zero _)⟩
      · rw [hp.1]
        show nI _ = nI (sp + if lgl (hre t Tx sp) = true then 1 else 0)
        rw [hm, Bool.true_and]
      · rw [hp.2.2 9 (by decide) (by decide), upd_n (by decide), upd_n (by decide), upd_s]
      · rw [hp.2.1]
        show bI _ = bI (lgl (hre t Tx sp))
        rw [hm, Bool.true_and]
      · rw [hp.2.2 11 (by decide) (by decide), upd_s]
      · rw [hp.2.2 j h1 h3, upd_n h4, upd_n h3, upd_n h2]
  have le : ∀ x, x < 2 ^ 31 → (nI (hre t Tx sp) = nI x ↔ hre t Tx sp = x) := fun x hx => nI_eq (by omega) hx
  refine ⟨fun g => ⟨shM H, yes true ?_⟩, fun g105 => ⟨shM H, fun g => ⟨shM H, yes true ?_⟩, fun g98 => ⟨shM H, fun g => ⟨shM H, yes true ?_⟩, fun g115 => ⟨shM H, fun g => ⟨shM H, yes true ?_⟩, fun g102 => ⟨shM H, fun g => ⟨shM H, yes true ?_⟩, fun g114 => ⟨shM H, fun g => ⟨shM H, yes true ?_⟩, fun g112 => ⟨shM H, fun g => ⟨shM H, yes false ?_⟩, fun g => ⟨shM H, yes true ?_⟩⟩⟩⟩⟩⟩⟩⟩
  · have := (le 105 (by decide)).mp g
    rw [this]; rfl
  · have := (le 98 (by decide)).mp g
    rw [this]; rfl
  · have := (le 115 (by decide)).mp g
    rw [this]; rfl
  · have := (le 102 (by decide)).mp g
    rw [this]; rfl
  · have := (le 114 (by decide)).mp g
    rw [this]; rfl
  · have := (le 112 (by decide)).mp g
    rw [this]; rfl
  · unfold lgl
    have ne : ∀ x, x < 2 ^ 31 → nI (hre t Tx sp) ≠ nI x → Nat.beq (hre t Tx sp) x = false := fun x hx h => by
      cases hq : Nat.beq (hre t Tx sp) x with
      | false => rfl
      | true => exact absurd ((le x hx).mpr (beq_iff'.mp hq)) h
    rw [ne 105 (by decide) g105, ne 98 (by decide) g98, ne 115 (by decide) g115, ne 102 (by decide) g102, ne 114 (by decide) g114, ne 112 (by decide) g112, ne 100 (by decide) g]
    rfl
  · have := (le 100 (by decide)).mp (Classical.not_not.mp g)
    rw [this]; rfl
def eOrd (V : Nat → Nat) (l : Nat) (N : Nat → Nat) : Int32 :=
  if l = 98 then eBrg V (nI (N 0)) (nI (N 1)) (nI (N 2)) else if l = 102 then eSnd V (nI (N 0)) (nI 1) else if l = 105 then eIsl V (nI (N 0)) else if l = 112 then ePay V (nI (N 0)) else if l = 114 then eRec V (nI (N 0)) else if l = 115 then eSnd V (nI (N 0)) (nI 0) else eDys V (nI (N 0))
def dOrd (V : Nat → Nat) (l : Nat) (N : Nat → Nat) : Nat → Nat :=
  if l = 98 then dBrg V (toN (nI (N 0))) (toN (nI (N 1))) (toN (nI (N 2))) else if l = 102 then dSnd V (toN (nI (N 0))) else if l = 105 then dIsl V (toN (nI (N 0))) else if l = 112 then dPay V (toN (nI (N 0))) else if l = 114 then dRec V (toN (nI (N 0))) else if l = 115 then dSnd V (toN (nI (N 0))) else dDays (toN (nI (N 0))) V
def aOrd (V : Nat → Nat) (l : Nat) (N : Nat → Nat) : Nat :=
  if l = 98 then V 2 else if l = 102 then cutV V (toN (nI (N 0))) else if l = 105 then V 1 else if l = 112 then V 11 + toN (nI (N 0)) else if l = 114 then V (72 + 8 * toN (nI (N 0)) + 3) else if l = 115 then cutV V (toN (nI (N 0))) else cDays (toN (nI (N 0))) V
theorem r_eO (H : MI σ) (hw : WF m V) {l : Nat} {N : Nat → Nat} (hl : l ≤ 126) (h11 : P 11 = nI l) (hT : ∀ j, j < cntL l → T j = nI (N j)) (hK : K (eOrd V l N) (nS σ P T f V)) : cI E 162 [.ref 179] (nS σ P T f V) K := by
  have H' : MI (s5 (tS σ P T) f) := H
  have le : ∀ x, x < 2 ^ 31 → (nI l = nI x ↔ l = x) := fun x hx => nI_eq (by omega) hx
  have hT0 : T 0 = nI (N 0) := hT 0 (by unfold cntL; split <;> omega)
  have hday : ¬ l = 98 → ¬ l = 102 → ¬ l = 105 → ¬ l = 112 → ¬ l = 114 → ¬ l = 115 → cI E 127 [.ref 179, .int (T 0)] (nS σ P T f V) K := fun a b c d e g => by
    unfold eOrd at hK
    rw [if_neg a, if_neg b, if_neg c, if_neg d, if_neg e, if_neg g] at hK
    rw [hT0]
    exact r_eD H' hw hK
  unfold eOrd at hK
  refine sg162_0 ⟨shM H, ?_⟩
  rw [n_p, h11]
  refine ⟨fun g => ⟨shM H, _, rM12 H, 3, sh186 H, vi (by decide) (by decide), shM H, _, rM12 H, 3, sh186 H, vi (by decide) (by decide), shM H, _, rM12 H, 3, sh186 H, vi (by decide) (by decide), shM H, ?_⟩, fun g98 => ⟨fun g => ⟨shM H, _, rM12 H, 3, sh186 H, vi (by decide) (by decide), shM H, ?_⟩, fun g99 => ⟨fun g => ⟨shM H, _, rM12 H, 3, sh186 H, vi (by decide) (by decide), shM H, ?_⟩, fun g100 => ⟨fun g => ⟨shM H, _, rM12 H, 3, sh186 H, vi (by decide) (by decide), shM H, ?_⟩, fun g101 => ⟨fun g => ⟨shM H, _, rM12 H, 3, sh186 H, vi (by decide) (by decide), shM H, ?_⟩, fun g102 => ⟨fun g => ⟨shM H, _, rM12 H, 3, sh186 H, vi (by decide) (by decide), shM H, ?_⟩, fun g103 => ⟨fun g => ⟨shM H, _, rM12 H, 3, sh186 H, vi (by decide) (by decide), shM H, ?_⟩, fun g104 => ⟨fun g => ⟨shM H, _, rM12 H, 3, sh186 H, vi (by decide) (by decide), shM H, ?_⟩, fun g105 => ⟨fun g => ⟨shM H, _, rM12 H, 3, sh186 H, vi (by decide) (by decide), shM H, ?_⟩, fun g106 => ⟨fun g => ⟨shM H, _, rM12 H, 3, sh186 H, vi (by decide) (by decide), shM H, ?_⟩, fun g107 => ⟨fun g => ⟨shM H, _, rM12 H, 3, sh186 H, vi (by decide) (by decide), shM H, ?_⟩, fun g108 => ⟨fun g => ⟨shM H, _, rM12 H, 3, sh186 H, vi (by decide) (by decide), shM H, ?_⟩, fun g109 => ⟨fun g => ⟨shM H, _, rM12 H, 3, sh186 H, vi (by decide) (by decide), shM H, ?_⟩, fun g110 => ⟨fun g => ⟨shM H, _, rM12 H, 3, sh186 H, vi (by decide) (by decide), shM H, ?_⟩, fun g111 => ⟨fun g => ⟨shM H, _, rM12 H, 3, sh186 H, vi (by decide) (by decide), shM H, ?_⟩, fun g112 => ⟨fun g => ⟨shM H, _, rM12 H, 3, sh186 H, vi (by decide) (by decide), shM H, ?_⟩, fun g113 => ⟨fun g => ⟨shM H, _, rM12 H, 3, sh186 H, vi (by decide) (by decide), shM H, ?_⟩, fun g114 => ⟨fun g => ⟨shM H, _, rM12 H, 3, sh186 H, vi (by decide) (by decide), shM H, ?_⟩, fun g115 => ⟨shM H, _, rM12 H, 3, sh186 H, vi (by decide) (by decide), shM H, ?_⟩⟩⟩⟩⟩⟩⟩⟩⟩⟩⟩⟩⟩⟩⟩⟩⟩⟩⟩
  · have e := (le 98 (by decide)).mp g
    rw [if_pos e] at hK
    have hT1 : T 1 = nI (N 1) := hT 1 (by unfold cntL; rw [if_pos e]; decide)
    have hT2 : T 2 = nI (N 2) := hT 2 (by unfold cntL; rw [if_pos e]; decide)
    rw [n_t, n_t, n_t, hT0, hT1, hT2]
    exact r_eB H' hw hK
  · have e := (le 99 (by decide)).mp g
    rw [n_t]
    exact hday (by omega) (by omega) (by omega) (by omega) (by omega) (by omega)
  · have e := (le 100 (by decide)).mp g
    rw [n_t]
    exact hday (by omega) (by omega) (by omega) (by omega) (by omega) (by omega)
  · have e := (le 101 (by decide)).mp g
    rw [n_t]
    exact hday (by omega) (by omega) (by omega) (by omega) (by omega) (by omega)
  · have e := (le 102 (by decide)).mp g
    rw [if_neg (by omega), if_pos e] at hK
    rw [n_t, hT0]
    exact ⟨fun z => absurd g z, fun _ => ⟨shM H, r_eS H' hw hK⟩⟩
  · have e := (le 103 (by decide)).mp g
    rw [n_t]
    exact hday (by omega) (by omega) (by omega) (by omega) (by omega) (by omega)
  · have e := (le 104 (by decide)).mp g
    rw [n_t]
    exact hday (by omega) (by omega) (by omega) (by omega) (by omega) (by omega)
  · have e := (le 105 (by decide)).mp g
    rw [if_neg (by omega), if_neg (by omega), if_pos e] at hK
    rw [n_t, hT0]
    exact r_eI H' hw hK
  · have e := (le 106 (by decide)).mp g
    rw [n_t]
    exact hday (by omega) (by omega) (by omega) (by omega) (by omega) (by omega)
  · have e := (le 107 (by decide)).mp g
    rw [n_t]
    exact hday (by omega) (by omega) (by omega) (by omega) (by omega) (by omega)
  · have e := (le 108 (by decide)).mp g
    rw [n_t]
    exact hday (by omega) (by omega) (by omega) (by omega) (by omega) (by omega)
  · have e := (le 109 (by decide)).mp g
    rw [n_t]
    exact hday (by omega) (by omega) (by omega) (by omega) (by omega) (by omega)
  · have e := (le 110 (by decide)).mp g
    rw [n_t]
    exact hday (by omega) (by omega) (by omega) (by omega) (by omega) (by omega)
  · have e := (le 111 (by decide)).mp g
    rw [n_t]
    exact hday (by omega) (by omega) (by omega) (by omega) (by omega) (by omega)
  · have e := (le 112 (by decide)).mp g
    rw [if_neg (by omega), if_neg (by omega), if_neg (by omega), if_pos e] at hK
    rw [n_t, hT0]
    exact r_eP H' hw hK
  · have e := (le 113 (by decide)).mp g
    rw [n_t]
    exact hday (by omega) (by omega) (by omega) (by omega) (by omega) (by omega)
  · have e := (le 114 (by decide)).mp g
    rw [if_neg (by omega), if_neg (by omega), if_neg (by omega), if_neg (by omega), if_pos e] at hK
    rw [n_t, hT0]
    exact r_eR H' hw hK
  · have e := (le 115 (by decide)).mp g
    rw [if_neg (by omega), if_neg (by omega), if_neg (by omega), if_neg (by omega), if_neg (by omega), if_pos e] at hK
    rw [n_t, hT0]
    exact ⟨fun _ => ⟨shM H, r_eS H' hw hK⟩, fun z => absurd g102 z⟩
  · rw [n_t]
    exact hday (fun z => g98 ((le 98 (by decide)).mpr z)) (fun z => g102 ((le 102 (by decide)).mpr z)) (fun z => g105 ((le 105 (by decide)).mpr z)) (fun z => g112 ((le 112 (by decide)).mpr z)) (fun z => g114 ((le 114 (by decide)).mpr z)) (fun z => g115 ((le 115 (by decide)).mpr z))
end REF18
