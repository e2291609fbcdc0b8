/-! the reference does an order, and all of them -/
section REF19
variable {E : AEnv} {σ τ : ASt} {V : Nat → Nat} {m n t : Nat} {Tx : Nat → Nat} {P T f : Nat → Int32} {Q : Option Value → ASt → Prop} {K : Int32 → ASt → Prop} {KV : ASt → Prop}
theorem r_dO (H : MI σ) (hw : WF m V) {l : Nat} {N : Nat → Nat} (hl : l ≤ 126) (h11 : P 11 = nI l) (hT : ∀ j, j < cntL l → T j = nI (N j)) (he : nI 0 ≤ eOrd V l N) (hK : ∀ f x, K x (nS σ P T f (dOrd V l N))) : cI E 163 [.ref 179] (nS σ P T f V) K := by
  have H' : MI (s5 (tS σ P T) f) := H
  have h1 := hw.1
  unfold W1 at h1
  have h5 := hw.2.2.2.2
  unfold W5 at h5
  have le : ∀ x, x < 2 ^ 31 → (nI l = nI x ↔ l = x) := fun x hx => nI_eq (by omega) hx
  have hT0 : T 0 = nI (N 0) := hT 0 (by unfold cntL; split <;> omega)
  have hday : ¬ l = 98 → ¬ l = 102 → ¬ l = 105 → ¬ l = 112 → ¬ l = 114 → ¬ l = 115 → cI E 121 [.ref 179, .int (T 0)] (nS σ P T f V) K := fun a b c d e g => by
    unfold eOrd at he
    unfold dOrd at hK
    rw [if_neg a, if_neg b, if_neg c, if_neg d, if_neg e, if_neg g] at hK he
    obtain ⟨x1, x2, ex, h9⟩ := eDys_ok he
    rw [hT0, ex]
    refine r_dys H' (hw.to (Nat.le_refl _) (by omega)) (by omega) fun f' => ?_
    rw [s5_s5]
    exact hK f' _
  unfold eOrd at he
  unfold dOrd at hK
  refine sg163_0 ⟨shM H, ?_⟩
  rw [n_p, h11]
  refine ⟨fun g => ⟨shM H, _, rM12 H, 3, sh186 H, vi (by decide) (by decide), shM H, _, rM12 H, 3, sh186 H, vi (by decide) (by decide), shM H, _, rM12 H, 3, sh186 H, vi (by decide) (by decide), shM H, ?_⟩, fun g98 => ⟨fun g => ⟨shM H, _, rM12 H, 3, sh186 H, vi (by decide) (by decide), shM H, ?_⟩, fun g99 => ⟨fun g => ⟨shM H, _, rM12 H, 3, sh186 H, vi (by decide) (by decide), shM H, ?_⟩, fun g100 => ⟨fun g => ⟨shM H, _, rM12 H, 3, sh186 H, vi (by decide) (by decide), shM H, ?_⟩, fun g101 => ⟨fun g => ⟨shM H, _, rM12 H, 3, sh186 H, vi (by decide) (by decide), shM H, ?_⟩, fun g102 => ⟨fun g => ⟨shM H, _, rM12 H, 3, sh186 H, vi (by decide) (by decide), shM H, ?_⟩, fun g103 => ⟨fun g => ⟨shM H, _, rM12 H, 3, sh186 H, vi (by decide) (by decide), shM H, ?_⟩, fun g104 => ⟨fun g => ⟨shM H, _, rM12 H, 3, sh186 H, vi (by decide) (by decide), shM H, ?_⟩, fun g105 => ⟨fun g => ⟨shM H, _, rM12 H, 3, sh186 H, vi (by decide) (by decide), shM H, ?_⟩, fun g106 => ⟨fun g => ⟨shM H, _, rM12 H, 3, sh186 H, vi (by decide) (by decide), shM H, ?_⟩, fun g107 => ⟨fun g => ⟨shM H, _, rM12 H, 3, sh186 H, vi (by decide) (by decide), shM H, ?_⟩, fun g108 => ⟨fun g => ⟨shM H, _, rM12 H, 3, sh186 H, vi (by decide) (by decide), shM H, ?_⟩, fun g109 => ⟨fun g => ⟨shM H, _, rM12 H, 3, sh186 H, vi (by decide) (by decide), shM H, ?_⟩, fun g110 => ⟨fun g => ⟨shM H, _, rM12 H, 3, sh186 H, vi (by decide) (by decide), shM H, ?_⟩, fun g111 => ⟨fun g => ⟨shM H, _, rM12 H, 3, sh186 H, vi (by decide) (by decide), shM H, ?_⟩, fun g112 => ⟨fun g => ⟨shM H, _, rM12 H, 3, sh186 H, vi (by decide) (by decide), shM H, ?_⟩, fun g113 => ⟨fun g => ⟨shM H, _, rM12 H, 3, sh186 H, vi (by decide) (by decide), shM H, ?_⟩, fun g114 => ⟨fun g => ⟨shM H, _, rM12 H, 3, sh186 H, vi (by decide) (by decide), shM H, ?_⟩, fun g115 => ⟨shM H, _, rM12 H, 3, sh186 H, vi (by decide) (by decide), shM H, ?_⟩⟩⟩⟩⟩⟩⟩⟩⟩⟩⟩⟩⟩⟩⟩⟩⟩⟩⟩
  · have e := (le 98 (by decide)).mp g
    rw [if_pos e] at hK he
    have hT1 : T 1 = nI (N 1) := hT 1 (by unfold cntL; rw [if_pos e]; decide)
    have hT2 : T 2 = nI (N 2) := hT 2 (by unfold cntL; rw [if_pos e]; decide)
    obtain ⟨hx, ex, hy, ey, w1, w2, ew, h14⟩ := eBrg_ok hw he
    rw [n_t, n_t, n_t, hT0, hT1, hT2, ex, ey, ew]
    exact r_goB H' h14 (hK f _)
  · have e := (le 99 (by decide)).mp g
    rw [n_t]
    exact hday (by omega) (by omega) (by omega) (by omega) (by omega) (by omega)
  · have e := (le 100 (by decide)).mp g
    rw [n_t]
    exact hday (by omega) (by omega) (by omega) (by omega) (by omega) (by omega)
  · have e := (le 101 (by decide)).mp g
    rw [n_t]
    exact hday (by omega) (by omega) (by omega) (by omega) (by omega) (by omega)
  · have e := (le 102 (by decide)).mp g
    rw [if_neg (by omega), if_pos e] at hK he
    obtain ⟨hx, ex⟩ := eSnd_ok hw he
    rw [n_t, hT0, ex]
    exact r_goS H' hw (by omega) (hK f _)
  · have e := (le 103 (by decide)).mp g
    rw [n_t]
    exact hday (by omega) (by omega) (by omega) (by omega) (by omega) (by omega)
  · have e := (le 104 (by decide)).mp g
    rw [n_t]
    exact hday (by omega) (by omega) (by omega) (by omega) (by omega) (by omega)
  · have e := (le 105 (by decide)).mp g
    rw [if_neg (by omega), if_neg (by omega), if_pos e] at hK he
    obtain ⟨hx, ex, h8⟩ := eIsl_ok hw he
    rw [n_t, hT0, ex]
    exact r_goI H' h8 (hK f _)
  · have e := (le 106 (by decide)).mp g
    rw [n_t]
    exact hday (by omega) (by omega) (by omega) (by omega) (by omega) (by omega)
  · have e := (le 107 (by decide)).mp g
    rw [n_t]
    exact hday (by omega) (by omega) (by omega) (by omega) (by omega) (by omega)
  · have e := (le 108 (by decide)).mp g
    rw [n_t]
    exact hday (by omega) (by omega) (by omega) (by omega) (by omega) (by omega)
  · have e := (le 109 (by decide)).mp g
    rw [n_t]
    exact hday (by omega) (by omega) (by omega) (by omega) (by omega) (by omega)
  · have e := (le 110 (by decide)).mp g
    rw [n_t]
    exact hday (by omega) (by omega) (by omega) (by omega) (by omega) (by omega)
  · have e := (le 111 (by decide)).mp g
    rw [n_t]
    exact hday (by omega) (by omega) (by omega) (by omega) (by omega) (by omega)
  · have e := (le 112 (by decide)).mp g
    rw [if_neg (by omega), if_neg (by omega), if_neg (by omega), if_pos e] at hK he
    obtain ⟨x1, x2, ex, h9⟩ := ePay_ok he
    rw [n_t, hT0, ex]
    exact r_goP H' (hK f _)
  · have e := (le 113 (by decide)).mp g
    rw [n_t]
    exact hday (by omega) (by omega) (by omega) (by omega) (by omega) (by omega)
  · have e := (le 114 (by decide)).mp g
    rw [if_neg (by omega), if_neg (by omega), if_neg (by omega), if_neg (by omega), if_pos e] at hK he
    obtain ⟨hx, ex⟩ := eRec_ok hw he
    rw [n_t, hT0, ex]
    exact r_goR H' (by omega) (hK f _)
  · have e := (le 115 (by decide)).mp g
    rw [if_neg (by omega), if_neg (by omega), if_neg (by omega), if_neg (by omega), if_neg (by omega), if_pos e] at hK he
    obtain ⟨hx, ex⟩ := eSnd_ok hw he
    rw [n_t, hT0, ex]
    exact r_goS H' hw (by omega) (hK f _)
  · rw [n_t]
    exact hday (fun z => g98 ((le 98 (by decide)).mpr z)) (fun z => g102 ((le 102 (by decide)).mpr z)) (fun z => g105 ((le 105 (by decide)).mpr z)) (fun z => g112 ((le 112 (by decide)).mpr z)) (fun z => g114 ((le 114 (by decide)).mpr z)) (fun z => g115 ((le 115 (by decide)).mpr z))
theorem WF.ord (hw : WF 9999 V) {l : Nat} {N : Nat → Nat} (he : nI 0 ≤ eOrd V l N) : WF 9999 (dOrd V l N) := by
  have h5 := hw.2.2.2.2
  unfold W5 at h5
  unfold eOrd at he
  unfold dOrd
  by_cases e : l = 98
  · rw [if_pos e] at he ⊢
    obtain ⟨hx, ex, hy, ey, w1, w2, ew, h14⟩ := eBrg_ok hw he
    exact hw.nbr hx hy ⟨w1, w2⟩ h14
  rw [if_neg e] at he ⊢
  by_cases e : l = 102
  · rw [if_pos e] at he ⊢
    exact hw.snd (eSnd_ok hw he).1
  rw [if_neg e] at he ⊢
  by_cases e : l = 105
  · rw [if_pos e] at he ⊢
    obtain ⟨hx, ex, h8⟩ := eIsl_ok hw he
    exact hw.isl hx h8
  rw [if_neg e] at he ⊢
  by_cases e : l = 112
  · rw [if_pos e] at he ⊢
    exact hw.pay (ePay_ok he).2.2.2
  rw [if_neg e] at he ⊢
  by_cases e : l = 114
  · rw [if_pos e] at he ⊢
    exact hw.rec (eRec_ok hw he).1
  rw [if_neg e] at he ⊢
  by_cases e : l = 115
  · rw [if_pos e] at he ⊢
    exact hw.snd (eSnd_ok hw he).1
  rw [if_neg e] at he ⊢
  obtain ⟨x1, x2, ex, h9⟩ := eDys_ok he
  have h := WF.dysn (toN (nI (N 0))) (V 0) V (hw.to (Nat.le_refl _) (by omega)) (by omega)
  exact h.to (Nat.le_trans h.2.2.2.2.1 h9) (by decide)
theorem stgs_ge {s : Bool × Nat × (Nat → Nat)} : ∀ k, s.2.1 ≤ (stgs t Tx s k).2.1
  | 0 => Nat.le_refl _
  | k + 1 => by
    have h1 := stgs_ge (s := s) k
    have pg : ∀ (d v c sp : Nat), sp ≤ (pN t Tx d v c sp).2.2 := by
      intro d
      induction d with
      | zero => intro v c sp; exact Nat.le_refl _
      | succ d ih =>
        intro v c sp
        rw [pN]
        split
        · exact Nat.le_trans (Nat.le_succ _) (ih _ _ _)
        · exact Nat.le_refl _
    have ng : ∀ fm sp, sp ≤ (nmR t Tx fm sp).2.2 := fun fm sp => by
      unfold nmR
      split
      · exact pg _ _ _ _
      · exact Nat.le_refl _
    rw [stgs]
    refine Nat.le_trans h1 ?_
    unfold stg
    dsimp only
    refine Nat.le_trans ?_ (ng _ _)
    split
    · exact Nat.le_refl _
    · exact Nat.le_add_right _ _
theorem ordP_gt {sp : Nat} (h : ordF t Tx sp = true) : sp < ordP t Tx sp := by
  have h1 := stgs_ge (t := t) (Tx := Tx) (s := stg0 t Tx sp) (cntL (hre t Tx sp))
  have h2 : sp ≤ (stg0 t Tx sp).2.1 := Nat.le_add_right _ _
  unfold ordP
  rw [if_pos h]
  unfold stgE
  omega
theorem ordP_ge {sp : Nat} : sp ≤ ordP t Tx sp := by
  have h1 := stgs_ge (t := t) (Tx := Tx) (s := stg0 t Tx sp) (cntL (hre t Tx sp))
  have h2 : sp ≤ (stg0 t Tx sp).2.1 := Nat.le_add_right _ _
  unfold ordP
  unfold stgE
  omega
theorem ordP_le {sp : Nat} : ordP t Tx sp ≤ sp + 14 := by
  have h1 := stgs_le (t := t) (Tx := Tx) (s := stg0 t Tx sp) (cntL (hre t Tx sp))
  have h2 : (stg0 t Tx sp).2.1 ≤ sp + 1 := by unfold stg0; dsimp only; split <;> omega
  have h3 : cntL (hre t Tx sp) ≤ 3 := by unfold cntL; split <;> omega
  unfold ordP
  unfold stgE
  split <;> omega
/-- all the orders: how many were done, what is then, and the fault: reason (0 none), place, cause -/
def plL (t : Nat) (Tx : Nat → Nat) : Nat → (Nat → Nat) → Nat → Nat → Nat × (Nat → Nat) × Nat × Nat × Int32
  | 0, V, n, _ => (n, V, 0, 0, nI 0)
  | d + 1, V, n, sp => if t ≤ sp then (n, V, 0, 0, nI 0) else if ordF t Tx sp = true then
      (if nI 0 ≤ eOrd V (hre t Tx sp) (ordN t Tx sp) then plL t Tx d (dOrd V (hre t Tx sp) (ordN t Tx sp)) (n + 1) (ordP t Tx sp) else (n, V, 2, sp, eOrd V (hre t Tx sp) (ordN t Tx sp)))
      else (n, V, 1, sp, nI (ordP t Tx sp - sp))
end REF19
