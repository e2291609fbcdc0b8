/-! the component's painting -/
section COM11
variable {E : AEnv} {σ τ : ASt} {B : Nat} {U U' : Nat → Nat → Int32} {V W : Nat → Nat} {m n t : Nat} {Q : Option Value → ASt → Prop} {K : Int32 → ASt → Prop} {KV : ASt → Prop}
theorem c_min {s : ASt} {x y : Int32} (h1 : y < x → K y s) (h2 : ¬ y < x → K x s) : cI E 94 [.int x, .int y] s K := sg94_0 ⟨h1, h2⟩
/-- a crew has painted with c coins, the coat is x -/
def dMid (V : Nat → Nat) (b c x : Nat) : Nat → Nat := upN (upN V (72 + 8 * b + 7) (V (72 + 8 * b + 7) + c)) (72 + 8 * b + 3) x
theorem WF.mid (hw : WF m V) {b c x : Nat} (hb : b < V 2) (hx : x ≤ 100) : WF m (dMid V b c x) := by
  have h3 := hw.2.2.1 b hb
  have o : ∀ j, j ≠ 72 + 8 * b + 3 → j ≠ 72 + 8 * b + 7 → dMid V b c x j = V j := fun j h1 h2 => by
    unfold dMid
    simp (disch := omega) only [upN_n, upN_s]
  refine hw.brg (b := b) (fun j h1 h2 h3 => o j (by omega) (by omega)) (Nat.le_of_eq (o _ (by omega) (by omega))) (fun j h1 h2 => o j (by omega) (by omega)) (fun _ => ?_) (fun _ => ?_)
  · unfold dMid; rw [upN_s]; exact hx
  · rw [o _ (by omega) (by omega)]; omega
theorem c_pai (H : MI σ) (hB : isB B) (hw : WF m V) (R : Rel U V) {b p c : Nat} (hb : b < V 2) (ho : V (72 + 8 * b + 4) = 1) (hp : p ≤ 100)
    (hK1 : V (72 + 8 * b + 3) + p < 100 → ∀ U', Rel U' (dMid V b c (V (72 + 8 * b + 3) + p)) → KV (bS σ B U')) (hK2 : ¬ V (72 + 8 * b + 3) + p < 100 → ∀ U', Rel U' (dRec (dMid V b c 100) b) → KV (bS σ B U')) : cV E 11 [.ref (B + 15 + b), .int (nI p), .int (nI c)] (bS σ B U) KV := by
  have h1 := hw.1
  unfold W1 at h1
  have h3 := hw.2.2.1 b hb
  have rb := R.2.2.2.2 b hb
  have es : stOf V b = 1 := stOf_cr ho
  have fin : ∀ x, Rel (upU (upU U (15 + b) 8 (nI (V (72 + 8 * b + 7) + c))) (15 + b) 4 (nI x)) (dMid V b c x) := fun x => by
    have o : ∀ j, j ≠ 72 + 8 * b + 3 → j ≠ 72 + 8 * b + 7 → dMid V b c x j = V j := fun j h1 h2 => by
      unfold dMid
      simp (disch := omega) only [upN_n, upN_s]
    have e3 : dMid V b c x (72 + 8 * b + 3) = x := by unfold dMid; rw [upN_s]
    have e7 : dMid V b c x (72 + 8 * b + 7) = V (72 + 8 * b + 7) + c := by unfold dMid; simp (disch := omega) only [upN_n, upN_s]
    have ee : endsM (dMid V b c x) b = endsM V b := by unfold endsM; rw [o _ (by omega) (by omega), o _ (by omega) (by omega)]
    have e4 : stOf (dMid V b c x) b = 1 := stOf_cr ((o _ (by omega) (by omega)).trans ho)
    refine R.brg (b := b) (R.1.keep (fun k => ?_) (o 0 (by omega) (by omega)) (o 1 (by omega) (by omega)) (o 2 (by omega) (by omega)) (o 11 (by omega) (by omega)) (o 12 (by omega) (by omega)) (o 13 (by omega) (by omega)) (o 14 (by omega) (by omega))) (fun c k h1 h2 => ?_) (fun j _ _ _ _ _ h => o j (by omega) (by omega)) ?_ hw.w1
    · simp (disch := omega) only [upU_s, upU_k, upU_c]
    · simp (disch := omega) only [upU_s, upU_k, upU_c]
    · unfold RB at rb ⊢
      rw [ee, e4, e3, e7, o (72 + 8 * b + 0) (by omega) (by omega), o (72 + 8 * b + 1) (by omega) (by omega), o (72 + 8 * b + 2) (by omega) (by omega), o (72 + 8 * b + 5) (by omega) (by omega), o (72 + 8 * b + 6) (by omega) (by omega)]
      rw [es] at rb
      simp (disch := omega) only [upU_s, upU_k, upU_c]
      exact ⟨rb.1, rb.2.1, rb.2.2.1, rb.2.2.2.1, trivial, rb.2.2.2.2.2.1, rb.2.2.2.2.2.2.1, rb.2.2.2.2.2.2.2.1, trivial⟩
  have em := nI_ltI (a := 100) (b := V (72 + 8 * b + 3) + p) (by decide) (by omega)
  have tail : ∀ x, x ≤ 100 → (x ≠ 100 → x = V (72 + 8 * b + 3) + p) → (x = 100 → 100 ≤ V (72 + 8 * b + 3) + p) → (sh (bS σ B (upU U (15 + b) 8 (nI (V (72 + 8 * b + 7) + c)))) (B + 15 + b) 1 9 ∧ nw (wrI (bS σ B (upU U (15 + b) 8 (nI (V (72 + 8 * b + 7) + c)))) (B + 15 + b) 4 (nI x)) (fun s4 => sh s4 (B + 15 + b) 1 9 ∧ ((gI s4 (B + 15 + b) 4) ≠ (nI 100) → QV KV none s4) ∧ (¬ (gI s4 (B + 15 + b) 4) ≠ (nI 100) → sh s4 (B + 15 + b) 1 9 ∧ cV E 10 [.ref (B + 15 + b)] s4 (fun s5 => QV KV none s5)))) := by
    intro x hx h1x h2x
    have ex := nI_eq (a := x) (b := 100) (by omega) (by decide)
    refine ⟨shB H hB (by omega), nw_e (wB (by omega)) ⟨shB H hB (by omega), ?_⟩⟩
    rw [gB (by omega), upU_s]
    refine ⟨fun g => ?_, fun g => ⟨shB H hB (by omega), ?_⟩⟩
    · have hne : x ≠ 100 := fun z => g (ex.mpr z)
      have := fin x
      have hx2 := h1x hne
      rw [hx2] at this ⊢
      exact hK1 (by omega) _ this
    · have hx2 := ex.mp (Classical.not_not.mp g)
      subst hx2
      have e2 : dMid V b c 100 2 = V 2 := by unfold dMid; simp (disch := omega) only [upN_n, upN_s]
      exact c_los2 H hB (hw.mid hb (Nat.le_refl _)) (fin 100) (by omega) (hK2 (by have := h2x rfl; omega))
  refine sg11_0 ⟨shB H hB (by omega), shB H hB (by omega), ?_⟩
  rw [gB (by omega), rb.2.2.2.2.2.2.2.2, nI_add]
  refine nw_e (wB (by omega)) ⟨shB H hB (by omega), ?_⟩
  rw [gB (by omega), upU_k (by decide), rb.2.2.2.2.1, nI_add]
  refine c_min (fun g => ?_) fun g => ?_
  · have := em.mp g
    exact tail 100 (by omega) (fun z => absurd rfl z) (fun _ => by omega)
  · have : ¬ 100 < V (72 + 8 * b + 3) + p := fun z => g (em.mpr z)
    exact tail _ (by omega) (fun _ => rfl) (fun z => by omega)
end COM11
