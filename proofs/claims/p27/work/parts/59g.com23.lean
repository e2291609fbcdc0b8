/-! the component reads its text -/
section COM23
variable {E : AEnv} {σ τ : ASt} {p q : Nat} {h : Nat → Nat} {V W : Nat → Nat} {m n t : Nat} {Hs : Nat → Nat → Nat} {Tx : Nat → Nat} {A D : Nat → Int32} {Q : Option Value → ASt → Prop} {K : Int32 → ASt → Prop} {KV : ASt → Prop}
/-- the text's fields are A, its numbers D -/
def zS (σ : ASt) (A D : Nat → Int32) : ASt := (σ.1, (fun x => if x = 60 then A else if x = 62 then D else σ.2.1 x), σ.2.2)
theorem zS_self : zS σ (σ.2.1 60) (σ.2.1 62) = σ := by
  obtain ⟨a, b, c⟩ := σ
  unfold zS
  dsimp only
  congr 2
  funext x
  by_cases h0 : x = 60
  · rw [if_pos h0, h0]
  · rw [if_neg h0]
    by_cases h2 : x = 62
    · rw [if_pos h2, h2]
    · rw [if_neg h2]
theorem z_6 {k : Nat} : gI (zS σ A D) 60 k = A k := rfl
theorem z_62 {k : Nat} : gI (zS σ A D) 62 k = D k := rfl
theorem z_o {c k : Nat} (h0 : c ≠ 60) (h2 : c ≠ 62) : gI (zS σ A D) c k = gI σ c k := by
  show (if c = 60 then A else if c = 62 then D else σ.2.1 c) k = _
  rw [if_neg h0, if_neg h2]
  rfl
theorem z_w6 {k : Nat} {x : Int32} : wrI (zS σ A D) 60 k x = zS σ (upd A k x) D := by
  unfold wrI zS
  dsimp only
  congr 2
  funext c
  by_cases hc : c = 60
  · rw [if_pos hc, if_pos hc, if_pos rfl]
  · rw [if_neg hc, if_neg hc, if_neg hc]
theorem z_w62 {k : Nat} {x : Int32} : wrI (zS σ A D) 62 k x = zS σ A (upd D k x) := by
  unfold wrI zS
  dsimp only
  congr 2
  funext c
  by_cases hc : c = 62
  · subst hc
    rfl
  · rw [if_neg hc]
    by_cases h0 : c = 60
    · rw [if_pos h0, if_pos h0]
    · rw [if_neg h0, if_neg h0, if_neg hc, if_neg hc]
theorem sh60 (H : MI σ) : sh σ 60 4 5 := H.sh rfl
theorem sh61 (H : MI σ) : sh σ 61 11 60 := H.sh rfl
theorem sh62 (H : MI σ) : sh σ 62 10 3 := H.sh rfl
theorem r60 (H : MI σ) : rf σ 60 0 61 := H.rf (by decide +kernel)
theorem r62 (H : MI σ) : rf σ 60 2 62 := H.rf (by decide +kernel)
theorem c_dig (H : MI σ) (ht : t ≤ 60) (hTx : ∀ j, j < t → Tx j ≤ 126) (hx : ∀ j, j < t → gI σ 61 j = nI (Tx j)) {sp : Nat} (hs : sp < 2 ^ 31) (h1 : A 1 = nI t) (h4 : A 4 = nI sp) (hK1 : 48 ≤ hre t Tx sp ∧ hre t Tx sp ≤ 57 → K (nI 1) (zS σ A D)) (hK0 : ¬ (48 ≤ hre t Tx sp ∧ hre t Tx sp ≤ 57) → K (nI 0) (zS σ A D)) : cI E 56 [.ref 60] (zS σ A D) K := by
  have e := nI_leI (a := t) (b := sp) (by omega) hs
  have rd : ∀ k, gI (zS σ A D) 60 k = A k := fun k => rfl
  unfold hre at hK1 hK0
  refine sg56_0 ⟨sh60 H, sh60 H, ?_, ?_⟩
  · rw [rd, rd, h1, h4]
    intro g
    rw [if_pos (e.mp g)] at hK0
    exact ⟨fb0, hK0 (by decide)⟩
  · rw [rd, rd, h1, h4]
    intro g
    have hl : ¬ t ≤ sp := fun z => g (e.mpr z)
    have hb := hTx sp (by omega)
    rw [if_neg hl] at hK1 hK0
    have ea := nI_ltI (a := Tx sp) (b := 48) (by omega) (by decide)
    have eb := nI_ltI (a := 57) (b := Tx sp) (by decide) (by omega)
    have eg : gI (zS σ A D) 61 sp = nI (Tx sp) := (z_o (by decide) (by decide)).trans (hx sp (by omega))
    refine ⟨sh60 H, _, r60 H, sh60 H, 60, sh61 H, vi (by omega) (by decide), ?_⟩
    rw [cl _ hs, eg]
    refine ⟨fun g2 => ⟨fb0, hK0 fun z => ?_⟩, fun g2 => ⟨sh60 H, _, r60 H, sh60 H, 60, sh61 H, vi (by omega) (by decide), fun g3 => ⟨fb0, hK0 fun z => ?_⟩, fun g3 => ⟨fb1, hK1 ?_⟩⟩⟩
    · have := ea.mp g2
      omega
    · rw [eg] at g3
      have := eb.mp g3
      omega
    · rw [eg] at g3
      have a1 : ¬ Tx sp < 48 := fun z => g2 (ea.mpr z)
      have a2 : ¬ 57 < Tx sp := fun z => g3 (eb.mpr z)
      omega
theorem c_tk (H : MI σ) (ht : t ≤ 60) (hTx : ∀ j, j < t → Tx j ≤ 126) (hx : ∀ j, j < t → gI σ 61 j = nI (Tx j)) {sp c : Nat} (hc : 0 < c ∧ c < 127) (hs : sp < 2 ^ 31) (h1 : A 1 = nI t) (h4 : A 4 = nI sp) (hK1 : hre t Tx sp = c → K (nI 1) (zS σ (upd A 4 (nI (sp + 1))) D)) (hK0 : hre t Tx sp ≠ c → K (nI 0) (zS σ A D)) : cI E 54 [.ref 60, .int (nI c)] (zS σ A D) K := by
  have e := nI_leI (a := t) (b := sp) (by omega) hs
  have rd : ∀ k, gI (zS σ A D) 60 k = A k := fun k => rfl
  unfold hre at hK1 hK0
  refine sg54_0 ⟨sh60 H, sh60 H, ?_, ?_⟩
  · rw [rd, rd, h1, h4]
    intro g
    rw [if_pos (e.mp g)] at hK0
    exact ⟨fb0, hK0 (by omega)⟩
  · rw [rd, rd, h1, h4]
    intro g
    have hl : ¬ t ≤ sp := fun z => g (e.mpr z)
    have hb := hTx sp (by omega)
    rw [if_neg hl] at hK1 hK0
    have ea := nI_eq (a := Tx sp) (b := c) (by omega) (by omega)
    have eg : gI (zS σ A D) 61 sp = nI (Tx sp) := (z_o (by decide) (by decide)).trans (hx sp (by omega))
    refine ⟨sh60 H, _, r60 H, sh60 H, 60, sh61 H, vi (by omega) (by decide), ?_⟩
    rw [cl _ hs, eg, nI_add]
    exact ⟨fun g2 => ⟨sh60 H, sh60 H, nw_e z_w6 ⟨fb1, hK1 (ea.mp g2)⟩⟩, fun g2 => ⟨fb0, hK0 fun z => g2 (ea.mpr z)⟩⟩
theorem c_nmL (H : MI σ) (ht : t ≤ 60) (hTx : ∀ j, j < t → Tx j ≤ 126) (hx : ∀ j, j < t → gI σ 61 j = nI (Tx j)) {w : Nat} (hw : w < 3) {R : Nat × Nat × Nat} (h1 : A 1 = nI t)
    (hK : ∀ A' D', A' 4 = nI R.2.2 → (∀ k, k ≠ 4 → A' k = A k) → D' w = nI R.1 → (∀ j, j ≠ w → D' j = D j) → Q (some (.int (bI (Nat.blt 0 R.2.1)))) (zS σ A' D')) :
    ∀ (d v c sp : Nat) (A1 : Nat → Int32), c + d = 3 → sp ≤ 1000 + c → (∀ k, k ≠ 4 → A1 k = A k) → A1 4 = nI sp → pN t Tx d v c sp = R → wp E 55 4 [.ref 60, .int (nI w), .int (nI v), .int (nI c)] [] (zS σ A1 D) Q := by
  have out : ∀ (v c sp : Nat) (A1 : Nat → Int32), c ≤ 3 → (∀ k, k ≠ 4 → A1 k = A k) → A1 4 = nI sp → (v, c, sp) = R → (sh (zS σ A1 D) 60 4 5 ∧ ∃ r1, rf (zS σ A1 D) 60 2 r1 ∧ ∃ n2, sh (zS σ A1 D) r1 10 n2 ∧ vp_in (nI w) n2 ∧ nw (wrI (zS σ A1 D) r1 (nI w).toNatClampNeg (nI v)) (fun s3 =>
    (nI c ≤ (nI 0) → fN .boolean (nI 0) = true ∧ Q (some (.int (nI 0))) s3) ∧
    (¬ nI c ≤ (nI 0) → fN .boolean (nI 1) = true ∧ Q (some (.int (nI 1))) s3))) := by
    intro v c sp A1 hc hA h4 hR
    subst hR
    have ec := nI_leI (a := c) (b := 0) (by omega) (by decide)
    refine ⟨sh60 H, _, r62 H, 3, sh62 H, vi hw (by decide), ?_⟩
    rw [cl _ (by omega)]
    have := hK A1 (upd D w (nI v)) h4 hA upd_s (fun j hj => upd_n hj)
    refine nw_e z_w62 ⟨fun g => ⟨fb0, ?_⟩, fun g => ⟨fb1, ?_⟩⟩
    · have hc0 : c = 0 := by have := ec.mp g; omega
      subst hc0
      exact this
    · have hc0 : Nat.blt 0 c = true := by
        simp only [Nat.blt_eq]
        have : ¬ c ≤ 0 := fun y => g (ec.mpr y)
        omega
      dsimp only at this
      rw [hc0] at this
      exact this
  intro d
  induction d with
  | zero =>
    intro v c sp A1 hc hsp hA h4 hR
    obtain rfl : c = 3 := by omega
    rw [pN] at hR
    exact sg55_4 ⟨fun _ => out v 3 sp A1 (by omega) hA h4 hR, fun z => absurd (nI_le (by decide) (by decide)) z⟩
  | succ d ih =>
    intro v c sp A1 hc hsp hA h4 hR
    have h1' : A1 1 = nI t := (hA 1 (by decide)).trans h1
    have rd : ∀ k, gI (zS σ A1 D) 60 k = A1 k := fun k => rfl
    rw [pN] at hR
    refine sg55_4 ⟨fun z => absurd z (nI_ge (by omega) (by omega)), fun _ => ⟨sh60 H, c_dig H ht hTx hx (by omega) h1' h4 (fun g => ?_) fun g => ?_⟩⟩
    · rw [if_pos g] at hR
      have hl : ¬ t ≤ sp := fun z => by
        unfold hre at g
        rw [if_pos z] at g
        omega
      have eh : hre t Tx sp = Tx sp := by unfold hre; rw [if_neg hl]
      have eg : gI (zS σ A1 D) 61 sp = nI (Tx sp) := (z_o (by decide) (by decide)).trans (hx sp (by omega))
      refine ⟨fun z => absurd z (by decide), fun _ => ⟨sh60 H, _, r60 H, sh60 H, 60, sh61 H, ?_, sh60 H, sh60 H, ?_⟩⟩
      · rw [rd, h4]; exact vi (by omega) (by decide)
      · rw [rd, h4, cl _ (by omega), eg, nI_add, pk_mul, ← eh, show nI (hre t Tx sp) - nI 48 = nI (hre t Tx sp - 48) from pk_sub g.1, nI_add, nI_add, show v * 10 + (hre t Tx sp - 48) = 10 * v + hre t Tx sp - 48 by omega]
        exact nw_e z_w6 (ih _ _ _ _ (by omega) (by omega) (fun k hk => by rw [upd_n hk]; exact hA k hk) upd_s hR)
    · rw [if_neg g] at hR
      exact ⟨fun _ => out v c sp A1 (by omega) hA h4 hR, fun z => absurd rfl z⟩
theorem c_num (H : MI σ) (ht : t ≤ 60) (hTx : ∀ j, j < t → Tx j ≤ 126) (hx : ∀ j, j < t → gI σ 61 j = nI (Tx j)) {w sp : Nat} (hw : w < 3) (hs : sp ≤ 1000) (h1 : A 1 = nI t) (h4 : A 4 = nI sp)
    (hK : ∀ A' D', A' 4 = nI (nmR t Tx true sp).2.2 → (∀ k, k ≠ 4 → A' k = A k) → D' w = nI (nmR t Tx true sp).1 → (∀ j, j ≠ w → D' j = D j) → K (bI (Nat.blt 0 (nmR t Tx true sp).2.1)) (zS σ A' D')) : cI E 55 [.ref 60, .int (nI w)] (zS σ A D) K :=
  sg55_0 (c_nmL H ht hTx hx hw h1 (R := nmR t Tx true sp) hK 3 0 0 sp A rfl (by omega) (fun _ _ => rfl) h4 rfl)
theorem c_nof {s : ASt} {l : Nat} (hl : l ≤ 126) (hK : K (nI (if lgl l = true then cntL l else 0)) s) : cI E 53 [.int (nI l)] s K := by
  have le : ∀ x, x < 2 ^ 31 → nI l = nI x → l = x := fun x hx => (nI_eq (by omega) hx).mp
  refine sg53_0 ⟨fun g => ?_, fun g98 => ⟨fun g => ?_, fun g99 => ⟨fun g => ?_, fun g100 => ⟨fun g => ?_, fun g101 => ⟨fun g => ?_, fun g102 => ⟨fun g => ?_, fun g103 => ⟨fun g => ?_, fun g104 => ⟨fun g => ?_, fun g105 => ⟨fun g => ?_, fun g106 => ⟨fun g => ?_, fun g107 => ⟨fun g => ?_, fun g108 => ⟨fun g => ?_, fun g109 => ⟨fun g => ?_, fun g110 => ⟨fun g => ?_, fun g111 => ⟨fun g => ?_, fun g112 => ⟨fun g => ?_, fun g113 => ⟨fun g => ?_, fun g114 => ⟨fun g => ?_, fun g115 => ?_⟩⟩⟩⟩⟩⟩⟩⟩⟩⟩⟩⟩⟩⟩⟩⟩⟩⟩
  · have := le 98 (by decide) g
    subst this
    rw [show (if lgl 98 = true then cntL 98 else 0) = 3 by decide] at hK
    exact hK
  · have := le 99 (by decide) g
    subst this
    rw [show (if lgl 99 = true then cntL 99 else 0) = 0 by decide] at hK
    exact hK
  · have := le 100 (by decide) g
    subst this
    rw [show (if lgl 100 = true then cntL 100 else 0) = 1 by decide] at hK
    exact hK
  · have := le 101 (by decide) g
    subst this
    rw [show (if lgl 101 = true then cntL 101 else 0) = 0 by decide] at hK
    exact hK
  · have := le 102 (by decide) g
    subst this
    rw [show (if lgl 102 = true then cntL 102 else 0) = 1 by decide] at hK
    exact hK
  · have := le 103 (by decide) g
    subst this
    rw [show (if lgl 103 = true then cntL 103 else 0) = 0 by decide] at hK
    exact hK
  · have := le 104 (by decide) g
    subst this
    rw [show (if lgl 104 = true then cntL 104 else 0) = 0 by decide] at hK
    exact hK
  · have := le 105 (by decide) g
    subst this
    rw [show (if lgl 105 = true then cntL 105 else 0) = 1 by decide] at hK
    exact hK
  · have := le 106 (by decide) g
    subst this
    rw [show (if lgl 106 = true then cntL 106 else 0) = 0 by decide] at hK
    exact hK
  · have := le 107 (by decide) g
    subst this
    rw [show (if lgl 107 = true then cntL 107 else 0) = 0 by decide] at hK
    exact hK
  · have := le 108 (by decide) g
    subst this
    rw [show (if lgl 108 = true then cntL 108 else 0) = 0 by decide] at hK
    exact hK
  · have := le 109 (by decide) g
    subst this
    rw [show (if lgl 109 = true then cntL 109 else 0) = 0 by decide] at hK
    exact hK
  · have := le 110 (by decide) g
    subst this
    rw [show (if lgl 110 = true then cntL 110 else 0) = 0 by decide] at hK
    exact hK
  · have := le 111 (by decide) g
    subst this
    rw [show (if lgl 111 = true then cntL 111 else 0) = 0 by decide] at hK
    exact hK
  · have := le 112 (by decide) g
    subst this
    rw [show (if lgl 112 = true then cntL 112 else 0) = 1 by decide] at hK
    exact hK
  · have := le 113 (by decide) g
    subst this
    rw [show (if lgl 113 = true then cntL 113 else 0) = 0 by decide] at hK
    exact hK
  · have := le 114 (by decide) g
    subst this
    rw [show (if lgl 114 = true then cntL 114 else 0) = 1 by decide] at hK
    exact hK
  · have := le 115 (by decide) g
    subst this
    rw [show (if lgl 115 = true then cntL 115 else 0) = 1 by decide] at hK
    exact hK
  · have ne : ∀ x, ¬ nI l = nI x → Nat.beq l x = false := fun x h => by
      cases hq : Nat.beq l x with
      | false => rfl
      | true => exact absurd (congrArg nI (beq_iff'.mp hq)) h
    have e : lgl l = false := by
      unfold lgl
      rw [ne 105 g105, ne 98 g98, ne 115 g115, ne 102 g102, ne 114 g114, ne 112 g112, ne 100 g100]
      rfl
    rw [if_neg (by rw [e]; decide)] at hK
    exact hK
theorem stgs_no {s : Bool × Nat × (Nat → Nat)} {k : Nat} (hk : 0 < k ∨ s.1 = false) (h0 : (stgs t Tx s k).1 = false) : ∀ j, (stgs t Tx s (k + j)).1 = false ∧ (stgs t Tx s (k + j)).2.1 = (stgs t Tx s k).2.1
  | 0 => ⟨h0, rfl⟩
  | j + 1 => by
    obtain ⟨i1, i2⟩ := stgs_no hk h0 j
    rw [show k + (j + 1) = k + j + 1 by omega, stgs]
    generalize stgs t Tx s (k + j) = S at i1 i2 ⊢
    have e1 : (if k + j = 0 then S.1 else S.1 && Nat.beq (hre t Tx S.2.1) 44) = false := by
      rw [i1]; split <;> rfl
    have e2 : (if k + j = 0 then S.2.1 else S.2.1 + if (S.1 && Nat.beq (hre t Tx S.2.1) 44) = true then 1 else 0) = S.2.1 := by
      rw [i1]; split <;> rfl
    unfold stg
    dsimp only
    rw [e1, e2]
    exact ⟨rfl, i2⟩
/-- what reading an order leaves -/
def OR (t : Nat) (Tx : Nat → Nat) (sp : Nat) (D' : Nat → Int32) (A' : Nat → Int32) : Prop := A' 1 = nI t ∧ A' 3 = nI (hre t Tx sp) ∧ A' 4 = nI (ordP t Tx sp) ∧ (ordF t Tx sp = true → ∀ j, j < cntL (hre t Tx sp) → D' j = nI (ordN t Tx sp j))
theorem ord_no {sp k : Nat} (hk : k ≤ cntL (hre t Tx sp)) (hk0 : 0 < k ∨ lgl (hre t Tx sp) = false) (h0 : (stgs t Tx (stg0 t Tx sp) k).1 = false) : ordF t Tx sp = false ∧ ordP t Tx sp = (stgs t Tx (stg0 t Tx sp) k).2.1 := by
  obtain ⟨a, b⟩ := stgs_no (s := stg0 t Tx sp) hk0 h0 (cntL (hre t Tx sp) - k)
  rw [show k + (cntL (hre t Tx sp) - k) = cntL (hre t Tx sp) by omega] at a b
  have e : ordF t Tx sp = false := by
    unfold ordF stgE
    rw [a]; rfl
  refine ⟨e, ?_⟩
  unfold ordP
  rw [e, if_neg ff]
  unfold stgE
  rw [b]; rfl
theorem c_orL (H : MI σ) (ht : t ≤ 60) (hTx : ∀ j, j < t → Tx j ≤ 126) (hx : ∀ j, j < t → gI σ 61 j = nI (Tx j)) {sp : Nat} (hsp : sp < t)
    (hK : ∀ A' D', OR t Tx sp D' A' → Q (some (.int (bI (ordF t Tx sp)))) (zS σ A' D')) :
    ∀ (d k : Nat) (A D : Nat → Int32), k + d = cntL (hre t Tx sp) → (stgs t Tx (stg0 t Tx sp) k).1 = true → A 1 = nI t → A 3 = nI (hre t Tx sp) → A 4 = nI (stgs t Tx (stg0 t Tx sp) k).2.1 → (∀ j, j < k → D j = nI ((stgs t Tx (stg0 t Tx sp) k).2.2 j)) → wp E 52 44 [.ref 60, .int (nI sp), .int (nI (cntL (hre t Tx sp))), .int (nI k)] [] (zS σ A D) Q := by
  have c3 : cntL (hre t Tx sp) ≤ 3 := by unfold cntL; split <;> omega
  have sple : ∀ k, k ≤ 3 → (stgs t Tx (stg0 t Tx sp) k).2.1 ≤ 100 := fun k hk => by
    have h1 := stgs_le (t := t) (Tx := Tx) (s := stg0 t Tx sp) k
    have h2 : (stg0 t Tx sp).2.1 ≤ sp + 1 := by unfold stg0; dsimp only; split <;> omega
    omega
  intro d
  induction d with
  | zero =>
    intro k A D hk hm h1 h3 h4 hD
    obtain rfl : k = cntL (hre t Tx sp) := by omega
    have hle := sple _ c3
    have eF : ordF t Tx sp = Nat.beq (hre t Tx (stgs t Tx (stg0 t Tx sp) (cntL (hre t Tx sp))).2.1) 59 := by
      unfold ordF stgE
      rw [hm, Bool.true_and]
    refine sg52_44 ⟨fun _ => ⟨sh60 H, c_tk H ht hTx hx (by decide) (by omega) h1 h4 (fun g => ⟨fb1, ?_⟩) fun g => ⟨fb0, ?_⟩⟩, fun z => absurd (nI_le (Nat.le_refl _) (by omega)) z⟩
    · have eT : ordF t Tx sp = true := by rw [eF, g]; rfl
      have := hK (upd A 4 (nI ((stgs t Tx (stg0 t Tx sp) (cntL (hre t Tx sp))).2.1 + 1))) D ⟨?_, ?_, ?_, fun _ => hD⟩
      · rw [eT] at this; exact this
      · rw [upd_n (by decide)]; exact h1
      · rw [upd_n (by decide)]; exact h3
      · rw [upd_s]
        unfold ordP
        rw [eT, if_pos rfl]; rfl
    · have eT : ordF t Tx sp = false := by
        rw [eF]
        cases hq : Nat.beq (hre t Tx (stgs t Tx (stg0 t Tx sp) (cntL (hre t Tx sp))).2.1) 59 with
        | false => rfl
        | true => exact absurd (beq_iff'.mp hq) g
      have := hK A D ⟨h1, h3, ?_, fun z => by rw [eT] at z; exact absurd z ff⟩
      · rw [eT] at this; exact this
      · rw [h4]
        unfold ordP
        rw [eT, if_neg ff]; rfl
  | succ d ih =>
    intro k A D hk hm h1 h3 h4 hD
    have hle := sple k (by omega)
    have nx := ih (k + 1)
    have eS : stgs t Tx (stg0 t Tx sp) (k + 1) = stg t Tx k (stgs t Tx (stg0 t Tx sp) k) := rfl
    have no := fun (h0 : (stgs t Tx (stg0 t Tx sp) (k + 1)).1 = false) => ord_no (t := t) (Tx := Tx) (sp := sp) (k := k + 1) (by omega) (Or.inl (Nat.succ_pos _)) h0
    rw [eS] at nx no
    generalize stgs t Tx (stg0 t Tx sp) k = S at hm h4 hD hle nx no
    have fin : ∀ (A1 D1 : Nat → Int32) (at0 : Nat), at0 ≤ 1000 → A1 1 = nI t → A1 3 = nI (hre t Tx sp) → A1 4 = nI at0 → (∀ j, j < k → D1 j = nI (S.2.2 j)) → stg t Tx k S = (Nat.blt 0 (nmR t Tx true at0).2.1, (nmR t Tx true at0).2.2, upN S.2.2 k (nmR t Tx true at0).1) → cI E 55 [.ref 60, .int (nI k)] (zS σ A1 D1) (fun x4 s3 =>
      (x4 ≠ (nI 0) → wp E 52 44 [.ref 60, .int (nI sp), .int (nI (cntL (hre t Tx sp))), .int (nI k + (nI 1))] [] s3 Q) ∧
      (¬ x4 ≠ (nI 0) → fN .boolean (nI 0) = true ∧ Q (some (.int (nI 0))) s3)) := by
      intro A1 D1 at0 ha b1 b3 b4 bD eG
      rw [eG] at nx no
      refine c_num H ht hTx hx (by omega) ha b1 b4 fun A' D' a4 aA aw aD => ⟨fun g => ?_, fun g => ?_⟩
      · rw [nI_add]
        refine nx A' D' (by omega) (bI_1 g) (by rw [aA 1 (by decide)]; exact b1) (by rw [aA 3 (by decide)]; exact b3) a4 fun j hj => ?_
        dsimp only
        by_cases hjk : j = k
        · rw [hjk, upN_s]; exact aw
        · rw [upN_n hjk, aD j hjk]; exact bD j (by omega)
      · obtain ⟨n1, n2⟩ := no (bI_2 g)
        refine ⟨fb0, ?_⟩
        have := hK A' D' ⟨by rw [aA 1 (by decide)]; exact b1, by rw [aA 3 (by decide)]; exact b3, ?_, fun z => by rw [n1] at z; exact absurd z ff⟩
        · rw [n1] at this; exact this
        · rw [n2]; exact a4
    have ek := nI_leI (a := k) (b := 0) (by omega) (by decide)
    refine sg52_44 ⟨fun z => absurd z (nI_ge (by omega) (by omega)), fun _ => ⟨fun g => ⟨sh60 H, ?_⟩, fun g => ⟨sh60 H, ?_⟩⟩⟩
    · have hk0 : k = 0 := by have := ek.mp g; omega
      refine fin A D S.2.1 (by omega) h1 h3 h4 hD ?_
      unfold stg
      rw [if_pos hk0, if_pos hk0, hm, Bool.true_and]
    · have hk0 : k ≠ 0 := fun z => g (ek.mpr (by omega))
      refine c_tk H ht hTx hx (by decide) (by omega) h1 h4 (fun g2 => ⟨fun z => absurd z (by decide), fun _ => ⟨sh60 H, ?_⟩⟩) fun g2 => ⟨fun _ => ⟨fb0, ?_⟩, fun z => absurd rfl z⟩
      · refine fin _ D (S.2.1 + 1) (by omega) (by rw [upd_n (by decide)]; exact h1) (by rw [upd_n (by decide)]; exact h3) upd_s hD ?_
        have e44 : Nat.beq (hre t Tx S.2.1) 44 = true := by rw [g2]; rfl
        unfold stg
        rw [if_neg hk0, if_neg hk0, hm, e44]
        rfl
      · have e44 : Nat.beq (hre t Tx S.2.1) 44 = false := by
          cases hq : Nat.beq (hre t Tx S.2.1) 44 with
          | false => rfl
          | true => exact absurd (beq_iff'.mp hq) g2
        have eG : (stg t Tx k S).1 = false ∧ (stg t Tx k S).2.1 = S.2.1 := by
          unfold stg
          rw [if_neg hk0, if_neg hk0, hm, e44]
          exact ⟨rfl, rfl⟩
        obtain ⟨n1, n2⟩ := no eG.1
        have := hK A D ⟨h1, h3, ?_, fun z => by rw [n1] at z; exact absurd z ff⟩
        · rw [n1] at this; exact this
        · rw [n2, eG.2]; exact h4
theorem fch {j : Nat} (h : j ≤ 126) : fN .char (nI j) = true := by
  have h1 : ∀ j, j < 127 → fN .char (nI j) = true := by decide
  exact h1 j (by omega)
theorem c_ord (H : MI σ) (ht : t ≤ 60) (hTx : ∀ j, j < t → Tx j ≤ 126) (hx : ∀ j, j < t → gI σ 61 j = nI (Tx j)) {sp : Nat} (hsp : sp < t) (h1 : A 1 = nI t)
    (hK : ∀ A' D', OR t Tx sp D' A' → K (bI (ordF t Tx sp)) (zS σ A' D')) : cI E 52 [.ref 60, .int (nI sp)] (zS σ A D) K := by
  have eh : hre t Tx sp = Tx sp := by unfold hre; rw [if_neg (by omega)]
  have hl := hTx sp hsp
  have eg : ∀ A D, gI (zS σ A D) 61 sp = nI (hre t Tx sp) := fun A D => (z_o (by decide) (by decide)).trans (by rw [eh]; exact hx sp hsp)
  refine sg52_0 ⟨sh60 H, nw_e z_w6 ⟨sh60 H, _, r60 H, sh60 H, 60, sh61 H, ?_, sh60 H, ?_, ?_⟩⟩
  · rw [z_6, upd_s]; exact vi (by omega) (by decide)
  · rw [z_6, upd_s, cl _ (by omega), eg]; exact fch (by omega)
  rw [z_6, upd_s, cl _ (by omega), eg]
  refine nw_e z_w6 ⟨sh60 H, ?_⟩
  rw [z_6, upd_s]
  have c3 : 1 ≤ cntL (hre t Tx sp) ∧ cntL (hre t Tx sp) ≤ 3 := by unfold cntL; split <;> omega
  refine c_nof (by omega) ⟨fun g => ⟨sh60 H, sh60 H, ?_⟩, fun g => ⟨fb0, ?_⟩⟩
  · have hlg : lgl (hre t Tx sp) = true := by
      cases hq : lgl (hre t Tx sp) with
      | true => rfl
      | false => rw [hq] at g; exact absurd rfl g
    have s0 : stg0 t Tx sp = (true, sp + 1, fun _ => 0) := by unfold stg0; rw [hlg]; rfl
    rw [if_pos hlg, z_6, upd_n (by decide), upd_s, nI_add]
    refine nw_e z_w6 (c_orL H ht hTx hx hsp hK (cntL (hre t Tx sp)) 0 _ _ (by omega) ?_ ?_ ?_ ?_ fun j hj => absurd hj (Nat.not_lt_zero _))
    · rw [stgs, s0]
    · rw [upd_n (by decide), upd_n (by decide), upd_n (by decide)]; exact h1
    · rw [upd_n (by decide), upd_s]
    · rw [upd_s, stgs, s0]
  · have hlg : lgl (hre t Tx sp) = false := by
      cases hq : lgl (hre t Tx sp) with
      | false => rfl
      | true =>
        rw [hq, if_pos rfl] at g
        exact absurd ((nI_eq (a := cntL (hre t Tx sp)) (b := 0) (by omega) (by decide)).mp (Classical.not_not.mp g)) (by omega)
    have s0 : stg0 t Tx sp = (false, sp + 0, fun _ => 0) := by unfold stg0; rw [hlg]; rfl
    obtain ⟨n1, n2⟩ := ord_no (t := t) (Tx := Tx) (sp := sp) (k := 0) (by omega) (Or.inr hlg) (by rw [stgs, s0])
    have := hK (upd (upd A 4 (nI sp)) 3 (nI (hre t Tx sp))) D ⟨?_, upd_s, ?_, fun z => by rw [n1] at z; exact absurd z ff⟩
    · rw [n1] at this; exact this
    · rw [upd_n (by decide), upd_n (by decide)]; exact h1
    · rw [upd_n (by decide), upd_s, n2, stgs, s0]; rfl
end COM23
