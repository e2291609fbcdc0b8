/-! p27: the law's crews -/
section CRX
variable {E : AEnv} {σ τ : ASt} {V W : Nat → Nat} {m n t N M : Nat} {Hs : Nat → Nat → Nat} {Tx : Nat → Nat} {Q : Option Value → ASt → Prop} {K : Int32 → ASt → Prop}
theorem snd_br {x f : Int32} (h : inBr V x = true ∧ inRg f (nI 0) (nI 1) = true) : eSnd V x f = if rsn V (toN x) = 0 ∨ (rsn V (toN x) = 4 ∧ f = nI 1) then nI 0 else (-1000002 : Int32) := by unfold eSnd; rw [if_pos h]
theorem snd_no {x f : Int32} (h : ¬ (inBr V x = true ∧ inRg f (nI 0) (nI 1) = true)) : eSnd V x f = (-1000001 : Int32) := by unfold eSnd; rw [if_neg h]
theorem two0 : ¬ nI 2 = 0 := nI_ne0 (by decide) (by decide)
theorem n2 {a : Nat} (ha : a < 2 ^ 31) : nI a / nI 2 = nI (a / 2) := nI_dv ha (by decide) (by decide)
theorem rg01 {f : Nat} (hf : f ≤ 1) : inRg (nI f) (nI 0) (nI 1) = true := (inRg_nn (by decide) (by decide)).mpr ⟨f, Nat.zero_le _, hf, rfl⟩
theorem rg01n {f : Nat} (hf : 1 < f) (hf2 : f < 2 ^ 31) : ¬ inRg (nI f) (nI 0) (nI 1) = true := fun z => by
  obtain ⟨j, _, h2, e⟩ := (inRg_nn (by decide) (by decide)).mp z
  rw [nI_eq hf2 (by omega)] at e
  omega
theorem ar0' (L : LJ N τ V n Hs t Tx) : AR N V n Hs τ := L.ar0
section S
variable {y : Int32} {b f : Nat}
/-- from where bad is known, and the number of the bridge and the force -/
theorem cr_66b (L : LJ N σ V n Hs t Tx) (hb : b ≤ V 2) (hf : f ≤ 2) (hbad : b = V 2 ∨ f = 2) {bn : Bool} (hK : ∀ τ, AR N V n Hs τ → Q (some (.int (nI 1))) τ) :
    wp E 103 66 [.ref 0, .int (nI 0), .int y, .int (nI (V 2)), .int (nI b), .int (bI bn), .int (nI (reachV V 0 99)), .int (nI f)] [.int (nI 1)] σ Q := by
  have hw := L.2.2.1
  have h12 := hw.w12
  have he : eSnd V (nI b) (nI f) = (-1000001 : Int32) := snd_no fun h => by
    rcases hbad with hv | hv
    · exact br_no hw (by omega) (by omega) h.1
    · exact rg01n (by omega) (by omega) h.2
  refine sg103_66 ⟨fun z => absurd z one0, fun _ => sg103_84 ⟨fun z => absurd z one0, fun _ => sg103_102 ⟨L.sh, j_asnd L (fun _ τ L2 => ?_) (fun h => absurd h (by rw [he]; exact lt01))⟩⟩⟩
  refine ⟨fun _ => ?_, fun z => absurd one0 z⟩
  rw [he]
  exact cr_not (bad := true) (hK τ L2.ar0) rfl
theorem cr_66g (L : LJ N σ V n Hs t Tx) (hb : b < V 2) (hf : f ≤ 1) (hK : ∀ τ, AR N V n Hs τ → Q (some (.int (nI 1))) τ) :
    wp E 103 66 [.ref 0, .int (nI 0), .int y, .int (nI (V 2)), .int (nI b), .int (nI 0), .int (nI (reachV V 0 99)), .int (nI f)] [.int (nI 0)] σ Q := by
  have hw := L.2.2.1
  have h12 := hw.w12
  have hrl := rsn_le (V := V) (b := b)
  have he := snd_br (V := V) (x := nI b) (f := nI f) ⟨br_in hw hb, rg01 hf⟩
  rw [toN_nI (by omega)] at he
  refine sg103_66 ⟨fun _ => ⟨L.sh, j_why L ?_⟩, fun z => absurd rfl z⟩
  rw [qw0 hw hb]
  refine sg103_84 ⟨fun _ => ⟨L.sh, j_brg L ?_⟩, fun z => absurd rfl z⟩
  rw [qb5 hw hb]
  have e4 : nI (rsn V b) = nI 4 ↔ rsn V b = 4 := nI_eq (by omega) (by decide)
  have e0 : nI (rsn V b) = nI 0 ↔ rsn V b = 0 := nI_eq (by omega) (by decide)
  refine sg103_102 ⟨L.sh, j_asnd L (fun hn τ L2 => ?_) (fun hp τ L2 => ?_)⟩
  · have hr : ¬ (rsn V b = 0 ∨ (rsn V b = 4 ∧ nI f = nI 1)) := fun z => by
      rw [he, if_pos z] at hn
      exact hn z_le
    rw [he, if_neg hr]
    have fin := cr_not (E := E) (a1 := nI 0) (y := y) (x3 := nI (V 2)) (x4 := nI b) (x5 := nI 0) (x6 := nI (reachV V 0 99)) (x7 := nI f) (x9 := nI (rsn V b)) (x10 := nI (V (72 + 8 * b + 5))) (bad := false) (hK τ L2.ar0) rfl
    refine ⟨fun z => absurd rfl z, fun _ => ⟨fun h => absurd (Or.inl (e0.mp h)) hr, fun _ => ⟨fun _ => fin, fun h4 => ⟨fun _ => fin, fun h1 => absurd (Or.inr ⟨e4.mp (Classical.not_not.mp h4), Classical.not_not.mp h1⟩) hr⟩⟩⟩⟩
  · have hr : rsn V b = 0 ∨ (rsn V b = 4 ∧ nI f = nI 1) := by
      rw [he] at hp
      split at hp
      · assumption
      · exact absurd hp lt02
    rw [toN_nI (by omega)] at L2 ⊢
    have fin := cr_can (E := E) (Q := Q) (y := y) (a1 := nI 0) (x8 := nI f) L hb L2 (hr.imp id And.left) (hK τ (L2.ar1 (by omega)))
    refine ⟨fun z => absurd rfl z, fun _ => ⟨fun h => fin, fun h => ⟨fun h4 => ?_, fun h4 => ⟨fun h1 => ?_, fun h1 => fin⟩⟩⟩⟩
    · rcases hr with z | z
      · exact absurd (e0.mpr z) h
      · exact absurd (e4.mpr z.1) h4
    · rcases hr with z | z
      · exact absurd (e0.mpr z) h
      · exact absurd z.2 h1
/-- a crew called back -/
theorem cr_287 (L : LJ N σ V n Hs t Tx) (hb : b ≤ V 2) (hK : ∀ τ, AR N V n Hs τ → Q (some (.int (nI 1))) τ) {a1 a5 a7 c : Int32} (h5 : a5 = if b = V 2 then nI 1 else nI 0) (h7 : a7 = if b = V 2 then nI 0 else if pntd V b = true then nI 1 else nI 0) (hc : b < V 2 → c = nI (V (72 + 8 * b + 3))) :
    wp E 103 287 [.ref 0, .int a1, .int y, .int (nI (V 2)), .int (nI b), .int a5, .int (nI (reachV V 0 99)), .int a7] [.int c] σ Q := by
  have hw := L.2.2.1
  have h12 := hw.w12
  by_cases hbv : b = V 2
  · rw [if_pos hbv] at h5 h7
    rw [h5, h7]
    have he : eRec V (nI b) = (-1000001 : Int32) := by
      unfold eRec
      rw [if_neg (br_no hw (by omega) (by omega))]
    refine sg103_287 ⟨L.sh, j_arec L (fun _ τ L2 => ?_) (fun h => absurd h (by rw [he]; exact lt01))⟩
    rw [he]
    exact ⟨fun z => absurd z one0, fun _ => ⟨nn, fun _ => ⟨fN1, hK τ L2.ar0⟩, fun z => absurd rfl z⟩⟩
  · rw [if_neg hbv] at h5 h7
    have hb : b < V 2 := by omega
    have he : eRec V (nI b) = if pntd V b = true then nI 0 else (-1000002 : Int32) := by
      unfold eRec
      rw [if_pos (br_in hw hb), toN_nI (by omega)]
    by_cases hp : pntd V b = true
    · rw [if_pos hp] at h7 he
      rw [h5, h7, hc hb]
      refine sg103_287 ⟨L.sh, j_arec L (fun h => absurd z_le (by rw [he] at h; exact h)) (fun _ τ L2 => ?_)⟩
      rw [toN_nI (by omega)] at L2 ⊢
      have hR := reach_lt hw.ends (i := 0) (wo := 99) (by decide)
      have hR2 := reach_lt L2.2.2.1.ends (i := 0) (wo := 99) (by decide)
      have hs := reach_rec hw.ends (b := b)
      have e2 : dRec V b 2 = V 2 := upN_n (by omega)
      have e3 : dRec V b (72 + 8 * b + 3) = V (72 + 8 * b + 3) := upN_n (by omega)
      have e4 : dRec V b (72 + 8 * b + 4) = 0 := by unfold dRec; rw [upN_s]
      have h3 := hw.2.2.1 b hb
      have hst : stOf (dRec V b) b = if 0 < V (72 + 8 * b + 3) then 0 else 2 := by
        unfold stOf pntd
        rw [e4, e3]
        rfl
      have fin : ∀ s, s = τ → sh s 0 5 8 ∧ cI E 65 [.ref 0, .int (nI b), .int (nI 3)] s (fun x6 s5 =>
          ¬ x6 ≠ nI (V (72 + 8 * b + 3)) ∧ sh s5 0 5 8 ∧ cI E 76 [.ref 0, .int (nI 3)] s5 (fun x8 s7 =>
          ¬ (nI (reachV V 0 99) &&& (x8 ^^^ (-1 : Int32))) ≠ (nI 0) ∧ fN .boolean (nI 1) = true ∧ Q (some (.int (nI 1))) s7)) := fun s hs2 => by
        subst hs2
        refine ⟨L2.sh, j_brg L2 ⟨?_, L2.sh, j_cnt L2 ⟨?_, fN1, hK s (L2.ar1 (by omega))⟩⟩⟩
        · rw [qb3 L2.2.2.1 (by omega), e3]
          exact nn
        · rw [cnt_3, nI_andn (by omega) (by omega), sub_out hs]
          exact nn
      refine ⟨fun _ => ⟨fun z => absurd z one0, fun _ => ⟨nn, fun z => absurd z one0, fun _ => ⟨L2.sh, j_brg L2 ⟨fun h => ⟨?_, fin τ rfl⟩, fun h => ⟨?_, fin τ rfl⟩⟩⟩⟩⟩, fun z => absurd rfl z⟩
      · rw [nI_leI (by omega) (by decide)] at h
        rw [qb4 L2.2.2.1 (by omega), hst, if_neg (by omega)]
        exact nn
      · rw [nI_leI (by omega) (by decide)] at h
        rw [qb4 L2.2.2.1 (by omega), hst, if_pos (by omega)]
        exact nn
    · rw [if_neg hp] at h7 he
      rw [h5, h7]
      refine sg103_287 ⟨L.sh, j_arec L (fun _ τ L2 => ?_) (fun h => absurd h (by rw [he]; exact lt02))⟩
      rw [he]
      exact ⟨fun _ => ⟨fun _ => ⟨nn, fun _ => ⟨fN1, hK τ L2.ar0⟩, fun z => absurd rfl z⟩, fun z => absurd rfl z⟩, fun z => absurd rfl z⟩
end S
theorem j_crews (L : LJ N σ V n Hs t Tx) {h : Nat} (hh : h ≤ 1) {y : Int32} (hK : ∀ τ, AR N V n Hs τ → K (nI 1) τ) : cI E 103 [.ref 0, .int (nI h), .int y] σ K := by
  have hw := L.2.2.1
  have h12 := hw.w12
  refine sg103_0 ⟨L.sh, j_cnt L ?_⟩
  rw [cnt_2, nI_add]
  refine j_low (by omega) (by omega) ?_
  have hbl := lowV_lt y (k := V 2 + 1) (by omega)
  generalize lowV y (V 2 + 1) = b at hbl ⊢
  have eb : nI b = nI (V 2) ↔ b = V 2 := nI_eq (by omega) (by omega)
  -- the crew is called back, or sent
  have rec_ : ∀ b0 : Int32, b0 = (if b = V 2 then nI 1 else nI 0) → h = 1 → wp E 103 248 [.ref 0, .int (nI h), .int y, .int (nI (V 2)), .int (nI b), .int b0, .int (nI (reachV V 0 99))] [] σ (QI K) := fun b0 e0 h1 => by
    refine sg103_248 ⟨fun hb0 => ?_, fun hb0 => ⟨L.sh, j_brg L ?_⟩⟩
    · have hv : b = V 2 := by
        by_cases hv : b = V 2
        · exact hv
        · rw [if_neg hv] at e0
          exact absurd e0 hb0
      refine sg103_269 ⟨fun z => absurd z hb0, fun _ => ?_⟩
      exact cr_287 L (by omega) (fun τ h => hK τ h) e0 (by rw [if_pos hv]) (fun z => by omega)
    · have hv : b < V 2 := by
        by_cases hv : b = V 2
        · rw [if_pos hv] at e0
          rw [e0] at hb0
          exact absurd one0 hb0
        · omega
      have hb1 : b0 = nI 0 := Classical.not_not.mp hb0
      have hsl := st_le (V := V) (b := b)
      rw [qb4 hw hv]
      have go : ∀ b7 : Int32, b7 = (if pntd V b = true then nI 1 else nI 0) → wp E 103 269 [.ref 0, .int (nI h), .int y, .int (nI (V 2)), .int (nI b), .int b0, .int (nI (reachV V 0 99))] [.int b7] σ (QI K) := fun b7 e7 => by
        refine sg103_269 ⟨fun _ => ⟨L.sh, j_brg L ?_⟩, fun z => absurd hb1 z⟩
        exact cr_287 L (by omega) (fun τ h => hK τ h) e0 (by rw [if_neg (by omega)]; exact e7) (fun _ => qb3 hw hv)
      refine ⟨fun g => go _ ?_, fun g => go _ ?_⟩
      · rw [if_neg (fun z => g (by rw [st_1.mpr z]))]
      · rw [if_pos (st_1.mp ((nI_eq (by omega) (by decide)).mp (Classical.not_not.mp g)))]
  have snd_ : ∀ b0 : Bool, (b0 = true ↔ b = V 2) → wp E 103 26 [.ref 0, .int (nI h), .int y, .int (nI (V 2)), .int (nI b)] [.int (bI b0)] σ (QI K) := fun b0 e0 => by
    refine sg103_26 ⟨L.sh, j_cnt L ?_⟩
    rw [cnt_3]
    refine ⟨fun hn => rec_ _ ?_ ?_, fun hz => ?_⟩
    · cases b0 with
      | true => rw [if_pos (e0.mp rfl)]; rfl
      | false => rw [if_neg (fun z => by have := e0.mpr z; cases this)]; rfl
    · rcases (by omega : h = 0 ∨ h = 1) with h0 | h0
      · rw [h0] at hn
        exact absurd rfl hn
      · exact h0
    · have h0 : h = 0 := (nI_eq (by omega) (by decide)).mp (Classical.not_not.mp hz)
      subst h0
      refine j_low (by decide) (by decide) ?_
      have hf := lowV_lt (y >>> ((nI 5) &&& 31)) (k := 5) (by decide)
      rw [n2 (by omega)]
      have hf2 : lowV (y >>> ((nI 5) &&& 31)) 5 / 2 ≤ 2 := by omega
      generalize lowV (y >>> ((nI 5) &&& 31)) 5 / 2 = f at hf2 ⊢
      have ef : nI f = nI 2 ↔ f = 2 := nI_eq (by omega) (by decide)
      refine ⟨two0, fun g => ?_, fun g => ⟨fun g2 => ?_, fun g2 => ?_⟩⟩
      · exact cr_66b L (by omega) hf2 (Or.inl (e0.mp (bI_1 g))) (fun τ h => hK τ h)
      · have hb0 := bI_2 g
        subst hb0
        exact cr_66g L (by have : b ≠ V 2 := fun z => by { have := e0.mpr z; cases this }; omega) (by have : f ≠ 2 := fun z => g2 (ef.mpr z); omega) (fun τ h => hK τ h)
      · exact cr_66b L (by omega) hf2 (Or.inr (ef.mp (Classical.not_not.mp g2))) (fun τ h => hK τ h)
  refine ⟨fun hne => snd_ false ⟨fun z => absurd z ff, fun z => absurd (eb.mpr z) hne⟩, fun he => snd_ true ⟨fun _ => eb.mp (Classical.not_not.mp he), fun _ => rfl⟩⟩
end CRX
