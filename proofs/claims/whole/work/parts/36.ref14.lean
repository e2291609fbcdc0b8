/-! the reference: what would be -/
section REF14
variable {E : AEnv} {σ τ : ASt} {V : Nat → Nat} {m n t : Nat} {Hs : Nat → Nat → Nat} {Tx : Nat → Nat} {Q : Option Value → ASt → Prop} {K : Int32 → ASt → Prop} {KV : ASt → Prop}
/-- the state put aside -/
def asd (σ : ASt) : ASt := cpN σ 180 0 181 0 184
theorem asd_f : FrM σ (asd σ) := FrM.cp (by decide)
theorem asd_m (h : MD σ V n Hs t Tx) : MD (asd σ) V n Hs t Tx := by
  obtain ⟨h1, h2, h3, h4, h5, h6, h7⟩ := h
  refine ⟨fun k hk => ?_, ?_, h3, fun j hj k hk => ?_, ?_, h6, fun j hj => ?_⟩
  · unfold asd; rw [cp_o (by decide)]; exact h1 k hk
  · unfold asd; rw [cp_o (by decide)]; exact h2
  · unfold asd; rw [cp_o (by decide)]; exact h4 j hj k hk
  · unfold asd; rw [cp_o (by decide)]; exact h5
  · unfold asd; rw [cp_o (by decide)]; exact h7 j hj
theorem asd_v (h : MD σ V n Hs t Tx) {k : Nat} (hk : k < 184) : gI (asd σ) 181 k = nI (V k) := by
  have e := cp_in (σ := σ) (a := 180) (p := 0) (c := 181) (q := 0) (n := 184) hk
  rw [Nat.zero_add] at e
  unfold asd
  rw [e]
  exact h.1 k hk
/-- put back -/
theorem back_m {f : Nat → Int32} {W : Nat → Nat} (ht : MD τ V n Hs t Tx) (hv : ∀ k, k < 184 → gI τ 181 k = nI (V k)) : MD (cpN (mS (s5 τ f) W) 181 0 180 0 184) V n Hs t Tx := by
  obtain ⟨h1, h2, h3, h4, h5, h6, h7⟩ := ht.m5 (f := f) (W := W)
  refine ⟨fun k hk => ?_, ?_, h3, fun j hj k hk => ?_, ?_, h6, fun j hj => ?_⟩
  · have e := cp_in (σ := mS (s5 τ f) W) (a := 181) (p := 0) (c := 180) (q := 0) (n := 184) hk
    rw [Nat.zero_add] at e
    rw [e, mS_ne (by decide)]
    have := hv k hk
    exact this
  · rw [cp_o (by decide)]; exact h2
  · rw [cp_o (by decide)]; exact h4 j hj k hk
  · rw [cp_o (by decide)]; exact h5
  · rw [cp_o (by decide)]; exact h7 j hj
theorem back_f {f : Nat → Int32} {W : Nat → Nat} : FrM τ (cpN (mS (s5 τ f) W) 181 0 180 0 184) := FrM.m5.tr (FrM.cp (by decide))
theorem r_back (H : MI τ) {f : Nat → Int32} {W : Nat → Nat} (ht : MD τ V n Hs t Tx) (hv : ∀ k, k < 184 → gI τ 181 k = nI (V k)) (hK : ∀ ρ, FrM τ ρ → MD ρ V n Hs t Tx → KV ρ) : cV E 93 [.ref 181, .int (nI 0), .ref 180, .int (nI 0)] (mS (s5 τ f) W) KV :=
  r_cp (by decide) (sh181 H) (shV H) (by decide) (by decide) (by decide) (by decide) (hK _ back_f (back_m ht hv))
theorem dDay_o {j : Nat} (hj : j < 15) (h0 : j ≠ 0) (h1 : j ≠ 11) (h2 : j ≠ 12) (h3 : j ≠ 13) (h4 : j ≠ 14) : dDay V j = V j := by
  have e : ∀ N, dFin N j = N j := fun N => by
    have e2 : dEnd N j = N j := by unfold dEnd; simp (disch := omega) only [upN_n, upN_s]
    unfold dFin
    split
    · rw [aut_o (by omega), e2]
    · exact e2
  unfold dDay
  rw [e]
  unfold dBok
  split
  · rw [dIA_o _ h1 h3 (by omega), dW3_o (by omega) h1 h2]
  · rw [dNot_o (by omega), dIA_o _ h1 h3 (by omega), dW3_o (by omega) h1 h2]
theorem dDay_2 : dDay V 2 = V 2 := dDay_o (by decide) (by decide) (by decide) (by decide) (by decide) (by decide)
def pinL (b : Nat) : Nat → (Nat → Nat) → Nat → Int32
  | 0, _, _ => (-1000004 : Int32)
  | d + 1, W, k => if pntd W b = true then pinL b d (dDay W) (k + 1) else nI k
theorem r_pinL (H : MI τ) (ht : MD τ V n Hs t Tx) (hv : ∀ k, k < 184 → gI τ 181 k = nI (V k)) {b : Nat} : ∀ (d k : Nat) (W : Nat → Nat) (f : Nat → Int32), k + d = 201 → b < W 2 → WF (9999 + k) W → (∀ ρ, FrM τ ρ → MD ρ V n Hs t Tx → Q (some (.int (pinL b d W k))) ρ) → wp E 147 37 [.ref 179, .int (nI b), .int (nI k)] [] (mS (s5 τ f) W) Q := by
  intro d
  induction d with
  | zero =>
    intro k W f hk hb hw hK
    obtain rfl : k = 201 := by omega
    exact sg147_37 ⟨fun _ => ⟨shM H, _, rM1 H, shM H, _, rM0 H, r_back H ht hv fun ρ hf hm => ⟨fun z => absurd z (by decide), fun _ => hK ρ hf hm⟩⟩, fun z => absurd (by decide) z⟩
  | succ d ih =>
    intro k W f hk hb hw hK
    have H' : MI (s5 τ f) := H
    have hbb := hw.b hb
    have h1 := hw.1
    unfold W1 at h1
    rw [pinL] at hK
    refine sg147_37 ⟨fun z => absurd z (by rw [nI_ltI (by decide) (by omega)]; omega), fun _ => ⟨shM H, r_isP H' (by omega) hbb.2.2.1 ⟨fun g => ⟨shM H, _, rM1 H, shM H, _, rM0 H, r_back H ht hv fun ρ hf hm => ⟨fun _ => ?_, fun z => absurd (nI_le (by omega) (by omega)) z⟩⟩, fun g => ⟨shM H, r_day H' hw (by omega) fun f' => ?_⟩⟩⟩⟩
    · have := hK ρ hf hm
      rw [if_neg (bI_3 g)] at this
      exact this
    · rw [if_pos (bI_1 g)] at hK
      rw [s5_s5, nI_add]
      refine ih (k + 1) (dDay W) f' (by omega) ?_ (hw.day (by omega)) hK
      rw [dDay_2]; exact hb
def qPin (V : Nat → Nat) (x : Int32) : Int32 := if inBr V x = true then (if pntd V (toN x) = true then pinL (toN x) 201 V 0 else (-1000002 : Int32)) else (-1000001 : Int32)
theorem m_pin (H : MI σ) (hm : MD σ V n Hs t Tx) (hw : WF 9999 V) {x : Int32} (hK : ∀ τ, FrM σ τ → MD τ V n Hs t Tx → K (qPin V x) τ) : cI E 147 [.ref 179, .int x] σ K := by
  have es := mS_e hm
  have hK0 := hK σ (FrM.id σ) hm
  unfold qPin at hK hK0
  refine sg147_0 ⟨shM H, ?_⟩
  rw [← es]
  refine r_isB H ⟨fun g => ⟨shM H, ?_⟩, fun g => ?_⟩
  · rw [if_pos (show inBr V x = true from bI_1 g)] at hK hK0
    obtain ⟨hx, ex⟩ := inBr_n hw (bI_1 g)
    have hbb := hw.b hx
    have h1 := hw.1
    unfold W1 at h1
    rw [ex]
    refine r_isP H (by omega) hbb.2.2.1 ⟨fun g2 => ⟨shM H, _, rM0 H, shM H, _, rM1 H, ?_⟩, fun g2 => ?_⟩
    · rw [if_pos (bI_1 g2)] at hK
      rw [es]
      refine r_cp (by decide) (shV H) (sh181 H) (by decide) (by decide) (by decide) (by decide) ?_
      have Ha : MI (asd σ) := asd_f.mi H
      have ha := asd_m hm
      have h := r_pinL (E := E) (Q := QI K) (b := toN x) Ha ha (fun k hk => asd_v hm hk) 201 0 V ((asd σ).2.1 185) (by omega) hx (hw.to (by have := hw.2.2.2.2; unfold W5 at this; omega) (by omega)) (fun ρ hf hm2 => hK ρ (asd_f.tr hf) hm2)
      rw [s5_self, mS_e ha] at h
      exact h
    · rw [if_neg (by rw [bI_2 g2]; decide)] at hK0
      rw [es]
      exact hK0
  · rw [if_neg (show ¬ inBr V x = true from by rw [show inBr V x = false from bI_2 g]; decide)] at hK0
    rw [es]
    exact hK0
def alnL (R : Nat) : Nat → (Nat → Nat) → Nat → Int32
  | 0, _, _ => (-1000004 : Int32)
  | d + 1, W, k => if R ^^^ (R &&& reachV W 0 99) = 0 then alnL R d (dDay W) (k + 1) else nI k
theorem r_alnL (H : MI τ) (ht : MD τ V n Hs t Tx) (hv : ∀ k, k < 184 → gI τ 181 k = nI (V k)) {R : Nat} (hR : R < 2 ^ 8) : ∀ (d k : Nat) (W : Nat → Nat) (f : Nat → Int32), k + d = 201 → WF (9999 + k) W → (∀ ρ, FrM τ ρ → MD ρ V n Hs t Tx → Q (some (.int (alnL R d W k))) ρ) → wp E 148 23 [.ref 179, .int (nI R), .int (nI k)] [] (mS (s5 τ f) W) Q := by
  intro d
  induction d with
  | zero =>
    intro k W f hk hw hK
    obtain rfl : k = 201 := by omega
    exact sg148_23 ⟨fun _ => ⟨shM H, _, rM1 H, shM H, _, rM0 H, r_back H ht hv fun ρ hf hm => ⟨fun z => absurd z (by decide), fun _ => hK ρ hf hm⟩⟩, fun z => absurd (by decide) z⟩
  | succ d ih =>
    intro k W f hk hw hK
    have H' : MI (s5 τ f) := H
    have hl := reach_lt hw.ends (i := 0) (wo := 99) (by decide)
    rw [alnL] at hK
    refine sg148_23 ⟨fun z => absurd z (by rw [nI_ltI (by decide) (by omega)]; omega), fun _ => ⟨shM H, r_reach H' hw (by decide) woI_n ?_⟩⟩
    rw [nI_andn (by omega) (by omega)]
    have hx : R ^^^ (R &&& reachV W 0 99) < 2 ^ 8 := Nat.xor_lt_two_pow hR (Nat.lt_of_le_of_lt Nat.and_le_left hR)
    have e := nI_eq (a := R ^^^ (R &&& reachV W 0 99)) (b := 0) (by omega) (by decide)
    refine ⟨fun g => ⟨shM H, _, rM1 H, shM H, _, rM0 H, r_back H ht hv fun ρ hf hm => ⟨fun _ => ?_, fun z => absurd (nI_le (by omega) (by omega)) z⟩⟩, fun g => ⟨shM H, r_day H' hw (by omega) fun f' => ?_⟩⟩
    · have := hK ρ hf hm
      rw [if_neg (fun z => g (e.mpr z))] at this
      exact this
    · rw [if_pos (e.mp (Classical.not_not.mp g))] at hK
      rw [s5_s5, nI_add]
      exact ih (k + 1) (dDay W) f' (by omega) (hw.day (by omega)) hK
def qAln (V : Nat → Nat) : Int32 := alnL (reachV V 0 99) 201 V 0
theorem m_aln (H : MI σ) (hm : MD σ V n Hs t Tx) (hw : WF 9999 V) (hK : ∀ τ, FrM σ τ → MD τ V n Hs t Tx → K (qAln V) τ) : cI E 148 [.ref 179] σ K := by
  refine sg148_0 ⟨shM H, _, rM0 H, shM H, _, rM1 H, ?_⟩
  refine r_cp (by decide) (shV H) (sh181 H) (by decide) (by decide) (by decide) (by decide) ?_
  have Ha : MI (asd σ) := asd_f.mi H
  have ha := asd_m hm
  have ea := mS_e ha
  have hl := reach_lt hw.ends (i := 0) (wo := 99) (by decide)
  have h := r_alnL (E := E) (Q := QI K) Ha ha (fun k hk => asd_v hm hk) hl 201 0 V ((asd σ).2.1 185) (by omega) (hw.to (by have := hw.2.2.2.2; unfold W5 at this; omega) (by omega)) (fun ρ hf hm2 => hK ρ (asd_f.tr hf) hm2)
  rw [s5_self] at h
  refine ⟨shM Ha, ?_⟩
  have g : cI E 106 [.ref 179, .int (nI 0), .int (-1000004 : Int32)] (mS (asd σ) V) (fun x5 s4 => wp E 148 23 [.ref 179, .int x5, .int (nI 0)] [] s4 (QI K)) := r_reach Ha hw (by decide) woI_n h
  rw [ea] at g
  exact g
def qIfd (V : Nat → Nat) (x : Int32) : Int32 := if inRg x (nI 1) (nI 99) = true then nI (cDays (toN x) V) else (-1000001 : Int32)
theorem m_ifd (H : MI σ) (hm : MD σ V n Hs t Tx) (hw : WF 9999 V) {x : Int32} (hK : ∀ τ, FrM σ τ → MD τ V n Hs t Tx → K (qIfd V x) τ) : cI E 149 [.ref 179, .int x] σ K := by
  have hK0 := hK σ (FrM.id σ) hm
  unfold qIfd at hK hK0
  refine sg149_0 (r_in ⟨fun g => ⟨shM H, _, rM0 H, shM H, _, rM1 H, ?_⟩, fun g => ?_⟩)
  · rw [if_pos (bI_1 g)] at hK
    obtain ⟨x1, x2, ex⟩ := inRg_n (by decide) (by decide) (bI_1 g)
    refine r_cp (by decide) (shV H) (sh181 H) (by decide) (by decide) (by decide) (by decide) ?_
    have Ha : MI (asd σ) := asd_f.mi H
    have ha := asd_m hm
    have ea := mS_e ha
    refine ⟨shM Ha, ?_⟩
    have h : cI E 121 [.ref 179, .int (nI (toN x))] (mS (asd σ) V) (fun x7 s6 => sh s6 179 6 15 ∧ ∃ r8, rf s6 179 1 r8 ∧ sh s6 179 6 15 ∧ ∃ r9, rf s6 179 0 r9 ∧ cV E 93 [.ref r8, .int (nI 0), .ref r9, .int (nI 0)] s6 (fun s10 => QI K (some (.int x7)) s10)) :=
      r_dys Ha hw (by omega) fun f => ⟨shM Ha, _, rM1 Ha, shM Ha, _, rM0 Ha, r_back Ha ha (fun k hk => asd_v hm hk) fun ρ hf hm2 => hK ρ (asd_f.tr hf) hm2⟩
    rw [ea, ← ex] at h
    exact h
  · rw [if_neg (by rw [bI_2 g]; decide)] at hK0
    exact hK0
end REF14
