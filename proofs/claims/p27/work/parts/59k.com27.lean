/-! mean on both sides -/
section COM27
variable {E : AEnv} {σ τ : ASt} {p q : Nat} {h : Nat → Nat} {U : Nat → Nat → Int32} {V W : Nat → Nat} {m n t : Nat} {Hs : Nat → Nat → Nat} {Tx : Nat → Nat} {Q : Option Value → ASt → Prop} {K : Int32 → ASt → Prop} {KV : ASt → Prop}
theorem chk_nz {x : UInt32} (h : chkX x = true) : x &&& 0x7fffffff ≤ 0x7f800000 := by
  unfold chkX at h
  rw [Bool.and_eq_true, Bool.and_eq_true] at h
  exact of_decide_eq_true h.1.1
theorem chk_eq {x : UInt32} (h : chkX x = true) : Op.cmpValue (FP.fcmp x x) .l = nI 0 := by
  unfold chkX at h
  rw [Bool.and_eq_true, Bool.and_eq_true] at h
  exact of_decide_eq_true h.1.2
theorem chk_bt {x : UInt32} (h : chkX x = true) : bitM x = some x.toInt32 := by
  unfold chkX at h
  rw [Bool.and_eq_true, Bool.and_eq_true] at h
  exact of_decide_eq_true h.2
theorem c_42 {s : ASt} {x : UInt32} {r : Int32} (hK : Q (some (.int r)) s) : ∀ (d k : Nat) (e : Int32) (y : UInt32), k + d ≤ 126 → fl42 d e y = some r → wp E 90 42 [.float x, .int e, .float y, .int (nI k)] [] s Q := by
  have fin : ∀ e y, fe42 e y = some r → ((FP.fsub y (1065353216 : UInt32)) &&& 0x7fffffff ≤ 0x7f800000) ∧ ((FP.fmul (FP.fsub y (1065353216 : UInt32)) (1258291200 : UInt32)) &&& 0x7fffffff ≤ 0x7f800000) ∧ Q (some (.int ((e <<< ((nI 23) &&& 31)) ||| (FP.f2i (FP.fmul (FP.fsub y (1065353216 : UInt32)) (1258291200 : UInt32)))))) s := by
    intro e y h
    unfold fe42 at h
    rw [frc_e, frc_e] at h
    split at h
    · rename_i g
      rw [Bool.and_eq_true] at g
      cases h
      exact ⟨of_decide_eq_true g.1, of_decide_eq_true g.2, hK⟩
    · cases h
  intro d
  induction d with
  | zero => intro k e y hk h; cases h
  | succ d ih =>
    intro k e y hk h
    rw [fl42] at h
    refine sg90_42 ⟨fun z => absurd z (nI_ge (by omega) (by decide)), fun _ => ⟨fun g => ?_, fun g => ?_⟩⟩
    · rw [if_pos g] at h
      exact fin e y h
    · rw [if_neg g, frc_e] at h
      split at h
      · rename_i g2
        refine ⟨of_decide_eq_true g2, ?_⟩
        rw [nI_add]
        exact ih (k + 1) _ _ (by omega) h
      · cases h
theorem c_15 {s : ASt} {x : UInt32} {r : Int32} (hK : Q (some (.int r)) s) : ∀ (d k : Nat) (e : Int32) (y : UInt32), k + d ≤ 127 → fl15 d e y = some r → wp E 90 15 [.float x, .int e, .float y, .int (nI k)] [] s Q := by
  intro d
  induction d with
  | zero => intro k e y hk h; cases h
  | succ d ih =>
    intro k e y hk h
    rw [fl15] at h
    refine sg90_15 ⟨fun z => absurd z (nI_ge (by omega) (by decide)), fun _ => ⟨fun g => ?_, fun g => ?_⟩⟩
    · rw [if_pos g] at h
      exact c_42 hK 8 0 e y (by decide) h
    · rw [if_neg g, frc_e] at h
      split at h
      · rename_i g2
        refine ⟨of_decide_eq_true g2, ?_⟩
        rw [nI_add]
        exact ih (k + 1) _ _ (by omega) h
      · cases h
theorem c_90 {s : ASt} {x : UInt32} (h : chkX x = true) (hK : K x.toInt32 s) : cI E 90 [.float x] s K := by
  have hb := chk_bt h
  unfold bitM at hb
  refine sg90_0 ⟨fun g => ?_, fun g => ?_⟩
  · rw [if_pos g] at hb
    exact c_15 (Q := QI K) hK 10 0 (nI 127) x (by decide) hb
  · rw [if_neg g] at hb
    have := Option.some.inj hb
    rw [← this] at hK
    exact hK
def qMea (V : Nat → Nat) : Int32 := if V 2 = 0 then (-1000004 : Int32) else (qM (ctN V (V 2)) (V 2)).toInt32
theorem ctN_le (hw : WF m V) : ∀ k, k ≤ V 2 → ctN V k ≤ 100 * k
  | 0, _ => Nat.le_refl _
  | k + 1, hk => by
    have h3 := hw.2.2.1 k (by omega)
    have ih := ctN_le hw k (by omega)
    rw [ctN]
    omega
theorem chk_V (hw : WF m V) (h0 : V 2 ≠ 0) : chkX (qM (ctN V (V 2)) (V 2)) = true := chk_all (by omega) hw.w12.2 (ctN_le hw _ (Nat.le_refl _))
theorem u_mea (H : MI σ) (hc : CD σ V n Hs t Tx) (hw : WF m V) (hK : K (qMea V) σ) : cI E 75 [.ref 0] σ K := by
  obtain ⟨p, q, h, hd, hh, hv, ht⟩ := hc
  have hp : isB p := hd.1
  have h12 := hw.w12
  have R := hv.2.2.1
  have e : bS σ p (blk σ p) = σ := bS_blk
  have e0 := nI_eq (a := V 2) (b := 0) (by omega) (by decide)
  unfold qMea at hK
  rw [← e] at hK ⊢
  generalize blk σ p = U at R hK ⊢
  have rg := R.1
  unfold RG at rg
  refine sg75_0 ⟨sh0 H, p, hh.1, shS H hp, ?_, ?_⟩
  · rw [bS_get0, rg.2.1]
    intro g
    have hz : V 2 ≠ 0 := fun z => g (e0.mpr z)
    have hx := chk_V hw hz
    rw [if_neg hz] at hK
    refine ⟨sh0 H, p, hh.1, shS H hp, c_ct H hp hw R ⟨sh0 H, p, hh.1, shS H hp, ?_, ?_⟩⟩
    · rw [bS_get0, rg.2.1]; exact chk_nz hx
    · rw [bS_get0, rg.2.1]; exact c_90 hx hK
  · rw [bS_get0, rg.2.1]
    intro g
    rw [if_pos (e0.mp (Classical.not_not.mp g))] at hK
    exact hK
end COM27
