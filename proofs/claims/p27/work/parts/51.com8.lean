/-! the component's changes to one bridge -/
section COM8
variable {E : AEnv} {σ τ : ASt} {B : Nat} {U U' : Nat → Nat → Int32} {V W : Nat → Nat} {m n t : Nat} {Q : Option Value → ASt → Prop} {K : Int32 → ASt → Prop} {KV : ASt → Prop}
/-- only the coins and the days, and bridge b, differ -/
theorem Rel.brg (R : Rel U V) {b : Nat} (hg : RG U' W) (hU : ∀ c k, c ≠ 0 → c ≠ 15 + b → U' c k = U c k) (hW : ∀ j, j ≠ 0 → j ≠ 11 → j ≠ 12 → j ≠ 13 → j ≠ 14 → (j < 72 + 8 * b ∨ 72 + 8 * b + 8 ≤ j) → W j = V j) (hb : RB U' W b) (hV : V 1 ≤ 8 ∧ V 15 ≤ 8) : Rel U' W := by
  obtain ⟨_, r2, r3, r4, r5⟩ := R
  have w15 := hW 15 (by omega) (by omega) (by omega) (by omega) (by omega) (by omega)
  refine ⟨hg, fun s hs => ?_, ⟨?_, fun a ha => ?_⟩, fun i hi => ?_, fun c hc => ?_⟩
  · rw [hU 3 s (by omega) (by omega), hW _ (by omega) (by omega) (by omega) (by omega) (by omega) (by omega)]
    exact r2 s hs
  · rw [hU 4 2 (by omega) (by omega), w15]
    exact r3.1
  · rw [w15] at ha ⊢
    · rw [hU 5 _ (by omega) (by omega), hU 6 _ (by omega) (by omega), hW (16 + 2 * a) (by omega) (by omega) (by omega) (by omega) (by omega) (by omega), hW (17 + 2 * a) (by omega) (by omega) (by omega) (by omega) (by omega) (by omega)]
      exact r3.2 a ha
  · rw [hW 1 (by omega) (by omega) (by omega) (by omega) (by omega) (by omega)] at hi
    have := r4 i hi
    unfold RI at this ⊢
    rw [hU _ 0 (by omega) (by omega), hU _ 1 (by omega) (by omega), hU _ 2 (by omega) (by omega), hU _ 3 (by omega) (by omega), hU _ 4 (by omega) (by omega), hW (32 + 5 * i + 0) (by omega) (by omega) (by omega) (by omega) (by omega) (by omega), hW (32 + 5 * i + 1) (by omega) (by omega) (by omega) (by omega) (by omega) (by omega), hW (32 + 5 * i + 2) (by omega) (by omega) (by omega) (by omega) (by omega) (by omega), hW (32 + 5 * i + 3) (by omega) (by omega) (by omega) (by omega) (by omega) (by omega), hW (32 + 5 * i + 4) (by omega) (by omega) (by omega) (by omega) (by omega) (by omega)]
    exact this
  · rw [hW 2 (by omega) (by omega) (by omega) (by omega) (by omega) (by omega)] at hc
    by_cases hcb : c = b
    · rw [hcb]; exact hb
    · have := r5 c hc
      have w : ∀ k, k < 8 → W (72 + 8 * c + k) = V (72 + 8 * c + k) := fun k hk => hW _ (by omega) (by omega) (by omega) (by omega) (by omega) (by omega)
      have ee : endsM W c = endsM V c := by unfold endsM; rw [w 0 (by omega), w 1 (by omega)]
      have es : stOf W c = stOf V c := by unfold stOf pntd; rw [w 4 (by omega), w 3 (by omega)]
      unfold RB at this ⊢
      rw [ee, es, hU _ 0 (by omega) (by omega), hU _ 1 (by omega) (by omega), hU _ 2 (by omega) (by omega), hU _ 3 (by omega) (by omega), hU _ 4 (by omega) (by omega), hU _ 5 (by omega) (by omega), hU _ 6 (by omega) (by omega), hU _ 7 (by omega) (by omega), hU _ 8 (by omega) (by omega), w 0 (by omega), w 1 (by omega), w 2 (by omega), w 3 (by omega), w 5 (by omega), w 6 (by omega), w 7 (by omega)]
      exact this
theorem RG.keep (h : RG U V) (hU : ∀ k, U' 0 k = U 0 k) (h0 : W 0 = V 0) (h1 : W 1 = V 1) (h2 : W 2 = V 2) (h11 : W 11 = V 11) (h12 : W 12 = V 12) (h13 : W 13 = V 13) (h14 : W 14 = V 14) : RG U' W := by
  unfold RG at h ⊢
  rw [hU, hU, hU, hU, hU, hU, hU, h0, h1, h2, h11, h12, h13, h14]
  exact h
end COM8
