/-! the component's islands -/
section COM12
variable {E : AEnv} {σ τ : ASt} {B : Nat} {U U' : Nat → Nat → Int32} {V W : Nat → Nat} {m n t : Nat} {Q : Option Value → ASt → Prop} {K : Int32 → ASt → Prop} {KV : ASt → Prop}
/-- only the coins and the days, and island i, differ -/
theorem Rel.isl (R : Rel U V) {i : Nat} (hg : RG U' W) (hU : ∀ c k, c ≠ 0 → c ≠ 7 + i → U' c k = U c k) (hW : ∀ j, j ≠ 0 → j ≠ 11 → j ≠ 12 → j ≠ 13 → j ≠ 14 → (j < 32 + 5 * i ∨ 32 + 5 * i + 5 ≤ j) → W j = V j) (hb : RI U' W i) (hi8 : i < 8) (hV : V 1 ≤ 8 ∧ V 15 ≤ 8) : Rel U' W := by
  obtain ⟨_, r2, r3, r4, r5⟩ := R
  have w15 := hW 15 (by omega) (by omega) (by omega) (by omega) (by omega) (by omega)
  refine ⟨hg, fun s hs => ?_, ⟨?_, fun a ha => ?_⟩, fun j hj => ?_, fun c hc => ?_⟩
  · rw [hU 3 s (by omega) (by omega), hW _ (by omega) (by omega) (by omega) (by omega) (by omega) (by omega)]
    exact r2 s hs
  · rw [hU 4 2 (by omega) (by omega), w15]
    exact r3.1
  · rw [w15] at ha ⊢
    rw [hU 5 _ (by omega) (by omega), hU 6 _ (by omega) (by omega), hW (16 + 2 * a) (by omega) (by omega) (by omega) (by omega) (by omega) (by omega), hW (17 + 2 * a) (by omega) (by omega) (by omega) (by omega) (by omega) (by omega)]
    exact r3.2 a ha
  · rw [hW 1 (by omega) (by omega) (by omega) (by omega) (by omega) (by omega)] at hj
    by_cases hji : j = i
    · rw [hji]; exact hb
    · have := r4 j hj
      unfold RI at this ⊢
      rw [hU _ 0 (by omega) (by omega), hU _ 1 (by omega) (by omega), hU _ 2 (by omega) (by omega), hU _ 3 (by omega) (by omega), hU _ 4 (by omega) (by omega), hW (32 + 5 * j + 0) (by omega) (by omega) (by omega) (by omega) (by omega) (by omega), hW (32 + 5 * j + 1) (by omega) (by omega) (by omega) (by omega) (by omega) (by omega), hW (32 + 5 * j + 2) (by omega) (by omega) (by omega) (by omega) (by omega) (by omega), hW (32 + 5 * j + 3) (by omega) (by omega) (by omega) (by omega) (by omega) (by omega), hW (32 + 5 * j + 4) (by omega) (by omega) (by omega) (by omega) (by omega) (by omega)]
      exact this
  · rw [hW 2 (by omega) (by omega) (by omega) (by omega) (by omega) (by omega)] at hc
    have := r5 c hc
    have w : ∀ k, k < 8 → W (72 + 8 * c + k) = V (72 + 8 * c + k) := fun k hk => hW _ (by omega) (by omega) (by omega) (by omega) (by omega) (by omega)
    have ee : endsM W c = endsM V c := by unfold endsM; rw [w 0 (by omega), w 1 (by omega)]
    have es : stOf W c = stOf V c := by unfold stOf pntd; rw [w 4 (by omega), w 3 (by omega)]
    unfold RB at this ⊢
    rw [ee, es, hU _ 0 (by omega) (by omega), hU _ 1 (by omega) (by omega), hU _ 2 (by omega) (by omega), hU _ 3 (by omega) (by omega), hU _ 4 (by omega) (by omega), hU _ 5 (by omega) (by omega), hU _ 6 (by omega) (by omega), hU _ 7 (by omega) (by omega), hU _ 8 (by omega) (by omega), w 0 (by omega), w 1 (by omega), w 2 (by omega), w 3 (by omega), w 5 (by omega), w 6 (by omega), w 7 (by omega)]
    exact this
end COM12
