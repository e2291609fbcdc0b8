/-! the reference's day -/
theorem bI_1 {b : Bool} (h : ¬ bI b = nI 0) : b = true := by
  cases b with
  | true => rfl
  | false => exact absurd rfl h
section REF5
variable {E : AEnv} {σ : ASt} {V : Nat → Nat} {m : Nat} {Q : Option Value → ASt → Prop} {K : Int32 → ASt → Prop} {KV : ASt → Prop}
def s5 (σ : ASt) (f : Nat → Int32) : ASt := (σ.1, (fun q => if q = 185 then f else σ.2.1 q), σ.2.2)
/-- the crews that go by themselves -/
def aut : Nat → (Nat → Nat) → (Nat → Nat)
  | 0, W => W
  | n + 1, W => if bsV W = 99 then W else aut n (dSnd W (bsV W))
theorem bsN_ok (V : Nat → Nat) : ∀ n, bsN V n ≠ 99 → rsn V (bsN V n) = 0
  | 0, h => absurd rfl h
  | n + 1, h => by
    rw [bsN] at h ⊢
    split
    · rename_i h2
      exact h2.2.1
    · rename_i h2
      rw [if_neg h2] at h
      exact bsN_ok V n h
theorem bs_free {W : Nat → Nat} (h : bsV W ≠ 99) : pcV W < W 3 := by
  have h1 := bsN_ok W _ h
  unfold rsn at h1
  split at h1
  · omega
  · split at h1
    · omega
    · split at h1
      · omega
      · omega
end REF5
