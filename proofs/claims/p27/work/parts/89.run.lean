/-! the law's run as the claim wants it -/
theorem shp_len : SHP.length ≤ 1000 := by decide +kernel
theorem shp_tot : tot SHP ≤ 7231638 := by decide +kernel
theorem law_run (L : Nat) (xs : Nat → Int32) (hL : L ≤ 260) : wp (lawE L xs) lawI 0 [.ref 1003] [] sig0 (fun r σ => r = some (.int 1) ∧ σ.1.length ≤ 1000 ∧ tot σ.1 ≤ 7231638) :=
  wp_mono (law_all L xs hL) fun r s h => ⟨h.1, by rw [h.2]; exact shp_len, by rw [h.2]; exact shp_tot⟩
