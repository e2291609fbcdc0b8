/-! the reference's whole state; its records -/
section REF11
variable {E : AEnv} {σ τ : ASt} {V : Nat → Nat} {m n t : Nat} {Hs : Nat → Nat → Nat} {Tx : Nat → Nat} {Q : Option Value → ASt → Prop} {K : Int32 → ASt → Prop} {KV : ASt → Prop}
/-- only the reference's own cells differ -/
def FrM (σ τ : ASt) : Prop := τ.1 = σ.1 ∧ τ.2.2 = σ.2.2 ∧ ∀ c, c < 179 → τ.2.1 c = σ.2.1 c
theorem FrM.id (σ : ASt) : FrM σ σ := ⟨rfl, rfl, fun _ _ => rfl⟩
theorem FrM.tr {ρ : ASt} (h1 : FrM σ τ) (h2 : FrM τ ρ) : FrM σ ρ := ⟨h2.1.trans h1.1, h2.2.1.trans h1.2.1, fun c hc => (h2.2.2 c hc).trans (h1.2.2 c hc)⟩
theorem FrM.mi (h : FrM σ τ) (H : MI σ) : MI τ := ⟨h.1.trans H.1, fun q hq => by
  have h2 := H.2 q hq
  show τ.2.2 q.1 q.2.1 = q.2.2 + 1
  rw [h.2.1]
  exact h2⟩
theorem FrM.wr {c k : Nat} {x : Int32} (h : 179 ≤ c) : FrM σ (wrI σ c k x) := ⟨rfl, rfl, fun d hd => by
  show (if d = c then upd (σ.2.1 c) k x else σ.2.1 d) = _
  rw [if_neg (by omega)]⟩
theorem wr_s {c k : Nat} {x : Int32} : gI (wrI σ c k x) c k = x := by
  show (if c = c then upd (σ.2.1 c) k x else σ.2.1 c) k = x
  rw [if_pos rfl]
  exact if_pos rfl
theorem wr_c {c d k j : Nat} {x : Int32} (h : d ≠ c) : gI (wrI σ c k x) d j = gI σ d j := by
  show (if d = c then upd (σ.2.1 c) k x else σ.2.1 d) j = _
  rw [if_neg h]
  rfl
theorem wr_k {c k j : Nat} {x : Int32} (h : j ≠ k) : gI (wrI σ c k x) c j = gI σ c j := by
  show (if c = c then upd (σ.2.1 c) k x else σ.2.1 c) j = _
  rw [if_pos rfl]
  exact if_neg h
def pushN (n : Nat) : Nat := if n < 4 then n + 1 else 4
def pushH (n : Nat) (Hs : Nat → Nat → Nat) (V : Nat → Nat) : Nat → Nat → Nat := fun j => if n < 4 then (if j = n then V else Hs j) else (if j = 3 then V else Hs (j + 1))
end REF11
