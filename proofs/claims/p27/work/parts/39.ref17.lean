/-! the reference reads an order -/
section REF17
variable {E : AEnv} {σ τ : ASt} {V : Nat → Nat} {m n t : Nat} {Tx : Nat → Nat} {P T f : Nat → Int32} {Q : Option Value → ASt → Prop} {K : Int32 → ASt → Prop} {KV : ASt → Prop}
def lgl (l : Nat) : Bool := Nat.beq l 105 || Nat.beq l 98 || Nat.beq l 115 || Nat.beq l 102 || Nat.beq l 114 || Nat.beq l 112 || Nat.beq l 100
def cntL (l : Nat) : Nat := if l = 98 then 3 else 1
def stg (t : Nat) (Tx : Nat → Nat) (k : Nat) (s : Bool × Nat × (Nat → Nat)) : Bool × Nat × (Nat → Nat) :=
  ((if k = 0 then s.1 else s.1 && Nat.beq (hre t Tx s.2.1) 44) && Nat.blt 0 (nmR t Tx (if k = 0 then s.1 else s.1 && Nat.beq (hre t Tx s.2.1) 44) (if k = 0 then s.2.1 else s.2.1 + if (s.1 && Nat.beq (hre t Tx s.2.1) 44) = true then 1 else 0)).2.1,
   (nmR t Tx (if k = 0 then s.1 else s.1 && Nat.beq (hre t Tx s.2.1) 44) (if k = 0 then s.2.1 else s.2.1 + if (s.1 && Nat.beq (hre t Tx s.2.1) 44) = true then 1 else 0)).2.2,
   upN s.2.2 k (nmR t Tx (if k = 0 then s.1 else s.1 && Nat.beq (hre t Tx s.2.1) 44) (if k = 0 then s.2.1 else s.2.1 + if (s.1 && Nat.beq (hre t Tx s.2.1) 44) = true then 1 else 0)).1)
def stgs (t : Nat) (Tx : Nat → Nat) (s : Bool × Nat × (Nat → Nat)) : Nat → Bool × Nat × (Nat → Nat)
  | 0 => s
  | k + 1 => stg t Tx k (stgs t Tx s k)
def stg0 (t : Nat) (Tx : Nat → Nat) (sp : Nat) : Bool × Nat × (Nat → Nat) := (lgl (hre t Tx sp), sp + (if lgl (hre t Tx sp) = true then 1 else 0), fun _ => 0)
def stgE (t : Nat) (Tx : Nat → Nat) (sp : Nat) : Bool × Nat × (Nat → Nat) := stgs t Tx (stg0 t Tx sp) (cntL (hre t Tx sp))
def ordF (t : Nat) (Tx : Nat → Nat) (sp : Nat) : Bool := (stgE t Tx sp).1 && Nat.beq (hre t Tx (stgE t Tx sp).2.1) 59
def ordP (t : Nat) (Tx : Nat → Nat) (sp : Nat) : Nat := (stgE t Tx sp).2.1 + (if ordF t Tx sp = true then 1 else 0)
def ordN (t : Nat) (Tx : Nat → Nat) (sp : Nat) : Nat → Nat := (stgE t Tx sp).2.2
theorem pN_le : ∀ (d v c sp : Nat), (pN t Tx d v c sp).2.2 ≤ sp + d
  | 0, _, _, sp => Nat.le_refl _
  | d + 1, v, c, sp => by
    rw [pN]
    have := pN_le d (10 * v + hre t Tx sp - 48) (c + 1) (sp + 1)
    split
    · omega
    · dsimp only; omega
theorem nmR_le {fm : Bool} {sp : Nat} : (nmR t Tx fm sp).2.2 ≤ sp + 3 := by
  unfold nmR
  split
  · exact pN_le 3 0 0 sp
  · dsimp only; omega
theorem stg_le {k : Nat} {s : Bool × Nat × (Nat → Nat)} : (stg t Tx k s).2.1 ≤ s.2.1 + 4 := by
  unfold stg
  dsimp only
  refine Nat.le_trans nmR_le ?_
  repeat' split
  all_goals omega
theorem stgs_le {s : Bool × Nat × (Nat → Nat)} : ∀ k, (stgs t Tx s k).2.1 ≤ s.2.1 + 4 * k
  | 0 => Nat.le_refl _
  | k + 1 => by
    have h1 := stgs_le (s := s) k
    have h2 := stg_le (t := t) (Tx := Tx) (k := k) (s := stgs t Tx s k)
    rw [stgs]
    omega
end REF17
