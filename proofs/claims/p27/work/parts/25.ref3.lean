/-! the reference's changes -/
section REF3
variable {E : AEnv} {σ : ASt} {V : Nat → Nat} {m : Nat} {Q : Option Value → ASt → Prop} {K : Int32 → ASt → Prop} {KV : ASt → Prop}
theorem ff : ¬ (false = true) := by decide
theorem nI_subT {a b : Nat} (ha : a < 2 ^ 31) (hb : b < 2 ^ 31) (h : nI 0 ≤ nI a - nI b) : b ≤ a := by
  rw [Int32.le_iff_toInt_le, nI_toInt (by decide), Int32.toInt_sub, nI_toInt ha, nI_toInt hb, Int.bmod_def] at h
  split at h <;> omega
def zI (V : Nat → Nat) (i : Nat) : Nat → (Nat → Nat)
  | 0 => V
  | n + 1 => upN (zI V i n) (32 + 5 * i + n) 0
theorem zI_o {i j : Nat} : ∀ n, (j < 32 + 5 * i ∨ 32 + 5 * i + n ≤ j) → zI V i n j = V j
  | 0, _ => rfl
  | n + 1, h => by rw [zI, upN_n (by omega)]; exact zI_o n (by omega)
theorem zI_z {i j : Nat} : ∀ n, 32 + 5 * i ≤ j → j < 32 + 5 * i + n → zI V i n j = 0
  | 0, _, _ => by omega
  | n + 1, h1, h2 => by
    rw [zI]
    by_cases hj : j = 32 + 5 * i + n
    · rw [hj, upN_s]
    · rw [upN_n hj]; exact zI_z n h1 (by omega)
def zB (V : Nat → Nat) (i : Nat) : Nat → (Nat → Nat)
  | 0 => V
  | n + 1 => upN (zB V i n) (72 + 8 * i + n) 0
theorem zB_o {i j : Nat} : ∀ n, (j < 72 + 8 * i ∨ 72 + 8 * i + n ≤ j) → zB V i n j = V j
  | 0, _ => rfl
  | n + 1, h => by rw [zB, upN_n (by omega)]; exact zB_o n (by omega)
theorem zB_z {i j : Nat} : ∀ n, 72 + 8 * i ≤ j → j < 72 + 8 * i + n → zB V i n j = 0
  | 0, _, _ => by omega
  | n + 1, h1, h2 => by
    rw [zB]
    by_cases hj : j = 72 + 8 * i + n
    · rw [hj, upN_s]
    · rw [upN_n hj]; exact zB_z n h1 (by omega)
def dIsl (V : Nat → Nat) (f : Nat) : Nat → Nat := upN (upN (zI V (V 1) 5) (32 + 5 * V 1 + 0) f) 1 (V 1 + 1)
def dBrg (V : Nat → Nat) (o t w : Nat) : Nat → Nat := upN (upN (upN (upN (upN (zB V (V 2) 8) (72 + 8 * V 2 + 0) o) (72 + 8 * V 2 + 1) t) (72 + 8 * V 2 + 2) w) (72 + 8 * V 2 + 3) 100) 2 (V 2 + 1)
def dSnd (V : Nat → Nat) (b : Nat) : Nat → Nat := upN (upN V (72 + 8 * b + 4) 1) (72 + 8 * b + 5) (V (72 + 8 * b + 5) + 1)
def dRec (V : Nat → Nat) (b : Nat) : Nat → Nat := upN V (72 + 8 * b + 4) 0
def dPay (V : Nat → Nat) (c : Nat) : Nat → Nat := upN (upN V 11 (V 11 + c)) 14 (V 14 + c)
/-- one day of one crew -/
def dPnt (V : Nat → Nat) (b : Nat) : Nat → Nat :=
  if V 5 ≤ V 11 then
    let W := upN (upN (upN (upN V 11 (V 11 - V 5)) 12 (V 12 + V 5)) (72 + 8 * b + 7) (V (72 + 8 * b + 7) + V 5)) (72 + 8 * b + 3) (V (72 + 8 * b + 3) + V 4)
    if V (72 + 8 * b + 3) + V 4 < 100 then W else upN (upN W (72 + 8 * b + 3) 100) (72 + 8 * b + 4) 0
  else V
def dWea (V : Nat → Nat) (b : Nat) : Nat → Nat := upN V (72 + 8 * b + 3) (V (72 + 8 * b + 3) - V (72 + 8 * b + 2))
/-- one day of one island: its vector, its complaint -/
def dWai (V : Nat → Nat) (i : Nat) (r : Bool) : Nat → Nat :=
  if r = true then upN V (32 + 5 * i + 1) 0
  else if V 6 = 1 ∧ V (32 + 5 * i + 0) ≤ V 11 then upN (upN (upN (upN V 11 (V 11 - V (32 + 5 * i + 0))) 13 (V 13 + V (32 + 5 * i + 0))) (32 + 5 * i + 4) (V (32 + 5 * i + 4) + 1)) (32 + 5 * i + 1) 0
  else
    let W := upN (upN V (32 + 5 * i + 1) (V (32 + 5 * i + 1) + 1)) (32 + 5 * i + 3) (if V (32 + 5 * i + 1) + 1 ≤ V (32 + 5 * i + 3) then V (32 + 5 * i + 3) else V (32 + 5 * i + 1) + 1)
    if V 7 < V (32 + 5 * i + 1) + 1 then upN W (32 + 5 * i + 2) (V (32 + 5 * i + 2) + 1) else W
def cWai (V : Nat → Nat) (i : Nat) (r : Bool) : Nat :=
  if r = true then 0 else if V 6 = 1 ∧ V (32 + 5 * i + 0) ≤ V 11 then 0 else if V 7 < V (32 + 5 * i + 1) + 1 then 1 else 0
end REF3
