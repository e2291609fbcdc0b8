/-! the reference's whole state; its records -/
section REF11
variable {E : AEnv} {σ τ : ASt} {V : Nat → Nat} {m n t : Nat} {Hs : Nat → Nat → Nat} {Tx : Nat → Nat} {Q : Option Value → ASt → Prop} {K : Int32 → ASt → Prop} {KV : ASt → Prop}
/-- only the reference's own cells differ -/
def FrM (σ τ : ASt) : Prop := τ.1 = σ.1 ∧ τ.2.2 = σ.2.2 ∧ ∀ c, c < 179 → τ.2.1 c = σ.2.1 c
theorem FrM.id (σ : ASt) : FrM σ σ := ⟨rfl, rfl, fun _ _ => rfl⟩
theorem FrM.tr {ρ : ASt} (h1 : FrM σ τ) (h2 : FrM τ ρ) : FrM σ ρ := ⟨h2.1.trans h1.1, h2.2.1.trans h1.2.1, fun c hc => (h2.2.2 c hc).trans (h1.2.2 c hc)⟩
theorem FrM.mi (h : FrM σ τ) (H : MI σ) : MI τ := ⟨h.1.trans H.1, fun q hq => by
  have h2 := H.2 q hq
  show τ.2.2 q.1 q.2.1 = q.2.2 + 1
  rw [h.2.1]
  exact h2⟩
theorem FrM.wr {c k : Nat} {x : Int32} (h : 179 ≤ c) : FrM σ (wrI σ c k x) := ⟨rfl, rfl, fun d hd => by
  show (if d = c then upd (σ.2.1 c) k x else σ.2.1 d) = _
  rw [if_neg (by omega)]⟩
theorem FrM.m5 {f : Nat → Int32} {W : Nat → Nat} : FrM σ (mS (s5 σ f) W) := ⟨rfl, rfl, fun c hc => by
  show (if c = 180 then _ else if c = 185 then f else σ.2.1 c) = _
  rw [if_neg (by omega), if_neg (by omega)]⟩
theorem FrM.mm {W : Nat → Nat} : FrM σ (mS σ W) := ⟨rfl, rfl, fun c hc => by
  show (if c = 180 then _ else σ.2.1 c) = _
  rw [if_neg (by omega)]⟩
theorem wr_s {c k : Nat} {x : Int32} : gI (wrI σ c k x) c k = x := by
  show (if c = c then upd (σ.2.1 c) k x else σ.2.1 c) k = x
  rw [if_pos rfl]
  exact if_pos rfl
theorem wr_c {c d k j : Nat} {x : Int32} (h : d ≠ c) : gI (wrI σ c k x) d j = gI σ d j := by
  show (if d = c then upd (σ.2.1 c) k x else σ.2.1 d) j = _
  rw [if_neg h]
  rfl
theorem wr_k {c k j : Nat} {x : Int32} (h : j ≠ k) : gI (wrI σ c k x) c j = gI σ c j := by
  show (if c = c then upd (σ.2.1 c) k x else σ.2.1 c) j = _
  rw [if_pos rfl]
  exact if_neg h
/-- what the reference holds: the vector, the older ones, the text -/
def MD (σ : ASt) (V : Nat → Nat) (n : Nat) (Hs : Nat → Nat → Nat) (t : Nat) (Tx : Nat → Nat) : Prop :=
  (∀ k, k < 184 → gI σ 180 k = nI (V k)) ∧ gI σ 179 4 = nI n ∧ n ≤ 4 ∧ (∀ j, j < n → ∀ k, k < 184 → gI σ 183 (184 * j + k) = nI (Hs j k)) ∧ gI σ 179 6 = nI t ∧ t ≤ 60 ∧ ∀ j, j < t → gI σ 184 j = nI (Tx j)
theorem MD.m5 (h : MD σ V n Hs t Tx) {f : Nat → Int32} {W : Nat → Nat} : MD (mS (s5 σ f) W) W n Hs t Tx := by
  have o : ∀ c k, c ≠ 180 → c ≠ 185 → gI (mS (s5 σ f) W) c k = gI σ c k := fun c k h1 h2 => by
    rw [mS_ne h1]
    show (if c = 185 then f else σ.2.1 c) k = _
    rw [if_neg h2]
    rfl
  obtain ⟨h1, h2, h3, h4, h5, h6, h7⟩ := h
  refine ⟨fun k hk => mS_get hk, ?_, h3, ?_, ?_, h6, ?_⟩
  · rw [o _ _ (by decide) (by decide)]; exact h2
  · intro j hj k hk
    rw [o _ _ (by decide) (by decide)]; exact h4 j hj k hk
  · rw [o _ _ (by decide) (by decide)]; exact h5
  · intro j hj
    rw [o _ _ (by decide) (by decide)]; exact h7 j hj
theorem MD.mm (h : MD σ V n Hs t Tx) {W : Nat → Nat} : MD (mS σ W) W n Hs t Tx := by
  have := h.m5 (f := σ.2.1 185) (W := W)
  rw [s5_self] at this
  exact this
/-- n words copied -/
def cpN (σ : ASt) (a p c q : Nat) (n : Nat) : ASt := (σ.1, (fun x => if x = c then (fun k => if q ≤ k ∧ k < q + n then σ.2.1 a (p + (k - q)) else σ.2.1 c k) else σ.2.1 x), σ.2.2)
theorem cpN_0 {a p c q : Nat} : cpN σ a p c q 0 = σ := by
  obtain ⟨x, y, z⟩ := σ
  unfold cpN
  dsimp only
  congr 2
  funext x
  by_cases h : x = c
  · rw [if_pos h]
    funext k
    rw [if_neg (by omega), h]
  · rw [if_neg h]
theorem cpN_s {a p c q n : Nat} (hac : a ≠ c) : wrI (cpN σ a p c q n) c (q + n) (gI (cpN σ a p c q n) a (p + n)) = cpN σ a p c q (n + 1) := by
  have e : gI (cpN σ a p c q n) a (p + n) = σ.2.1 a (p + n) := by
    show (if a = c then _ else σ.2.1 a) (p + n) = _
    rw [if_neg hac]
  rw [e]
  unfold wrI cpN
  dsimp only
  congr 2
  funext x
  by_cases h : x = c
  · rw [if_pos h, if_pos h, if_pos rfl]
    funext k
    unfold upd
    by_cases hk : k = q + n
    · rw [if_pos hk, if_pos (by omega), hk, Nat.add_sub_cancel_left]
    · rw [if_neg hk]
      try dsimp only
      by_cases hr : q ≤ k ∧ k < q + n
      · rw [if_pos hr, if_pos (by omega)]
      · rw [if_neg hr, if_neg (by omega)]
  · rw [if_neg h, if_neg h, if_neg h]
theorem r_cpL {a p c q na nc : Nat} (hac : a ≠ c) (ha : sh σ a 10 na) (hc : sh σ c 10 nc) (hp : p + 184 ≤ na) (hq : q + 184 ≤ nc) (hna : na < 2 ^ 31) (hnc : nc < 2 ^ 31) (hK : Q none (cpN σ a p c q 184)) : ∀ d k : Nat, k + d = 184 → wp E 93 3 [.ref a, .int (nI p), .ref c, .int (nI q), .int (nI k)] [] (cpN σ a p c q k) Q := by
  intro d
  induction d with
  | zero =>
    intro k hk
    obtain rfl : k = 184 := by omega
    exact sg93_3 ⟨fun _ => hK, fun h => absurd (nI_le (Nat.le_refl _) (by decide)) h⟩
  | succ d ih =>
    intro k hk
    refine sg93_3 ⟨fun h => absurd h (nI_ge (by omega) (by omega)), fun _ => ?_⟩
    rw [nI_add, nI_add, nI_add, cl _ (by omega), cl _ (by omega)]
    exact ⟨na, ha, vi (by omega) hna, nc, hc, vi (by omega) hnc, nw_e (cpN_s hac) (ih (k + 1) (by omega))⟩
theorem r_cp {a p c q na nc : Nat} (hac : a ≠ c) (ha : sh σ a 10 na) (hc : sh σ c 10 nc) (hp : p + 184 ≤ na) (hq : q + 184 ≤ nc) (hna : na < 2 ^ 31) (hnc : nc < 2 ^ 31) (hK : KV (cpN σ a p c q 184)) : cV E 93 [.ref a, .int (nI p), .ref c, .int (nI q)] σ KV := by
  have h := r_cpL (E := E) (Q := QV KV) hac ha hc hp hq hna hnc hK 184 0 (by omega)
  rw [cpN_0] at h
  exact sg93_0 h
theorem cp_o {a p c q n x k : Nat} (h : x ≠ c) : gI (cpN σ a p c q n) x k = gI σ x k := by
  show (if x = c then _ else σ.2.1 x) k = _
  rw [if_neg h]
  rfl
theorem cp_in {a p c q n k : Nat} (h : k < n) : gI (cpN σ a p c q n) c (q + k) = gI σ a (p + k) := by
  show (if c = c then (fun k => if q ≤ k ∧ k < q + n then σ.2.1 a (p + (k - q)) else σ.2.1 c k) else σ.2.1 c) (q + k) = _
  rw [if_pos rfl]
  try dsimp only
  rw [if_pos (by omega), Nat.add_sub_cancel_left]
  rfl
theorem cp_out {a p c q n k : Nat} (h : k < q ∨ q + n ≤ k) : gI (cpN σ a p c q n) c k = gI σ c k := by
  show (if c = c then (fun k => if q ≤ k ∧ k < q + n then σ.2.1 a (p + (k - q)) else σ.2.1 c k) else σ.2.1 c) k = _
  rw [if_pos rfl]
  try dsimp only
  rw [if_neg (by omega)]
  rfl
theorem FrM.cp {a p c q n : Nat} (h : 179 ≤ c) : FrM σ (cpN σ a p c q n) := ⟨rfl, rfl, fun d hd => by
  show (if d = c then _ else σ.2.1 d) = _
  rw [if_neg (by omega)]⟩
def pushN (n : Nat) : Nat := if n < 4 then n + 1 else 4
def pushH (n : Nat) (Hs : Nat → Nat → Nat) (V : Nat → Nat) : Nat → Nat → Nat := fun j => if n < 4 then (if j = n then V else Hs j) else (if j = 3 then V else Hs (j + 1))
theorem rM3 (H : MI σ) : rf σ 179 3 183 := H.rf (by decide +kernel)
theorem rM1 (H : MI σ) : rf σ 179 1 181 := H.rf (by decide +kernel)
theorem rM2 (H : MI σ) : rf σ 179 2 182 := H.rf (by decide +kernel)
theorem rM5 (H : MI σ) : rf σ 179 5 184 := H.rf (by decide +kernel)
theorem sh181 (H : MI σ) : sh σ 181 10 184 := H.sh rfl
theorem sh182 (H : MI σ) : sh σ 182 10 184 := H.sh rfl
theorem sh183 (H : MI σ) : sh σ 183 10 736 := H.sh rfl
theorem sh184 (H : MI σ) : sh σ 184 10 60 := H.sh rfl
/-- the older ones moved by k words -/
def mvN (σ : ASt) (n : Nat) : ASt := (σ.1, (fun x => if x = 183 then (fun k => if k < n then σ.2.1 183 (k + 184) else σ.2.1 183 k) else σ.2.1 x), σ.2.2)
theorem mvN_0 : mvN σ 0 = σ := by
  obtain ⟨x, y, z⟩ := σ
  unfold mvN
  dsimp only
  congr 2
  funext x
  by_cases h : x = 183
  · rw [if_pos h, h]
    funext k
    rw [if_neg (by omega)]
  · rw [if_neg h]
theorem mv_in {n k : Nat} (h : k < n) : gI (mvN σ n) 183 k = gI σ 183 (k + 184) := by
  show (if 183 = 183 then (fun k => if k < n then σ.2.1 183 (k + 184) else σ.2.1 183 k) else σ.2.1 183) k = _
  rw [if_pos rfl]
  try dsimp only
  rw [if_pos h]
  rfl
theorem mv_out {n k : Nat} (h : n ≤ k) : gI (mvN σ n) 183 k = gI σ 183 k := by
  show (if 183 = 183 then (fun k => if k < n then σ.2.1 183 (k + 184) else σ.2.1 183 k) else σ.2.1 183) k = _
  rw [if_pos rfl]
  try dsimp only
  rw [if_neg (by omega)]
  rfl
theorem mv_o {n x k : Nat} (h : x ≠ 183) : gI (mvN σ n) x k = gI σ x k := by
  show (if x = 183 then _ else σ.2.1 x) k = _
  rw [if_neg h]
  rfl
theorem mvN_s {n : Nat} : wrI (mvN σ n) 183 n (gI (mvN σ n) 183 (n + 184)) = mvN σ (n + 1) := by
  rw [mv_out (by omega)]
  unfold wrI mvN
  dsimp only
  congr 2
  funext x
  by_cases h : x = 183
  · rw [if_pos h, if_pos h, if_pos rfl]
    funext k
    unfold upd
    by_cases hk : k = n
    · rw [if_pos hk, if_pos (by omega), hk]
      rfl
    · rw [if_neg hk]
      try dsimp only
      by_cases hr : k < n
      · rw [if_pos hr, if_pos (by omega)]
      · rw [if_neg hr, if_neg (by omega)]
  · rw [if_neg h, if_neg h, if_neg h]
theorem r_rec (H : MI σ) (h : MD σ V n Hs t Tx) (hK : ∀ τ, FrM σ τ → MD τ V (pushN n) (pushH n Hs V) t Tx → KV τ) : cV E 94 [.ref 179] σ KV := by
  obtain ⟨h1, h2, h3, h4, h5, h6, h7⟩ := h
  have e4 := nI_eq (a := n) (b := 4) (by omega) (by decide)
  refine sg94_0 ⟨shM H, fun g => ⟨shM H, _, rM0 H, shM H, _, rM3 H, shM H, ?_⟩, fun g => ?_⟩
  · rw [h2] at g ⊢
    have hn : n < 4 := by
      have : n ≠ 4 := fun z => g (e4.mpr z)
      omega
    rw [pk_mul]
    refine r_cp (by decide) (shV H) (sh183 H) (by omega) (by omega) (by decide) (by decide) ⟨shM H, shM H, nw_i ?_⟩
    refine hK _ ((FrM.cp (by decide)).tr (FrM.wr (by decide))) ⟨?_, ?_, ?_, ?_, ?_, h6, ?_⟩
    · intro k hk
      rw [wr_c (by decide), cp_o (by decide)]; exact h1 k hk
    · rw [wr_s, cp_o (by decide), h2, nI_add]
      unfold pushN
      rw [if_pos hn]
    · unfold pushN; split <;> omega
    · intro j hj k hk
      unfold pushN at hj
      rw [if_pos hn] at hj
      unfold pushH
      rw [if_pos hn, wr_c (by decide)]
      by_cases hjn : j = n
      · rw [if_pos hjn, hjn, cp_in hk, Nat.zero_add]; exact h1 k hk
      · rw [if_neg hjn, cp_out (by omega)]; exact h4 j (by omega) k hk
    · rw [wr_k (by decide), cp_o (by decide)]; exact h5
    · intro j hj
      rw [wr_c (by decide), cp_o (by decide)]; exact h7 j hj
  · rw [h2] at g
    have hn : n = 4 := e4.mp (Classical.not_not.mp g)
    subst hn
    have lp : ∀ d k : Nat, k + d = 552 → wp E 94 10 [.ref 179, .int (nI k)] [] (mvN σ k) (QV KV) := by
      intro d
      induction d with
      | zero =>
        intro k hk
        obtain rfl : k = 552 := by omega
        refine sg94_10 ⟨fun _ => ⟨shM H, shM H, ?_⟩, fun z => absurd (nI_le (Nat.le_refl _) (by decide)) z⟩
        rw [mv_o (by decide), h2, pk_sub (by decide)]
        refine nw_i ⟨shM H, _, rM0 H, shM H, _, rM3 H, shM H, ?_⟩
        rw [wr_s, pk_mul]
        refine r_cp (by decide) (shV H) (sh183 H) (by decide) (by decide) (by decide) (by decide) ⟨shM H, shM H, nw_i ?_⟩
        have f1 : FrM σ (mvN σ 552) := ⟨rfl, rfl, fun d hd => by
          show (if d = 183 then _ else σ.2.1 d) = _
          rw [if_neg (by omega)]⟩
        refine hK _ (((f1.tr (FrM.wr (by decide))).tr (FrM.cp (by decide))).tr (FrM.wr (by decide))) ⟨?_, ?_, by decide, ?_, ?_, h6, ?_⟩
        · intro k hk
          rw [wr_c (by decide), cp_o (by decide), wr_c (by decide), mv_o (by decide)]; exact h1 k hk
        · rw [wr_s, cp_o (by decide), wr_s]
          rfl
        · intro j hj k hk
          have hj : j < 4 := hj
          unfold pushH
          rw [if_neg (by decide), wr_c (by decide)]
          by_cases hj3 : j = 3
          · subst hj3
            rw [if_pos rfl]
            rw [cp_in hk, Nat.zero_add, wr_c (by decide), mv_o (by decide)]; exact h1 k hk
          · rw [if_neg hj3, cp_out (by omega), wr_c (by decide), mv_in (by omega), show 184 * j + k + 184 = 184 * (j + 1) + k by omega]
            exact h4 (j + 1) (by omega) k hk
        · rw [wr_k (by decide), cp_o (by decide), wr_k (by decide), mv_o (by decide)]; exact h5
        · intro j hj
          rw [wr_c (by decide), cp_o (by decide), wr_c (by decide), mv_o (by decide)]; exact h7 j hj
      | succ d ih =>
        intro k hk
        refine sg94_10 ⟨fun z => absurd z (nI_ge (by omega) (by omega)), fun _ => ⟨shM H, _, rM3 H, shM H, _, rM3 H, ?_⟩⟩
        rw [nI_add, nI_add, cl _ (by omega), cl _ (by omega)]
        exact ⟨736, sh183 H, vi (by omega) (by decide), 736, sh183 H, vi (by omega) (by decide), nw_e mvN_s (ih (k + 1) (by omega))⟩
    have h := lp 552 0 (by omega)
    rw [mvN_0] at h
    exact h
end REF11
