/-! p27: what the law's loop holds; its look, its draws -/
section LOOK
variable {E : AEnv} {σ τ : ASt} {V W : Nat → Nat} {m n t N : Nat} {Hs : Nat → Nat → Nat} {Tx : Nat → Nat} {Q : Option Value → ASt → Prop} {K : Int32 → ASt → Prop}
/-- the class holds V, its history Hs, its text Tx -/
def LJ (N : Nat) (σ : ASt) (V : Nat → Nat) (n : Nat) (Hs : Nat → Nat → Nat) (t : Nat) (Tx : Nat → Nat) : Prop := MI σ ∧ CD σ V n Hs t Tx ∧ WF 9999 V ∧ PI N V ∧ (∀ j, j < n → WF 9999 (Hs j) ∧ PI N (Hs j)) ∧ ∀ j, j < t → Tx j ≤ 126
theorem LJ.n4 (L : LJ N σ V n Hs t Tx) : n ≤ 4 := by
  obtain ⟨H, ⟨p, q, h, hx⟩, -⟩ := L
  exact hx.2.2.1.2.1
theorem LJ.t60 (L : LJ N σ V n Hs t Tx) : t ≤ 60 := by
  obtain ⟨H, ⟨p, q, h, hx⟩, -⟩ := L
  exact hx.2.2.2.2.1
theorem LJ.sh (L : LJ N σ V n Hs t Tx) : sh σ 0 5 8 := sh0 L.1
theorem LJ.fr (L : LJ N σ V n Hs t Tx) (hf : FrC σ τ) (hc : CD τ V n Hs t Tx) : LJ N τ V n Hs t Tx := ⟨hf.mi L.1, hc, L.2.2⟩
theorem LJ.mono (L : LJ N σ V n Hs t Tx) {M : Nat} (hM : N ≤ M) : LJ M σ V n Hs t Tx := ⟨L.1, L.2.1, L.2.2.1, L.2.2.2.1.mono hM, fun j hj => ⟨(L.2.2.2.2.1 j hj).1, (L.2.2.2.2.1 j hj).2.mono hM⟩, L.2.2.2.2.2⟩
theorem j_cnt (L : LJ N σ V n Hs t Tx) {x : Int32} (hK : K (qCnt V n t x) σ) : cI E 76 [.ref 0, .int x] σ K := u_cnt L.1 L.2.1 L.2.2.1 hK
theorem j_brg (L : LJ N σ V n Hs t Tx) {x w : Int32} (hK : K (qBrg V x w) σ) : cI E 65 [.ref 0, .int x, .int w] σ K := u_qBrg L.1 L.2.1 L.2.2.1 hK
theorem j_isl (L : LJ N σ V n Hs t Tx) {x w : Int32} (hK : K (qIsl V x w) σ) : cI E 66 [.ref 0, .int x, .int w] σ K := u_qIsl L.1 L.2.1 L.2.2.1 hK
theorem j_rea (L : LJ N σ V n Hs t Tx) {x : Int32} (hK : K (qRea V x) σ) : cI E 67 [.ref 0, .int x] σ K := u_qRea L.1 L.2.1 L.2.2.1 hK
theorem j_bok (L : LJ N σ V n Hs t Tx) {a w : Int32} (hK : K (qBok V a w) σ) : cI E 68 [.ref 0, .int a, .int w] σ K := u_qBok L.1 L.2.1 L.2.2.1 hK
theorem j_why (L : LJ N σ V n Hs t Tx) {x w : Int32} (hK : K (qWhy V x w) σ) : cI E 69 [.ref 0, .int x, .int w] σ K := u_qWhy L.1 L.2.1 L.2.2.1 hK
theorem j_bst (L : LJ N σ V n Hs t Tx) (hK : K (bsI (bsV V)) σ) : cI E 70 [.ref 0] σ K := u_best L.1 L.2.1 L.2.2.1 hK
theorem j_rus (L : LJ N σ V n Hs t Tx) {x : Int32} (hK : K (qRus V x) σ) : cI E 71 [.ref 0, .int x] σ K := u_qRus L.1 L.2.1 L.2.2.1 hK
theorem j_mea (L : LJ N σ V n Hs t Tx) (hK : K (qMea V) σ) : cI E 75 [.ref 0] σ K := u_mea L.1 L.2.1 L.2.2.1 hK
theorem j_pin (L : LJ N σ V n Hs t Tx) {x : Int32} (hK : ∀ τ, LJ N τ V n Hs t Tx → K (qPin V x) τ) : cI E 72 [.ref 0, .int x] σ K := u_pin L.1 L.2.1 L.2.2.1 fun τ hf hc => hK τ (L.fr hf hc)
theorem j_aln (L : LJ N σ V n Hs t Tx) (hK : ∀ τ, LJ N τ V n Hs t Tx → K (qAln V) τ) : cI E 73 [.ref 0] σ K := u_aln L.1 L.2.1 L.2.2.1 fun τ hf hc => hK τ (L.fr hf hc)
theorem j_ifd (L : LJ N σ V n Hs t Tx) {x : Int32} (hK : ∀ τ, LJ N τ V n Hs t Tx → K (qIfd V x) τ) : cI E 74 [.ref 0, .int x] σ K := u_ifd L.1 L.2.1 L.2.2.1 fun τ hf hc => hK τ (L.fr hf hc)
theorem j_flt (L : LJ N σ V n Hs t Tx) {x : Int32} (hK : ∀ τ, LJ N τ V n Hs t Tx → K (qFlt V t Tx x) τ) : cI E 80 [.ref 0, .int x] σ K := u_flt L.1 L.2.1 L.2.2.2.2.2 L.2.2.1 fun τ hf hc => hK τ (L.fr hf hc)
/-! look -/
def ldO (g : Nat → Int64 → Int64) : Nat → Int64 → Nat → Int64
  | 0, h, _ => h
  | d + 1, h, k => ldO g d (g k h) (k + 1)
def ldG (f : Nat → Int32) (k : Nat) (h : Int64) : Int64 := (31 : Int64) * h + (f k).toInt64
def cntF (V : Nat → Nat) (k : Nat) : Int32 := qCnt V 0 0 (nI k)
def brgF (V : Nat → Nat) (b k : Nat) : Int32 := qBrg V (nI b) (nI k)
def islF (V : Nat → Nat) (b k : Nat) : Int32 := qIsl V (nI b) (nI k)
def bokG (V : Nat → Nat) (k : Nat) (h : Int64) : Int64 := (31 : Int64) * ((31 : Int64) * h + (qBok V (nI k) (nI 0)).toInt64) + (qBok V (nI k) (nI 1)).toInt64
def ldB (V : Nat → Nat) (b : Nat) (h : Int64) : Int64 := ldO (ldG (brgF V b)) 8 h 0
def ldI (V : Nat → Nat) (b : Nat) (h : Int64) : Int64 := ldO (ldG (islF V b)) 5 h 1
def lookV (V : Nat → Nat) : Int64 := ldO (bokG V) (V 15) (ldO (ldI V) (V 1) (ldO (ldB V) (V 2) (ldO (ldG (cntF V)) 8 (ldO (ldG (cntF V)) 18 (367 : Int64) 0) 20) 0) 0) 0
theorem cnt_nt {x : Int32} (h1 : x ≠ nI 18) (h2 : x ≠ nI 19) : qCnt V n t x = qCnt V 0 0 x := by
  unfold qCnt
  rw [if_neg h1, if_neg h2, if_neg h1, if_neg h2]
theorem cnt_1 : qCnt V n t (nI 1) = nI (V 1) := rfl
theorem cnt_2 : qCnt V n t (nI 2) = nI (V 2) := rfl
theorem cnt_17 : qCnt V n t (nI 17) = nI (V 15) := rfl
theorem LJ.w1 (L : LJ N σ V n Hs t Tx) : V 1 ≤ 8 ∧ V 2 ≤ 14 ∧ V 15 ≤ 8 := by
  have w1 := L.2.2.1.1
  unfold W1 at w1
  omega
theorem lo_k (L : LJ N σ V n Hs t Tx) : ∀ (d k : Nat) (h : Int64), k + d = V 15 → Q (some (.long (ldO (bokG V) d h k))) σ → wp E 97 157 [.ref 0, .long h, .double 0, .int (nI k)] [] σ Q
  | 0, k, h, hk, hQ => by
    have w := L.w1
    refine sg97_157 ⟨L.sh, j_cnt L ⟨fun _ => hQ, fun z => absurd ?_ z⟩⟩
    rw [cnt_17]
    exact nI_le (by omega) (by omega)
  | d + 1, k, h, hk, hQ => by
    have w := L.w1
    refine sg97_157 ⟨L.sh, j_cnt L ⟨fun z => absurd z ?_, fun _ => ⟨L.sh, j_bok L ⟨L.sh, j_bok L ?_⟩⟩⟩⟩
    · rw [cnt_17]
      exact nI_ge (by omega) (by omega)
    · rw [nI_add]
      exact lo_k L d (k + 1) _ (by omega) hQ
theorem lo_i2 (L : LJ N σ V n Hs t Tx) {i : Nat} : ∀ (d k : Nat) (h : Int64), k + d = 6 → wp E 97 109 [.ref 0, .long (ldO (ldG (islF V i)) d h k), .double 0, .int (nI (i + 1))] [] σ Q → wp E 97 121 [.ref 0, .long h, .double 0, .int (nI i), .int (nI k)] [] σ Q
  | 0, k, h, hk, hQ => by
    refine sg97_121 ⟨fun _ => by rw [nI_add]; exact hQ, fun z => absurd ?_ z⟩
    exact nI_le (by omega) (by omega)
  | d + 1, k, h, hk, hQ => by
    refine sg97_121 ⟨fun z => absurd z (nI_ge (by omega) (by omega)), fun _ => ⟨L.sh, j_isl L ?_⟩⟩
    rw [nI_add]
    exact lo_i2 L d (k + 1) _ (by omega) hQ
theorem lo_i (L : LJ N σ V n Hs t Tx) : ∀ (d k : Nat) (h : Int64), k + d = V 1 → wp E 97 157 [.ref 0, .long (ldO (ldI V) d h k), .double 0, .int (nI 0)] [] σ Q → wp E 97 109 [.ref 0, .long h, .double 0, .int (nI k)] [] σ Q
  | 0, k, h, hk, hQ => by
    have w := L.w1
    refine sg97_109 ⟨L.sh, j_cnt L ⟨fun _ => hQ, fun z => absurd ?_ z⟩⟩
    rw [cnt_1]
    exact nI_le (by omega) (by omega)
  | d + 1, k, h, hk, hQ => by
    have w := L.w1
    refine sg97_109 ⟨L.sh, j_cnt L ⟨fun z => absurd z ?_, fun _ => lo_i2 L 5 1 h (by decide) (lo_i L d (k + 1) _ (by omega) hQ)⟩⟩
    rw [cnt_1]
    exact nI_ge (by omega) (by omega)
theorem lo_b2 (L : LJ N σ V n Hs t Tx) {i : Nat} : ∀ (d k : Nat) (h : Int64), k + d = 8 → wp E 97 61 [.ref 0, .long (ldO (ldG (brgF V i)) d h k), .double 0, .int (nI (i + 1))] [] σ Q → wp E 97 73 [.ref 0, .long h, .double 0, .int (nI i), .int (nI k)] [] σ Q
  | 0, k, h, hk, hQ => by
    refine sg97_73 ⟨fun _ => by rw [nI_add]; exact hQ, fun z => absurd ?_ z⟩
    exact nI_le (by omega) (by omega)
  | d + 1, k, h, hk, hQ => by
    refine sg97_73 ⟨fun z => absurd z (nI_ge (by omega) (by omega)), fun _ => ⟨L.sh, j_brg L ?_⟩⟩
    rw [nI_add]
    exact lo_b2 L d (k + 1) _ (by omega) hQ
theorem lo_b (L : LJ N σ V n Hs t Tx) : ∀ (d k : Nat) (h : Int64), k + d = V 2 → wp E 97 109 [.ref 0, .long (ldO (ldB V) d h k), .double 0, .int (nI 0)] [] σ Q → wp E 97 61 [.ref 0, .long h, .double 0, .int (nI k)] [] σ Q
  | 0, k, h, hk, hQ => by
    have w := L.w1
    refine sg97_61 ⟨L.sh, j_cnt L ⟨fun _ => hQ, fun z => absurd ?_ z⟩⟩
    rw [cnt_2]
    exact nI_le (by omega) (by omega)
  | d + 1, k, h, hk, hQ => by
    have w := L.w1
    refine sg97_61 ⟨L.sh, j_cnt L ⟨fun z => absurd z ?_, fun _ => lo_b2 L 8 0 h (by decide) (lo_b L d (k + 1) _ (by omega) hQ)⟩⟩
    rw [cnt_2]
    exact nI_ge (by omega) (by omega)
theorem nI_ne {a b : Nat} (ha : a < 2 ^ 31) (hb : b < 2 ^ 31) (h : a ≠ b) : nI a ≠ nI b := fun z => h ((nI_eq ha hb).mp z)
theorem lo_c2 (L : LJ N σ V n Hs t Tx) : ∀ (d k : Nat) (h : Int64), 20 ≤ k → k + d = 28 → wp E 97 61 [.ref 0, .long (ldO (ldG (cntF V)) d h k), .double 0, .int (nI 0)] [] σ Q → wp E 97 34 [.ref 0, .long h, .double 0, .int (nI k)] [] σ Q
  | 0, k, h, h20, hk, hQ => sg97_34 ⟨fun _ => hQ, fun z => absurd (nI_le (by omega) (by omega)) z⟩
  | d + 1, k, h, h20, hk, hQ => by
    refine sg97_34 ⟨fun z => absurd z (nI_ge (by omega) (by omega)), fun _ => ⟨L.sh, j_cnt L ?_⟩⟩
    rw [nI_add, cnt_nt (nI_ne (by omega) (by omega) (by omega)) (nI_ne (by omega) (by omega) (by omega))]
    exact lo_c2 L d (k + 1) _ (by omega) (by omega) hQ
theorem lo_c1 (L : LJ N σ V n Hs t Tx) : ∀ (d k : Nat) (h : Int64), k + d = 18 → wp E 97 34 [.ref 0, .long (ldO (ldG (cntF V)) d h k), .double 0, .int (nI 20)] [] σ Q → wp E 97 6 [.ref 0, .long h, .double 0, .int (nI k)] [] σ Q
  | 0, k, h, hk, hQ => sg97_6 ⟨fun _ => hQ, fun z => absurd (nI_le (by omega) (by omega)) z⟩
  | d + 1, k, h, hk, hQ => by
    refine sg97_6 ⟨fun z => absurd z (nI_ge (by omega) (by omega)), fun _ => ⟨L.sh, j_cnt L ?_⟩⟩
    rw [nI_add, cnt_nt (nI_ne (by omega) (by omega) (by omega)) (nI_ne (by omega) (by omega) (by omega))]
    exact lo_c1 L d (k + 1) _ (by omega) hQ
theorem j_look (L : LJ N σ V n Hs t Tx) {KL : Int64 → ASt → Prop} (hK : KL (lookV V) σ) : cL E 97 [.ref 0] σ KL :=
  sg97_0 (lo_c1 L 18 0 _ (by decide) (lo_c2 L 8 20 _ (by decide) (by decide) (lo_b L (V 2) 0 _ (by omega) (lo_i L (V 1) 0 _ (by omega) (lo_k L (V 15) 0 _ (by omega) hK)))))
/-! draws -/
def lowV (v : Int32) (k : Nat) : Nat := (v &&& nI 2147483647).toNatClampNeg % k
theorem lowV_lt (v : Int32) {k : Nat} (h : 0 < k) : lowV v k < k := Nat.mod_lt _ h
theorem and_nn (v : Int32) : ∃ j, j < 2 ^ 31 ∧ v &&& nI 2147483647 = nI j := by
  refine nI_of fun z => ?_
  have h1 : (v &&& nI 2147483647).toBitVec.msb = true := by
    rw [Int32.lt_iff_toInt_lt] at z
    rw [BitVec.msb_eq_toInt]
    exact decide_eq_true z
  have e : (v &&& nI 2147483647).toBitVec = v.toBitVec &&& (nI 2147483647).toBitVec := rfl
  rw [e, BitVec.msb_and] at h1
  have e2 : (nI 2147483647).toBitVec.msb = false := by decide
  rw [e2, Bool.and_false] at h1
  cases h1
theorem nI_rem {a b : Nat} (ha : a < 2 ^ 31) (hb : b < 2 ^ 31) (h0 : 0 < b) : nI a - nI a / nI b * nI b = nI (a % b) := by
  have hd : a / b < 2 ^ 31 := Nat.lt_of_le_of_lt (Nat.div_le_self a b) ha
  have e1 : nI a / nI b = nI (a / b) := by
    refine Int32.toInt_inj.mp ?_
    rw [nI_toInt hd]
    rw [lg_idiv_nonneg (by rw [nI_toInt ha]; omega) (by rw [nI_toInt hb]; omega), nI_toInt ha, nI_toInt hb]
    rfl
  have e2 : nI (a / b) * nI b = nI (a / b * b) := (Int32.ofNat_mul (a / b) b).symm
  rw [e1, e2]
  have h3 := Nat.div_add_mod' a b
  have h4 : nI a = nI (a % b) + nI (a / b * b) := by rw [nI_add, Nat.add_comm, h3]
  rw [h4]
  exact Int32.add_sub_cancel _ _
theorem j_low {s : ASt} {v : Int32} {k : Nat} (h0 : 0 < k) (hk : k < 2 ^ 31) (hK : K (nI (lowV v k)) s) : cI E 96 [.int v, .int (nI k)] s K := by
  obtain ⟨j, hj, e⟩ := and_nn v
  refine sg96_0 ⟨nI_ne0 h0 hk, ?_⟩
  unfold lowV at hK
  rw [e, nI_clamp hj] at hK
  rw [e, nI_rem hj hk h0]
  exact hK
theorem j_lot {L : Nat} {xs : Nat → Int32} (hL : L ≤ 260) {s : ASt} {k : Nat} (hk : k < 2 ^ 31) (hK : ∀ x, K x s) : cI (lawE L xs) 95 [.ref 1003, .int (nI k)] s K := by
  refine sg95_0 ⟨fun _ => hK _, fun z => ⟨?_, hK _⟩⟩
  have z : ¬ nI L ≤ nI k := z
  rw [nI_leI (by omega) hk] at z
  exact vi (show k < L by omega) (show L < 2 ^ 31 by omega)
end LOOK
