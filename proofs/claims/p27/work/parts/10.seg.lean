-- 1 CoatedBridges$Book.copyFrom(LCoatedBridges$Book;)V
theorem sg1_0 {E : AEnv} {a0 : Nat} {a1 : Nat} {s : ASt} {Q : Option Value → ASt → Prop} (h :
  sh s a1 0 3 ∧ sh s a0 0 3 ∧ nw (wrI s a0 2 (gI s a1 2)) (fun s1 =>
  wp E 1 10 [.ref a0, .ref a1, .int (nI 0)] [] s1 Q)) : wp E 1 0 [.ref a0, .ref a1] [] s Q := vc_ok E 1 [10] Q 8 false 0 _ _ _ h
theorem sg1_10 {E : AEnv} {a0 : Nat} {a1 : Nat} {a2 : Int32} {s : ASt} {Q : Option Value → ASt → Prop} (h :
  ((nI 8) ≤ a2 →
    Q none s) ∧
  (¬ (nI 8) ≤ a2 →
    sh s a0 0 3 ∧ ∃ r1, rf s a0 0 r1 ∧ sh s a1 0 3 ∧ ∃ r2, rf s a1 0 r2 ∧ ∃ n3, sh s r2 10 n3 ∧ vp_in a2 n3 ∧ ∃ n4, sh s r1 10 n4 ∧ vp_in a2 n4 ∧ nw (wrI s r1 (a2).toNatClampNeg (gI s r2 (a2).toNatClampNeg)) (fun s5 =>
    sh s5 a0 0 3 ∧ ∃ r6, rf s5 a0 1 r6 ∧ sh s5 a1 0 3 ∧ ∃ r7, rf s5 a1 1 r7 ∧ ∃ n8, sh s5 r7 10 n8 ∧ vp_in a2 n8 ∧ ∃ n9, sh s5 r6 10 n9 ∧ vp_in a2 n9 ∧ nw (wrI s5 r6 (a2).toNatClampNeg (gI s5 r7 (a2).toNatClampNeg)) (fun s10 =>
    wp E 1 10 [.ref a0, .ref a1, .int (a2 + (nI 1))] [] s10 Q)))) : wp E 1 10 [.ref a0, .ref a1, .int a2] [] s Q := vc_ok E 1 [10] Q 23 false 10 _ _ _ h
-- 2 CoatedBridges$Book.note(II)V
theorem sg2_0 {E : AEnv} {a0 : Nat} {a1 : Int32} {a2 : Int32} {s : ASt} {Q : Option Value → ASt → Prop} (h :
  sh s a0 0 3 ∧ ((gI s a0 2) < (nI 8) →
    sh s a0 0 3 ∧ ∃ r1, rf s a0 0 r1 ∧ sh s a0 0 3 ∧ ∃ n2, sh s r1 10 n2 ∧ vp_in (gI s a0 2) n2 ∧ nw (wrI s r1 ((gI s a0 2)).toNatClampNeg a1) (fun s3 =>
    sh s3 a0 0 3 ∧ ∃ r4, rf s3 a0 1 r4 ∧ sh s3 a0 0 3 ∧ ∃ n5, sh s3 r4 10 n5 ∧ vp_in (gI s3 a0 2) n5 ∧ nw (wrI s3 r4 ((gI s3 a0 2)).toNatClampNeg a2) (fun s6 =>
    sh s6 a0 0 3 ∧ sh s6 a0 0 3 ∧ nw (wrI s6 a0 2 ((gI s6 a0 2) + (nI 1))) (fun s7 =>
    Q none s7)))) ∧
  (¬ (gI s a0 2) < (nI 8) →
    sh s a0 0 3 ∧ cV E 3 [.ref a0] s (fun s8 =>
    sh s8 a0 0 3 ∧ ∃ r9, rf s8 a0 0 r9 ∧ sh s8 a0 0 3 ∧ ∃ n10, sh s8 r9 10 n10 ∧ vp_in (gI s8 a0 2) n10 ∧ nw (wrI s8 r9 ((gI s8 a0 2)).toNatClampNeg a1) (fun s11 =>
    sh s11 a0 0 3 ∧ ∃ r12, rf s11 a0 1 r12 ∧ sh s11 a0 0 3 ∧ ∃ n13, sh s11 r12 10 n13 ∧ vp_in (gI s11 a0 2) n13 ∧ nw (wrI s11 r12 ((gI s11 a0 2)).toNatClampNeg a2) (fun s14 =>
    sh s14 a0 0 3 ∧ sh s14 a0 0 3 ∧ nw (wrI s14 a0 2 ((gI s14 a0 2) + (nI 1))) (fun s15 =>
    Q none s15)))))) : wp E 2 0 [.ref a0, .int a1, .int a2] [] s Q := vc_ok E 2 [] Q 26 false 0 _ _ _ h
-- 3 CoatedBridges$Book.dropFirst()V
theorem sg3_0 {E : AEnv} {a0 : Nat} {s : ASt} {Q : Option Value → ASt → Prop} (h :
  wp E 3 2 [.ref a0, .int (nI 1)] [] s Q) : wp E 3 0 [.ref a0] [] s Q := vc_ok E 3 [2] Q 4 false 0 _ _ _ h
theorem sg3_2 {E : AEnv} {a0 : Nat} {a1 : Int32} {s : ASt} {Q : Option Value → ASt → Prop} (h :
  ((nI 8) ≤ a1 →
    sh s a0 0 3 ∧ nw (wrI s a0 2 (nI 7)) (fun s1 =>
    Q none s1)) ∧
  (¬ (nI 8) ≤ a1 →
    sh s a0 0 3 ∧ ∃ r2, rf s a0 0 r2 ∧ sh s a0 0 3 ∧ ∃ r3, rf s a0 0 r3 ∧ ∃ n4, sh s r3 10 n4 ∧ vp_in a1 n4 ∧ ∃ n5, sh s r2 10 n5 ∧ vp_in (a1 - (nI 1)) n5 ∧ nw (wrI s r2 ((a1 - (nI 1))).toNatClampNeg (gI s r3 (a1).toNatClampNeg)) (fun s6 =>
    sh s6 a0 0 3 ∧ ∃ r7, rf s6 a0 1 r7 ∧ sh s6 a0 0 3 ∧ ∃ r8, rf s6 a0 1 r8 ∧ ∃ n9, sh s6 r8 10 n9 ∧ vp_in a1 n9 ∧ ∃ n10, sh s6 r7 10 n10 ∧ vp_in (a1 - (nI 1)) n10 ∧ nw (wrI s6 r7 ((a1 - (nI 1))).toNatClampNeg (gI s6 r8 (a1).toNatClampNeg)) (fun s11 =>
    wp E 3 2 [.ref a0, .int (a1 + (nI 1))] [] s11 Q)))) : wp E 3 2 [.ref a0, .int a1] [] s Q := vc_ok E 3 [2] Q 27 false 2 _ _ _ h
-- 4 CoatedBridges$Book.dayAgo(I)I
theorem sg4_0 {E : AEnv} {a0 : Nat} {a1 : Int32} {s : ASt} {Q : Option Value → ASt → Prop} (h :
  sh s a0 0 3 ∧ ((gI s a0 2) ≤ a1 →
    Q (some (.int (-1000004 : Int32))) s) ∧
  (¬ (gI s a0 2) ≤ a1 →
    sh s a0 0 3 ∧ ∃ r1, rf s a0 0 r1 ∧ sh s a0 0 3 ∧ ∃ n2, sh s r1 10 n2 ∧ vp_in (((gI s a0 2) - (nI 1)) - a1) n2 ∧ Q (some (.int (gI s r1 ((((gI s a0 2) - (nI 1)) - a1)).toNatClampNeg))) s)) : wp E 4 0 [.ref a0, .int a1] [] s Q := vc_ok E 4 [] Q 16 false 0 _ _ _ h
-- 5 CoatedBridges$Book.complaintsAgo(I)I
theorem sg5_0 {E : AEnv} {a0 : Nat} {a1 : Int32} {s : ASt} {Q : Option Value → ASt → Prop} (h :
  sh s a0 0 3 ∧ ((gI s a0 2) ≤ a1 →
    Q (some (.int (-1000004 : Int32))) s) ∧
  (¬ (gI s a0 2) ≤ a1 →
    sh s a0 0 3 ∧ ∃ r1, rf s a0 1 r1 ∧ sh s a0 0 3 ∧ ∃ n2, sh s r1 10 n2 ∧ vp_in (((gI s a0 2) - (nI 1)) - a1) n2 ∧ Q (some (.int (gI s r1 ((((gI s a0 2) - (nI 1)) - a1)).toNatClampNeg))) s)) : wp E 5 0 [.ref a0, .int a1] [] s Q := vc_ok E 5 [] Q 16 false 0 _ _ _ h
-- 7 CoatedBridges$Bridge.begin(III)V
theorem sg7_0 {E : AEnv} {a0 : Nat} {a1 : Int32} {a2 : Int32} {a3 : Int32} {s : ASt} {Q : Option Value → ASt → Prop} (h :
  sh s a0 1 9 ∧ nw (wrI s a0 0 a1) (fun s1 =>
  sh s1 a0 1 9 ∧ nw (wrI s1 a0 1 a2) (fun s2 =>
  sh s2 a0 1 9 ∧ nw (wrI s2 a0 2 (((nI 1) <<< (a1 &&& 31)) ||| ((nI 1) <<< (a2 &&& 31)))) (fun s3 =>
  sh s3 a0 1 9 ∧ nw (wrI s3 a0 3 a3) (fun s4 =>
  sh s4 a0 1 9 ∧ nw (wrI s4 a0 4 (nI 100)) (fun s5 =>
  sh s5 a0 1 9 ∧ nw (wrI s5 a0 5 (nI 0)) (fun s6 =>
  sh s6 a0 1 9 ∧ nw (wrI s6 a0 6 (nI 0)) (fun s7 =>
  sh s7 a0 1 9 ∧ nw (wrI s7 a0 7 (nI 0)) (fun s8 =>
  sh s8 a0 1 9 ∧ nw (wrI s8 a0 8 (nI 0)) (fun s9 =>
  Q none s9)))))))))) : wp E 7 0 [.ref a0, .int a1, .int a2, .int a3] [] s Q := vc_ok E 7 [] Q 35 false 0 _ _ _ h
-- 8 CoatedBridges$Bridge.copyFrom(LCoatedBridges$Bridge;)V
theorem sg8_0 {E : AEnv} {a0 : Nat} {a1 : Nat} {s : ASt} {Q : Option Value → ASt → Prop} (h :
  sh s a1 1 9 ∧ sh s a0 1 9 ∧ nw (wrI s a0 0 (gI s a1 0)) (fun s1 =>
  sh s1 a1 1 9 ∧ sh s1 a0 1 9 ∧ nw (wrI s1 a0 1 (gI s1 a1 1)) (fun s2 =>
  sh s2 a1 1 9 ∧ sh s2 a0 1 9 ∧ nw (wrI s2 a0 2 (gI s2 a1 2)) (fun s3 =>
  sh s3 a1 1 9 ∧ sh s3 a0 1 9 ∧ nw (wrI s3 a0 3 (gI s3 a1 3)) (fun s4 =>
  sh s4 a1 1 9 ∧ sh s4 a0 1 9 ∧ nw (wrI s4 a0 4 (gI s4 a1 4)) (fun s5 =>
  sh s5 a1 1 9 ∧ sh s5 a0 1 9 ∧ nw (wrI s5 a0 5 (gI s5 a1 5)) (fun s6 =>
  sh s6 a1 1 9 ∧ sh s6 a0 1 9 ∧ nw (wrI s6 a0 6 (gI s6 a1 6)) (fun s7 =>
  sh s7 a1 1 9 ∧ sh s7 a0 1 9 ∧ nw (wrI s7 a0 7 (gI s7 a1 7)) (fun s8 =>
  sh s8 a1 1 9 ∧ sh s8 a0 1 9 ∧ nw (wrI s8 a0 8 (gI s8 a1 8)) (fun s9 =>
  Q none s9)))))))))) : wp E 8 0 [.ref a0, .ref a1] [] s Q := vc_ok E 8 [] Q 38 false 0 _ _ _ h
-- 9 CoatedBridges$Bridge.takeCrew()V
theorem sg9_0 {E : AEnv} {a0 : Nat} {s : ASt} {Q : Option Value → ASt → Prop} (h :
  sh s a0 1 9 ∧ nw (wrI s a0 5 (nI 1)) (fun s1 =>
  sh s1 a0 1 9 ∧ sh s1 a0 1 9 ∧ nw (wrI s1 a0 6 ((gI s1 a0 6) + (nI 1))) (fun s2 =>
  Q none s2))) : wp E 9 0 [.ref a0] [] s Q := vc_ok E 9 [] Q 11 false 0 _ _ _ h
-- 10 CoatedBridges$Bridge.loseCrew()V
theorem sg10_0 {E : AEnv} {a0 : Nat} {s : ASt} {Q : Option Value → ASt → Prop} (h :
  sh s a0 1 9 ∧ ((gI s a0 4) ≠ (nI 0) →
    sh s a0 1 9 ∧ nw (wrI s a0 5 (nI 0)) (fun s1 =>
    Q none s1)) ∧
  (¬ (gI s a0 4) ≠ (nI 0) →
    sh s a0 1 9 ∧ nw (wrI s a0 5 (nI 2)) (fun s2 =>
    Q none s2))) : wp E 10 0 [.ref a0] [] s Q := vc_ok E 10 [] Q 9 false 0 _ _ _ h
-- 11 CoatedBridges$Bridge.paint(II)V
theorem sg11_0 {E : AEnv} {a0 : Nat} {a1 : Int32} {a2 : Int32} {s : ASt} {Q : Option Value → ASt → Prop} (h :
  sh s a0 1 9 ∧ sh s a0 1 9 ∧ nw (wrI s a0 8 ((gI s a0 8) + a2)) (fun s1 =>
  sh s1 a0 1 9 ∧ cI E 94 [.int ((gI s1 a0 4) + a1), .int (nI 100)] s1 (fun x3 s2 =>
  sh s2 a0 1 9 ∧ nw (wrI s2 a0 4 x3) (fun s4 =>
  sh s4 a0 1 9 ∧ ((gI s4 a0 4) ≠ (nI 100) →
    Q none s4) ∧
  (¬ (gI s4 a0 4) ≠ (nI 100) →
    sh s4 a0 1 9 ∧ cV E 10 [.ref a0] s4 (fun s5 =>
    Q none s5)))))) : wp E 11 0 [.ref a0, .int a1, .int a2] [] s Q := vc_ok E 11 [] Q 22 false 0 _ _ _ h
-- 12 CoatedBridges$Bridge.wearOff()V
theorem sg12_0 {E : AEnv} {a0 : Nat} {s : ASt} {Q : Option Value → ASt → Prop} (h :
  sh s a0 1 9 ∧ sh s a0 1 9 ∧ cI E 93 [.int ((gI s a0 4) - (gI s a0 3)), .int (nI 0)] s (fun x2 s1 =>
  sh s1 a0 1 9 ∧ nw (wrI s1 a0 4 x2) (fun s3 =>
  sh s3 a0 1 9 ∧ ((gI s3 a0 4) ≠ (nI 0) →
    Q none s3) ∧
  (¬ (gI s3 a0 4) ≠ (nI 0) →
    sh s3 a0 1 9 ∧ nw (wrI s3 a0 5 (nI 2)) (fun s4 =>
    Q none s4))))) : wp E 12 0 [.ref a0] [] s Q := vc_ok E 12 [] Q 17 false 0 _ _ _ h
-- 13 CoatedBridges$Bridge.daysUntilRusted()I
theorem sg13_0 {E : AEnv} {a0 : Nat} {s : ASt} {Q : Option Value → ASt → Prop} (h :
  wp E 13 2 [.ref a0, .int (nI 0)] [] s Q) : wp E 13 0 [.ref a0] [] s Q := vc_ok E 13 [2] Q 4 false 0 _ _ _ h
theorem sg13_2 {E : AEnv} {a0 : Nat} {a1 : Int32} {s : ASt} {Q : Option Value → ASt → Prop} (h :
  ((nI 100) ≤ a1 →
    Q (some (.int a1)) s) ∧
  (¬ (nI 100) ≤ a1 →
    sh s a0 1 9 ∧ sh s a0 1 9 ∧ ((gI s a0 4) ≤ (a1 * (gI s a0 3)) →
      Q (some (.int a1)) s) ∧
    (¬ (gI s a0 4) ≤ (a1 * (gI s a0 3)) →
      wp E 13 2 [.ref a0, .int (a1 + (nI 1))] [] s Q))) : wp E 13 2 [.ref a0, .int a1] [] s Q := vc_ok E 13 [2] Q 14 false 2 _ _ _ h
-- 15 CoatedBridges$Island.begin(I)V
theorem sg15_0 {E : AEnv} {a0 : Nat} {a1 : Int32} {s : ASt} {Q : Option Value → ASt → Prop} (h :
  sh s a0 2 5 ∧ nw (wrI s a0 0 a1) (fun s1 =>
  sh s1 a0 2 5 ∧ nw (wrI s1 a0 1 (nI 0)) (fun s2 =>
  sh s2 a0 2 5 ∧ nw (wrI s2 a0 2 (nI 0)) (fun s3 =>
  sh s3 a0 2 5 ∧ nw (wrI s3 a0 3 (nI 0)) (fun s4 =>
  sh s4 a0 2 5 ∧ nw (wrI s4 a0 4 (nI 0)) (fun s5 =>
  Q none s5)))))) : wp E 15 0 [.ref a0, .int a1] [] s Q := vc_ok E 15 [] Q 17 false 0 _ _ _ h
-- 16 CoatedBridges$Island.copyFrom(LCoatedBridges$Island;)V
theorem sg16_0 {E : AEnv} {a0 : Nat} {a1 : Nat} {s : ASt} {Q : Option Value → ASt → Prop} (h :
  sh s a1 2 5 ∧ sh s a0 2 5 ∧ nw (wrI s a0 0 (gI s a1 0)) (fun s1 =>
  sh s1 a1 2 5 ∧ sh s1 a0 2 5 ∧ nw (wrI s1 a0 1 (gI s1 a1 1)) (fun s2 =>
  sh s2 a1 2 5 ∧ sh s2 a0 2 5 ∧ nw (wrI s2 a0 2 (gI s2 a1 2)) (fun s3 =>
  sh s3 a1 2 5 ∧ sh s3 a0 2 5 ∧ nw (wrI s3 a0 3 (gI s3 a1 3)) (fun s4 =>
  sh s4 a1 2 5 ∧ sh s4 a0 2 5 ∧ nw (wrI s4 a0 4 (gI s4 a1 4)) (fun s5 =>
  Q none s5)))))) : wp E 16 0 [.ref a0, .ref a1] [] s Q := vc_ok E 16 [] Q 22 false 0 _ _ _ h
-- 17 CoatedBridges$Island.waitAlone(I)Z
theorem sg17_0 {E : AEnv} {a0 : Nat} {a1 : Int32} {s : ASt} {Q : Option Value → ASt → Prop} (h :
  sh s a0 2 5 ∧ sh s a0 2 5 ∧ nw (wrI s a0 1 ((gI s a0 1) + (nI 1))) (fun s1 =>
  sh s1 a0 2 5 ∧ sh s1 a0 2 5 ∧ cI E 93 [.int (gI s1 a0 2), .int (gI s1 a0 1)] s1 (fun x3 s2 =>
  sh s2 a0 2 5 ∧ nw (wrI s2 a0 2 x3) (fun s4 =>
  sh s4 a0 2 5 ∧ (a1 < (gI s4 a0 1) →
    sh s4 a0 2 5 ∧ sh s4 a0 2 5 ∧ nw (wrI s4 a0 3 ((gI s4 a0 3) + (nI 1))) (fun s5 =>
    fN .boolean (nI 1) = true ∧ Q (some (.int (nI 1))) s5)) ∧
  (¬ a1 < (gI s4 a0 1) →
    fN .boolean (nI 0) = true ∧ Q (some (.int (nI 0))) s4))))) : wp E 17 0 [.ref a0, .int a1] [] s Q := vc_ok E 17 [] Q 26 false 0 _ _ _ h
-- 19 CoatedBridges$State.copyFrom(LCoatedBridges$State;)V
theorem sg19_0 {E : AEnv} {a0 : Nat} {a1 : Nat} {s : ASt} {Q : Option Value → ASt → Prop} (h :
  sh s a1 3 11 ∧ sh s a0 3 11 ∧ nw (wrI s a0 4 (gI s a1 4)) (fun s1 =>
  wp E 19 10 [.ref a0, .ref a1, .int (nI 0)] [] s1 Q)) : wp E 19 0 [.ref a0, .ref a1] [] s Q := vc_ok E 19 [10, 49, 80] Q 8 false 0 _ _ _ h
theorem sg19_10 {E : AEnv} {a0 : Nat} {a1 : Nat} {a2 : Int32} {s : ASt} {Q : Option Value → ASt → Prop} (h :
  sh s a0 3 11 ∧ ((gI s a0 4) ≤ a2 →
    sh s a1 3 11 ∧ sh s a0 3 11 ∧ nw (wrI s a0 5 (gI s a1 5)) (fun s1 =>
    wp E 19 49 [.ref a0, .ref a1, .int (nI 0)] [] s1 Q)) ∧
  (¬ (gI s a0 4) ≤ a2 →
    sh s a0 3 11 ∧ ∃ r2, rf s a0 0 r2 ∧ ∃ n3 r4, sh s r2 13 n3 ∧ vp_in a2 n3 ∧ rf s r2 (a2).toNatClampNeg r4 ∧ sh s a1 3 11 ∧ ∃ r5, rf s a1 0 r5 ∧ ∃ n6 r7, sh s r5 13 n6 ∧ vp_in a2 n6 ∧ rf s r5 (a2).toNatClampNeg r7 ∧ sh s r4 2 5 ∧ cV E 16 [.ref r4, .ref r7] s (fun s8 =>
    wp E 19 10 [.ref a0, .ref a1, .int (a2 + (nI 1))] [] s8 Q))) : wp E 19 10 [.ref a0, .ref a1, .int a2] [] s Q := vc_ok E 19 [10, 49, 80] Q 17 false 10 _ _ _ h
theorem sg19_49 {E : AEnv} {a0 : Nat} {a1 : Nat} {a2 : Int32} {s : ASt} {Q : Option Value → ASt → Prop} (h :
  sh s a0 3 11 ∧ ((gI s a0 5) ≤ a2 →
    wp E 19 80 [.ref a0, .ref a1, .int (nI 0)] [] s Q) ∧
  (¬ (gI s a0 5) ≤ a2 →
    sh s a0 3 11 ∧ ∃ r1, rf s a0 1 r1 ∧ ∃ n2 r3, sh s r1 14 n2 ∧ vp_in a2 n2 ∧ rf s r1 (a2).toNatClampNeg r3 ∧ sh s a1 3 11 ∧ ∃ r4, rf s a1 1 r4 ∧ ∃ n5 r6, sh s r4 14 n5 ∧ vp_in a2 n5 ∧ rf s r4 (a2).toNatClampNeg r6 ∧ sh s r3 1 9 ∧ cV E 8 [.ref r3, .ref r6] s (fun s7 =>
    wp E 19 49 [.ref a0, .ref a1, .int (a2 + (nI 1))] [] s7 Q))) : wp E 19 49 [.ref a0, .ref a1, .int a2] [] s Q := vc_ok E 19 [10, 49, 80] Q 17 false 49 _ _ _ h
theorem sg19_80 {E : AEnv} {a0 : Nat} {a1 : Nat} {a2 : Int32} {s : ASt} {Q : Option Value → ASt → Prop} (h :
  ((nI 8) ≤ a2 →
    sh s a0 3 11 ∧ ∃ r1, rf s a0 3 r1 ∧ sh s a1 3 11 ∧ ∃ r2, rf s a1 3 r2 ∧ sh s r1 0 3 ∧ cV E 1 [.ref r1, .ref r2] s (fun s3 =>
    sh s3 a1 3 11 ∧ sh s3 a0 3 11 ∧ nw (wrI s3 a0 6 (gI s3 a1 6)) (fun s4 =>
    sh s4 a1 3 11 ∧ sh s4 a0 3 11 ∧ nw (wrI s4 a0 7 (gI s4 a1 7)) (fun s5 =>
    sh s5 a1 3 11 ∧ sh s5 a0 3 11 ∧ nw (wrI s5 a0 8 (gI s5 a1 8)) (fun s6 =>
    sh s6 a1 3 11 ∧ sh s6 a0 3 11 ∧ nw (wrI s6 a0 9 (gI s6 a1 9)) (fun s7 =>
    sh s7 a1 3 11 ∧ sh s7 a0 3 11 ∧ nw (wrI s7 a0 10 (gI s7 a1 10)) (fun s8 =>
    Q none s8))))))) ∧
  (¬ (nI 8) ≤ a2 →
    sh s a0 3 11 ∧ ∃ r9, rf s a0 2 r9 ∧ sh s a1 3 11 ∧ ∃ r10, rf s a1 2 r10 ∧ ∃ n11, sh s r10 10 n11 ∧ vp_in a2 n11 ∧ ∃ n12, sh s r9 10 n12 ∧ vp_in a2 n12 ∧ nw (wrI s r9 (a2).toNatClampNeg (gI s r10 (a2).toNatClampNeg)) (fun s13 =>
    wp E 19 80 [.ref a0, .ref a1, .int (a2 + (nI 1))] [] s13 Q))) : wp E 19 80 [.ref a0, .ref a1, .int a2] [] s Q := vc_ok E 19 [10, 49, 80] Q 30 false 80 _ _ _ h
-- 20 CoatedBridges$State.hasIsland(I)Z
theorem sg20_0 {E : AEnv} {a0 : Nat} {a1 : Int32} {s : ASt} {Q : Option Value → ASt → Prop} (h :
  (a1 < (nI 0) →
    fN .boolean (nI 0) = true ∧ Q (some (.int (nI 0))) s) ∧
  (¬ a1 < (nI 0) →
    sh s a0 3 11 ∧ ((gI s a0 4) ≤ a1 →
      fN .boolean (nI 0) = true ∧ Q (some (.int (nI 0))) s) ∧
    (¬ (gI s a0 4) ≤ a1 →
      fN .boolean (nI 1) = true ∧ Q (some (.int (nI 1))) s))) : wp E 20 0 [.ref a0, .int a1] [] s Q := vc_ok E 20 [] Q 10 false 0 _ _ _ h
-- 21 CoatedBridges$State.hasBridge(I)Z
theorem sg21_0 {E : AEnv} {a0 : Nat} {a1 : Int32} {s : ASt} {Q : Option Value → ASt → Prop} (h :
  (a1 < (nI 0) →
    fN .boolean (nI 0) = true ∧ Q (some (.int (nI 0))) s) ∧
  (¬ a1 < (nI 0) →
    sh s a0 3 11 ∧ ((gI s a0 5) ≤ a1 →
      fN .boolean (nI 0) = true ∧ Q (some (.int (nI 0))) s) ∧
    (¬ (gI s a0 5) ≤ a1 →
      fN .boolean (nI 1) = true ∧ Q (some (.int (nI 1))) s))) : wp E 21 0 [.ref a0, .int a1] [] s Q := vc_ok E 21 [] Q 10 false 0 _ _ _ h
-- 22 CoatedBridges$State.addIsland(I)I
theorem sg22_0 {E : AEnv} {a0 : Nat} {a1 : Int32} {s : ASt} {Q : Option Value → ASt → Prop} (h :
  (a1 < (nI 0) →
    Q (some (.int (-1000001 : Int32))) s) ∧
  (¬ a1 < (nI 0) →
    (a1 ≤ (nI 99) →
      sh s a0 3 11 ∧ ((gI s a0 4) < (nI 8) →
        sh s a0 3 11 ∧ ∃ r1, rf s a0 0 r1 ∧ sh s a0 3 11 ∧ ∃ n2 r3, sh s r1 13 n2 ∧ vp_in (gI s a0 4) n2 ∧ rf s r1 ((gI s a0 4)).toNatClampNeg r3 ∧ sh s r3 2 5 ∧ cV E 15 [.ref r3, .int a1] s (fun s4 =>
        sh s4 a0 3 11 ∧ sh s4 a0 3 11 ∧ nw (wrI s4 a0 4 ((gI s4 a0 4) + (nI 1))) (fun s5 =>
        sh s5 a0 3 11 ∧ Q (some (.int ((gI s5 a0 4) - (nI 1)))) s5))) ∧
      (¬ (gI s a0 4) < (nI 8) →
        Q (some (.int (-1000003 : Int32))) s)) ∧
    (¬ a1 ≤ (nI 99) →
      Q (some (.int (-1000001 : Int32))) s))) : wp E 22 0 [.ref a0, .int a1] [] s Q := vc_ok E 22 [] Q 28 false 0 _ _ _ h
-- 23 CoatedBridges$State.addBridge(III)I
theorem sg23_0 {E : AEnv} {a0 : Nat} {a1 : Int32} {a2 : Int32} {a3 : Int32} {s : ASt} {Q : Option Value → ASt → Prop} (h :
  sh s a0 3 11 ∧ cI E 20 [.ref a0, .int a1] s (fun x2 s1 =>
  (x2 = (nI 0) →
    Q (some (.int (-1000001 : Int32))) s1) ∧
  (¬ x2 = (nI 0) →
    sh s1 a0 3 11 ∧ cI E 20 [.ref a0, .int a2] s1 (fun x4 s3 =>
    (x4 = (nI 0) →
      Q (some (.int (-1000001 : Int32))) s3) ∧
    (¬ x4 = (nI 0) →
      (a1 = a2 →
        Q (some (.int (-1000001 : Int32))) s3) ∧
      (¬ a1 = a2 →
        (a3 < (nI 1) →
          Q (some (.int (-1000001 : Int32))) s3) ∧
        (¬ a3 < (nI 1) →
          (a3 ≤ (nI 9) →
            sh s3 a0 3 11 ∧ ((gI s3 a0 5) < (nI 14) →
              sh s3 a0 3 11 ∧ ∃ r5, rf s3 a0 1 r5 ∧ sh s3 a0 3 11 ∧ ∃ n6 r7, sh s3 r5 14 n6 ∧ vp_in (gI s3 a0 5) n6 ∧ rf s3 r5 ((gI s3 a0 5)).toNatClampNeg r7 ∧ sh s3 r7 1 9 ∧ cV E 7 [.ref r7, .int a1, .int a2, .int a3] s3 (fun s8 =>
              sh s8 a0 3 11 ∧ sh s8 a0 3 11 ∧ nw (wrI s8 a0 5 ((gI s8 a0 5) + (nI 1))) (fun s9 =>
              sh s9 a0 3 11 ∧ Q (some (.int ((gI s9 a0 5) - (nI 1)))) s9))) ∧
            (¬ (gI s3 a0 5) < (nI 14) →
              Q (some (.int (-1000003 : Int32))) s3)) ∧
          (¬ a3 ≤ (nI 9) →
            Q (some (.int (-1000001 : Int32))) s3)))))))) : wp E 23 0 [.ref a0, .int a1, .int a2, .int a3] [] s Q := vc_ok E 23 [] Q 42 false 0 _ _ _ h
-- 24 CoatedBridges$State.sendCrew(II)I
theorem sg24_0 {E : AEnv} {a0 : Nat} {a1 : Int32} {a2 : Int32} {s : ASt} {Q : Option Value → ASt → Prop} (h :
  sh s a0 3 11 ∧ cI E 21 [.ref a0, .int a1] s (fun x2 s1 =>
  (x2 = (nI 0) →
    Q (some (.int (-1000001 : Int32))) s1) ∧
  (¬ x2 = (nI 0) →
    (a2 < (nI 0) →
      Q (some (.int (-1000001 : Int32))) s1) ∧
    (¬ a2 < (nI 0) →
      (a2 ≤ (nI 1) →
        sh s1 a0 3 11 ∧ cI E 36 [.ref a0, .int a1] s1 (fun x4 s3 =>
        (a2 ≠ (nI 1) →
          (x4 = (nI 0) →
            sh s3 a0 3 11 ∧ cI E 41 [.ref a0, .int a1] s3 (fun x6 s5 =>
            sh s5 a0 3 11 ∧ ∃ r7, rf s5 a0 1 r7 ∧ ∃ n8 r9, sh s5 r7 14 n8 ∧ vp_in a1 n8 ∧ rf s5 r7 (a1).toNatClampNeg r9 ∧ sh s5 r9 1 9 ∧ cV E 9 [.ref r9] s5 (fun s10 =>
            Q (some (.int x6)) s10))) ∧
          (¬ x4 = (nI 0) →
            ((nI 0) ≠ (nI 0) →
              sh s3 a0 3 11 ∧ cI E 41 [.ref a0, .int a1] s3 (fun x12 s11 =>
              sh s11 a0 3 11 ∧ ∃ r13, rf s11 a0 1 r13 ∧ ∃ n14 r15, sh s11 r13 14 n14 ∧ vp_in a1 n14 ∧ rf s11 r13 (a1).toNatClampNeg r15 ∧ sh s11 r15 1 9 ∧ cV E 9 [.ref r15] s11 (fun s16 =>
              Q (some (.int x12)) s16))) ∧
            (¬ (nI 0) ≠ (nI 0) →
              Q (some (.int (-1000002 : Int32))) s3))) ∧
        (¬ a2 ≠ (nI 1) →
          (x4 ≠ (nI 4) →
            (x4 = (nI 0) →
              sh s3 a0 3 11 ∧ cI E 41 [.ref a0, .int a1] s3 (fun x18 s17 =>
              sh s17 a0 3 11 ∧ ∃ r19, rf s17 a0 1 r19 ∧ ∃ n20 r21, sh s17 r19 14 n20 ∧ vp_in a1 n20 ∧ rf s17 r19 (a1).toNatClampNeg r21 ∧ sh s17 r21 1 9 ∧ cV E 9 [.ref r21] s17 (fun s22 =>
              Q (some (.int x18)) s22))) ∧
            (¬ x4 = (nI 0) →
              ((nI 0) ≠ (nI 0) →
                sh s3 a0 3 11 ∧ cI E 41 [.ref a0, .int a1] s3 (fun x24 s23 =>
                sh s23 a0 3 11 ∧ ∃ r25, rf s23 a0 1 r25 ∧ ∃ n26 r27, sh s23 r25 14 n26 ∧ vp_in a1 n26 ∧ rf s23 r25 (a1).toNatClampNeg r27 ∧ sh s23 r27 1 9 ∧ cV E 9 [.ref r27] s23 (fun s28 =>
                Q (some (.int x24)) s28))) ∧
              (¬ (nI 0) ≠ (nI 0) →
                Q (some (.int (-1000002 : Int32))) s3))) ∧
          (¬ x4 ≠ (nI 4) →
            (x4 = (nI 0) →
              sh s3 a0 3 11 ∧ cI E 41 [.ref a0, .int a1] s3 (fun x30 s29 =>
              sh s29 a0 3 11 ∧ ∃ r31, rf s29 a0 1 r31 ∧ ∃ n32 r33, sh s29 r31 14 n32 ∧ vp_in a1 n32 ∧ rf s29 r31 (a1).toNatClampNeg r33 ∧ sh s29 r33 1 9 ∧ cV E 9 [.ref r33] s29 (fun s34 =>
              Q (some (.int x30)) s34))) ∧
            (¬ x4 = (nI 0) →
              ((nI 1) ≠ (nI 0) →
                sh s3 a0 3 11 ∧ cI E 41 [.ref a0, .int a1] s3 (fun x36 s35 =>
                sh s35 a0 3 11 ∧ ∃ r37, rf s35 a0 1 r37 ∧ ∃ n38 r39, sh s35 r37 14 n38 ∧ vp_in a1 n38 ∧ rf s35 r37 (a1).toNatClampNeg r39 ∧ sh s35 r39 1 9 ∧ cV E 9 [.ref r39] s35 (fun s40 =>
                Q (some (.int x36)) s40))) ∧
              (¬ (nI 1) ≠ (nI 0) →
                Q (some (.int (-1000002 : Int32))) s3)))))) ∧
      (¬ a2 ≤ (nI 1) →
        Q (some (.int (-1000001 : Int32))) s1))))) : wp E 24 0 [.ref a0, .int a1, .int a2] [] s Q := vc_ok E 24 [] Q 38 false 0 _ _ _ h
-- 25 CoatedBridges$State.callBack(I)I
theorem sg25_0 {E : AEnv} {a0 : Nat} {a1 : Int32} {s : ASt} {Q : Option Value → ASt → Prop} (h :
  sh s a0 3 11 ∧ cI E 21 [.ref a0, .int a1] s (fun x2 s1 =>
  (x2 ≠ (nI 0) →
    sh s1 a0 3 11 ∧ ∃ r3, rf s1 a0 1 r3 ∧ ∃ n4 r5, sh s1 r3 14 n4 ∧ vp_in a1 n4 ∧ rf s1 r3 (a1).toNatClampNeg r5 ∧ sh s1 r5 1 9 ∧ ((gI s1 r5 5) = (nI 1) →
      sh s1 a0 3 11 ∧ ∃ r6, rf s1 a0 1 r6 ∧ ∃ n7 r8, sh s1 r6 14 n7 ∧ vp_in a1 n7 ∧ rf s1 r6 (a1).toNatClampNeg r8 ∧ sh s1 r8 1 9 ∧ cV E 10 [.ref r8] s1 (fun s9 =>
      sh s9 a0 3 11 ∧ ∃ r10, rf s9 a0 1 r10 ∧ ∃ n11 r12, sh s9 r10 14 n11 ∧ vp_in a1 n11 ∧ rf s9 r10 (a1).toNatClampNeg r12 ∧ sh s9 r12 1 9 ∧ Q (some (.int (gI s9 r12 4))) s9)) ∧
    (¬ (gI s1 r5 5) = (nI 1) →
      Q (some (.int (-1000002 : Int32))) s1)) ∧
  (¬ x2 ≠ (nI 0) →
    Q (some (.int (-1000001 : Int32))) s1))) : wp E 25 0 [.ref a0, .int a1] [] s Q := vc_ok E 25 [] Q 23 false 0 _ _ _ h
-- 26 CoatedBridges$State.payIn(I)I
theorem sg26_0 {E : AEnv} {a0 : Nat} {a1 : Int32} {s : ASt} {Q : Option Value → ASt → Prop} (h :
  (a1 < (nI 1) →
    Q (some (.int (-1000001 : Int32))) s) ∧
  (¬ a1 < (nI 1) →
    (a1 ≤ (nI 999) →
      sh s a0 3 11 ∧ (((gI s a0 7) + a1) ≤ (nI 999999) →
        sh s a0 3 11 ∧ cV E 34 [.ref a0, .int a1] s (fun s1 =>
        sh s1 a0 3 11 ∧ Q (some (.int (gI s1 a0 7))) s1)) ∧
      (¬ ((gI s a0 7) + a1) ≤ (nI 999999) →
        Q (some (.int (-1000003 : Int32))) s)) ∧
    (¬ a1 ≤ (nI 999) →
      Q (some (.int (-1000001 : Int32))) s))) : wp E 26 0 [.ref a0, .int a1] [] s Q := vc_ok E 26 [] Q 19 false 0 _ _ _ h
-- 27 CoatedBridges$State.changeSetting(II)I
theorem sg27_0 {E : AEnv} {a0 : Nat} {a1 : Int32} {a2 : Int32} {s : ASt} {Q : Option Value → ASt → Prop} (h :
  (a1 < (nI 0) →
    Q (some (.int (-1000001 : Int32))) s) ∧
  (¬ a1 < (nI 0) →
    ((nI 8) ≤ a1 →
      Q (some (.int (-1000001 : Int32))) s) ∧
    (¬ (nI 8) ≤ a1 →
      vp_in a1 (E 1).1 ∧ (a2 < ((E 1).2 (a1).toNatClampNeg) →
        Q (some (.int (-1000001 : Int32))) s) ∧
      (¬ a2 < ((E 1).2 (a1).toNatClampNeg) →
        vp_in a1 (E 2).1 ∧ (a2 ≤ ((E 2).2 (a1).toNatClampNeg) →
          sh s a0 3 11 ∧ ∃ r1, rf s a0 2 r1 ∧ ∃ n2, sh s r1 10 n2 ∧ vp_in a1 n2 ∧ sh s a0 3 11 ∧ ∃ r3, rf s a0 2 r3 ∧ ∃ n4, sh s r3 10 n4 ∧ vp_in a1 n4 ∧ nw (wrI s r3 (a1).toNatClampNeg a2) (fun s5 =>
          Q (some (.int (gI s r1 (a1).toNatClampNeg))) s5)) ∧
        (¬ a2 ≤ ((E 2).2 (a1).toNatClampNeg) →
          Q (some (.int (-1000001 : Int32))) s))))) : wp E 27 0 [.ref a0, .int a1, .int a2] [] s Q := vc_ok E 27 [] Q 28 false 0 _ _ _ h
-- 28 CoatedBridges$State.endDays(I)I
theorem sg28_0 {E : AEnv} {a0 : Nat} {a1 : Int32} {s : ASt} {Q : Option Value → ASt → Prop} (h :
  (a1 < (nI 1) →
    Q (some (.int (-1000001 : Int32))) s) ∧
  (¬ a1 < (nI 1) →
    (a1 ≤ (nI 99) →
      sh s a0 3 11 ∧ (((gI s a0 6) + a1) ≤ (nI 9999) →
        wp E 28 33 [.ref a0, .int a1, .int (nI 0), .int (nI 0)] [] s Q) ∧
      (¬ ((gI s a0 6) + a1) ≤ (nI 9999) →
        Q (some (.int (-1000003 : Int32))) s)) ∧
    (¬ a1 ≤ (nI 99) →
      Q (some (.int (-1000001 : Int32))) s))) : wp E 28 0 [.ref a0, .int a1] [] s Q := vc_ok E 28 [33] Q 18 false 0 _ _ _ h
theorem sg28_33 {E : AEnv} {a0 : Nat} {a1 : Int32} {a2 : Int32} {a3 : Int32} {s : ASt} {Q : Option Value → ASt → Prop} (h :
  (a1 ≤ a3 →
    Q (some (.int a2)) s) ∧
  (¬ a1 ≤ a3 →
    sh s a0 3 11 ∧ cI E 29 [.ref a0] s (fun x2 s1 =>
    wp E 28 33 [.ref a0, .int a1, .int (a2 + x2), .int (a3 + (nI 1))] [] s1 Q))) : wp E 28 33 [.ref a0, .int a1, .int a2, .int a3] [] s Q := vc_ok E 28 [33] Q 12 false 33 _ _ _ h
-- 29 CoatedBridges$State.endDay()I
theorem sg29_0 {E : AEnv} {a0 : Nat} {s : ASt} {Q : Option Value → ASt → Prop} (h :
  sh s a0 3 11 ∧ cI E 38 [.ref a0, .int (nI 0)] s (fun x2 s1 =>
  sh s1 a0 3 11 ∧ cV E 30 [.ref a0] s1 (fun s3 =>
  sh s3 a0 3 11 ∧ cV E 31 [.ref a0, .int x2] s3 (fun s4 =>
  sh s4 a0 3 11 ∧ cI E 32 [.ref a0] s4 (fun x6 s5 =>
  (x6 ≤ (nI 0) →
    sh s5 a0 3 11 ∧ sh s5 a0 3 11 ∧ nw (wrI s5 a0 6 ((gI s5 a0 6) + (nI 1))) (fun s7 =>
    sh s7 a0 3 11 ∧ ∃ r8, rf s7 a0 2 r8 ∧ ∃ n9, sh s7 r8 10 n9 ∧ vp_in (nI 5) n9 ∧ sh s7 a0 3 11 ∧ cV E 34 [.ref a0, .int (gI s7 r8 5)] s7 (fun s10 =>
    wp E 29 58 [.ref a0, .int x2, .int x6, .int (nI 0)] [] s10 Q))) ∧
  (¬ x6 ≤ (nI 0) →
    sh s5 a0 3 11 ∧ ∃ r11, rf s5 a0 3 r11 ∧ sh s5 a0 3 11 ∧ sh s5 r11 0 3 ∧ cV E 2 [.ref r11, .int (gI s5 a0 6), .int x6] s5 (fun s12 =>
    sh s12 a0 3 11 ∧ sh s12 a0 3 11 ∧ nw (wrI s12 a0 6 ((gI s12 a0 6) + (nI 1))) (fun s13 =>
    sh s13 a0 3 11 ∧ ∃ r14, rf s13 a0 2 r14 ∧ ∃ n15, sh s13 r14 10 n15 ∧ vp_in (nI 5) n15 ∧ sh s13 a0 3 11 ∧ cV E 34 [.ref a0, .int (gI s13 r14 5)] s13 (fun s16 =>
    wp E 29 58 [.ref a0, .int x2, .int x6, .int (nI 0)] [] s16 Q))))))))) : wp E 29 0 [.ref a0] [] s Q := vc_ok E 29 [58] Q 36 false 0 _ _ _ h
theorem sg29_58 {E : AEnv} {a0 : Nat} {a1 : Int32} {a2 : Int32} {a3 : Int32} {s : ASt} {Q : Option Value → ASt → Prop} (h :
  ((nI 4) ≤ a3 →
    Q (some (.int a2)) s) ∧
  (¬ (nI 4) ≤ a3 →
    sh s a0 3 11 ∧ ∃ r1, rf s a0 2 r1 ∧ ∃ n2, sh s r1 10 n2 ∧ vp_in (nI 6) n2 ∧ ((gI s r1 6) ≠ (nI 1) →
      Q (some (.int a2)) s) ∧
    (¬ (gI s r1 6) ≠ (nI 1) →
      sh s a0 3 11 ∧ cI E 37 [.ref a0] s (fun x4 s3 =>
      sh s3 a0 3 11 ∧ cI E 21 [.ref a0, .int x4] s3 (fun x6 s5 =>
      (x6 ≠ (nI 0) →
        sh s5 a0 3 11 ∧ ∃ r7, rf s5 a0 1 r7 ∧ ∃ n8 r9, sh s5 r7 14 n8 ∧ vp_in x4 n8 ∧ rf s5 r7 (x4).toNatClampNeg r9 ∧ sh s5 r9 1 9 ∧ cV E 9 [.ref r9] s5 (fun s10 =>
        wp E 29 58 [.ref a0, .int a1, .int a2, .int (a3 + (nI 1))] [] s10 Q)) ∧
      (¬ x6 ≠ (nI 0) →
        Q (some (.int a2)) s5)))))) : wp E 29 58 [.ref a0, .int a1, .int a2, .int a3] [] s Q := vc_ok E 29 [58] Q 25 false 58 _ _ _ h
-- 30 CoatedBridges$State.paintBridges()V
theorem sg30_0 {E : AEnv} {a0 : Nat} {s : ASt} {Q : Option Value → ASt → Prop} (h :
  sh s a0 3 11 ∧ ∃ r1, rf s a0 2 r1 ∧ ∃ n2, sh s r1 10 n2 ∧ vp_in (nI 2) n2 ∧ wp E 30 9 [.ref a0, .int (gI s r1 2), .int (nI 0)] [] s Q) : wp E 30 0 [.ref a0] [] s Q := vc_ok E 30 [9] Q 9 false 0 _ _ _ h
theorem sg30_9 {E : AEnv} {a0 : Nat} {a1 : Int32} {a2 : Int32} {s : ASt} {Q : Option Value → ASt → Prop} (h :
  sh s a0 3 11 ∧ ((gI s a0 5) ≤ a2 →
    Q none s) ∧
  (¬ (gI s a0 5) ≤ a2 →
    sh s a0 3 11 ∧ ∃ r1, rf s a0 1 r1 ∧ ∃ n2 r3, sh s r1 14 n2 ∧ vp_in a2 n2 ∧ rf s r1 (a2).toNatClampNeg r3 ∧ sh s r3 1 9 ∧ ((gI s r3 5) ≠ (nI 1) →
      wp E 30 9 [.ref a0, .int a1, .int (a2 + (nI 1))] [] s Q) ∧
    (¬ (gI s r3 5) ≠ (nI 1) →
      sh s a0 3 11 ∧ ((gI s a0 7) < a1 →
        wp E 30 9 [.ref a0, .int a1, .int (a2 + (nI 1))] [] s Q) ∧
      (¬ (gI s a0 7) < a1 →
        sh s a0 3 11 ∧ sh s a0 3 11 ∧ nw (wrI s a0 7 ((gI s a0 7) - a1)) (fun s4 =>
        sh s4 a0 3 11 ∧ sh s4 a0 3 11 ∧ nw (wrI s4 a0 8 ((gI s4 a0 8) + a1)) (fun s5 =>
        sh s5 a0 3 11 ∧ ∃ r6, rf s5 a0 1 r6 ∧ ∃ n7 r8, sh s5 r6 14 n7 ∧ vp_in a2 n7 ∧ rf s5 r6 (a2).toNatClampNeg r8 ∧ sh s5 a0 3 11 ∧ ∃ r9, rf s5 a0 2 r9 ∧ ∃ n10, sh s5 r9 10 n10 ∧ vp_in (nI 1) n10 ∧ sh s5 r8 1 9 ∧ cV E 11 [.ref r8, .int (gI s5 r9 1), .int a1] s5 (fun s11 =>
        wp E 30 9 [.ref a0, .int a1, .int (a2 + (nI 1))] [] s11 Q))))))) : wp E 30 9 [.ref a0, .int a1, .int a2] [] s Q := vc_ok E 30 [9] Q 41 false 9 _ _ _ h
-- 31 CoatedBridges$State.wearBridges(I)V
theorem sg31_0 {E : AEnv} {a0 : Nat} {a1 : Int32} {s : ASt} {Q : Option Value → ASt → Prop} (h :
  wp E 31 2 [.ref a0, .int a1, .int (nI 0)] [] s Q) : wp E 31 0 [.ref a0, .int a1] [] s Q := vc_ok E 31 [2] Q 4 false 0 _ _ _ h
theorem sg31_2 {E : AEnv} {a0 : Nat} {a1 : Int32} {a2 : Int32} {s : ASt} {Q : Option Value → ASt → Prop} (h :
  sh s a0 3 11 ∧ ((gI s a0 5) ≤ a2 →
    Q none s) ∧
  (¬ (gI s a0 5) ≤ a2 →
    cI E 88 [.int a1, .int a2] s (fun x2 s1 =>
    (x2 = (nI 0) →
      sh s1 a0 3 11 ∧ ∃ r3, rf s1 a0 1 r3 ∧ ∃ n4 r5, sh s1 r3 14 n4 ∧ vp_in a2 n4 ∧ rf s1 r3 (a2).toNatClampNeg r5 ∧ sh s1 r5 1 9 ∧ ((gI s1 r5 5) = (nI 0) →
        wp E 31 2 [.ref a0, .int a1, .int (a2 + (nI 1))] [] s1 Q) ∧
      (¬ (gI s1 r5 5) = (nI 0) →
        sh s1 a0 3 11 ∧ ∃ r6, rf s1 a0 1 r6 ∧ ∃ n7 r8, sh s1 r6 14 n7 ∧ vp_in a2 n7 ∧ rf s1 r6 (a2).toNatClampNeg r8 ∧ sh s1 r8 1 9 ∧ sh s1 r8 1 9 ∧ nw (wrI s1 r8 7 ((gI s1 r8 7) + (nI 1))) (fun s9 =>
        wp E 31 2 [.ref a0, .int a1, .int (a2 + (nI 1))] [] s9 Q))) ∧
    (¬ x2 = (nI 0) →
      sh s1 a0 3 11 ∧ ∃ r10, rf s1 a0 1 r10 ∧ ∃ n11 r12, sh s1 r10 14 n11 ∧ vp_in a2 n11 ∧ rf s1 r10 (a2).toNatClampNeg r12 ∧ sh s1 r12 1 9 ∧ cV E 12 [.ref r12] s1 (fun s13 =>
      sh s13 a0 3 11 ∧ ∃ r14, rf s13 a0 1 r14 ∧ ∃ n15 r16, sh s13 r14 14 n15 ∧ vp_in a2 n15 ∧ rf s13 r14 (a2).toNatClampNeg r16 ∧ sh s13 r16 1 9 ∧ ((gI s13 r16 5) = (nI 0) →
        wp E 31 2 [.ref a0, .int a1, .int (a2 + (nI 1))] [] s13 Q) ∧
      (¬ (gI s13 r16 5) = (nI 0) →
        sh s13 a0 3 11 ∧ ∃ r17, rf s13 a0 1 r17 ∧ ∃ n18 r19, sh s13 r17 14 n18 ∧ vp_in a2 n18 ∧ rf s13 r17 (a2).toNatClampNeg r19 ∧ sh s13 r19 1 9 ∧ sh s13 r19 1 9 ∧ nw (wrI s13 r19 7 ((gI s13 r19 7) + (nI 1))) (fun s20 =>
        wp E 31 2 [.ref a0, .int a1, .int (a2 + (nI 1))] [] s20 Q))))))) : wp E 31 2 [.ref a0, .int a1, .int a2] [] s Q := vc_ok E 31 [2] Q 32 false 2 _ _ _ h
-- 32 CoatedBridges$State.letIslandsWait()I
theorem sg32_0 {E : AEnv} {a0 : Nat} {s : ASt} {Q : Option Value → ASt → Prop} (h :
  sh s a0 3 11 ∧ cI E 39 [.ref a0, .int (nI 0), .int (-1 : Int32)] s (fun x2 s1 =>
  wp E 32 11 [.ref a0, .int x2, .int (nI 0), .int (nI 1)] [] s1 Q)) : wp E 32 0 [.ref a0] [] s Q := vc_ok E 32 [11] Q 11 false 0 _ _ _ h
theorem sg32_11 {E : AEnv} {a0 : Nat} {a1 : Int32} {a2 : Int32} {a3 : Int32} {s : ASt} {Q : Option Value → ASt → Prop} (h :
  sh s a0 3 11 ∧ ((gI s a0 4) ≤ a3 →
    Q (some (.int a2)) s) ∧
  (¬ (gI s a0 4) ≤ a3 →
    sh s a0 3 11 ∧ ∃ r1, rf s a0 0 r1 ∧ ∃ n2 r3, sh s r1 13 n2 ∧ vp_in a3 n2 ∧ rf s r1 (a3).toNatClampNeg r3 ∧ cI E 88 [.int a1, .int a3] s (fun x5 s4 =>
    (x5 = (nI 0) →
      sh s4 a0 3 11 ∧ ∃ r6, rf s4 a0 2 r6 ∧ ∃ n7, sh s4 r6 10 n7 ∧ vp_in (nI 3) n7 ∧ ((gI s4 r6 3) ≠ (nI 1) →
        sh s4 a0 3 11 ∧ ∃ r8, rf s4 a0 2 r8 ∧ ∃ n9, sh s4 r8 10 n9 ∧ vp_in (nI 4) n9 ∧ sh s4 r3 2 5 ∧ cI E 17 [.ref r3, .int (gI s4 r8 4)] s4 (fun x11 s10 =>
        (x11 = (nI 0) →
          wp E 32 11 [.ref a0, .int a1, .int a2, .int (a3 + (nI 1))] [] s10 Q) ∧
        (¬ x11 = (nI 0) →
          wp E 32 11 [.ref a0, .int a1, .int (a2 + (nI 1)), .int (a3 + (nI 1))] [] s10 Q))) ∧
      (¬ (gI s4 r6 3) ≠ (nI 1) →
        sh s4 a0 3 11 ∧ sh s4 r3 2 5 ∧ ((gI s4 a0 7) < (gI s4 r3 0) →
          sh s4 a0 3 11 ∧ ∃ r12, rf s4 a0 2 r12 ∧ ∃ n13, sh s4 r12 10 n13 ∧ vp_in (nI 4) n13 ∧ sh s4 r3 2 5 ∧ cI E 17 [.ref r3, .int (gI s4 r12 4)] s4 (fun x15 s14 =>
          (x15 = (nI 0) →
            wp E 32 11 [.ref a0, .int a1, .int a2, .int (a3 + (nI 1))] [] s14 Q) ∧
          (¬ x15 = (nI 0) →
            wp E 32 11 [.ref a0, .int a1, .int (a2 + (nI 1)), .int (a3 + (nI 1))] [] s14 Q))) ∧
        (¬ (gI s4 a0 7) < (gI s4 r3 0) →
          sh s4 a0 3 11 ∧ cV E 33 [.ref a0, .ref r3] s4 (fun s16 =>
          wp E 32 11 [.ref a0, .int a1, .int a2, .int (a3 + (nI 1))] [] s16 Q)))) ∧
    (¬ x5 = (nI 0) →
      sh s4 r3 2 5 ∧ nw (wrI s4 r3 1 (nI 0)) (fun s17 =>
      wp E 32 11 [.ref a0, .int a1, .int a2, .int (a3 + (nI 1))] [] s17 Q))))) : wp E 32 11 [.ref a0, .int a1, .int a2, .int a3] [] s Q := vc_ok E 32 [11] Q 36 false 11 _ _ _ h
-- 33 CoatedBridges$State.payFerry(LCoatedBridges$Island;)V
theorem sg33_0 {E : AEnv} {a0 : Nat} {a1 : Nat} {s : ASt} {Q : Option Value → ASt → Prop} (h :
  sh s a0 3 11 ∧ sh s a1 2 5 ∧ sh s a0 3 11 ∧ nw (wrI s a0 7 ((gI s a0 7) - (gI s a1 0))) (fun s1 =>
  sh s1 a0 3 11 ∧ sh s1 a1 2 5 ∧ sh s1 a0 3 11 ∧ nw (wrI s1 a0 9 ((gI s1 a0 9) + (gI s1 a1 0))) (fun s2 =>
  sh s2 a1 2 5 ∧ sh s2 a1 2 5 ∧ nw (wrI s2 a1 4 ((gI s2 a1 4) + (nI 1))) (fun s3 =>
  sh s3 a1 2 5 ∧ nw (wrI s3 a1 1 (nI 0)) (fun s4 =>
  Q none s4))))) : wp E 33 0 [.ref a0, .ref a1] [] s Q := vc_ok E 33 [] Q 25 false 0 _ _ _ h
-- 34 CoatedBridges$State.receive(I)V
theorem sg34_0 {E : AEnv} {a0 : Nat} {a1 : Int32} {s : ASt} {Q : Option Value → ASt → Prop} (h :
  sh s a0 3 11 ∧ sh s a0 3 11 ∧ nw (wrI s a0 7 ((gI s a0 7) + a1)) (fun s1 =>
  sh s1 a0 3 11 ∧ sh s1 a0 3 11 ∧ nw (wrI s1 a0 10 ((gI s1 a0 10) + a1)) (fun s2 =>
  Q none s2))) : wp E 34 0 [.ref a0, .int a1] [] s Q := vc_ok E 34 [] Q 14 false 0 _ _ _ h
-- 35 CoatedBridges$State.freeCrews()I
theorem sg35_0 {E : AEnv} {a0 : Nat} {s : ASt} {Q : Option Value → ASt → Prop} (h :
  sh s a0 3 11 ∧ ∃ r1, rf s a0 2 r1 ∧ ∃ n2, sh s r1 10 n2 ∧ vp_in (nI 0) n2 ∧ sh s a0 3 11 ∧ cI E 38 [.ref a0, .int (nI 1)] s (fun x4 s3 =>
  cI E 92 [.int x4] s3 (fun x6 s5 =>
  cI E 93 [.int (nI 0), .int ((gI s r1 0) - x6)] s5 (fun x8 s7 =>
  Q (some (.int x8)) s7)))) : wp E 35 0 [.ref a0] [] s Q := vc_ok E 35 [] Q 13 false 0 _ _ _ h
-- 36 CoatedBridges$State.reasonAgainst(I)I
theorem sg36_0 {E : AEnv} {a0 : Nat} {a1 : Int32} {s : ASt} {Q : Option Value → ASt → Prop} (h :
  sh s a0 3 11 ∧ ∃ r1, rf s a0 1 r1 ∧ ∃ n2 r3, sh s r1 14 n2 ∧ vp_in a1 n2 ∧ rf s r1 (a1).toNatClampNeg r3 ∧ sh s r3 1 9 ∧ ((gI s r3 5) ≠ (nI 1) →
    sh s a0 3 11 ∧ ∃ r4, rf s a0 1 r4 ∧ ∃ n5 r6, sh s r4 14 n5 ∧ vp_in a1 n5 ∧ rf s r4 (a1).toNatClampNeg r6 ∧ sh s r6 1 9 ∧ ((gI s r6 4) ≠ (nI 100) →
      sh s a0 3 11 ∧ cI E 35 [.ref a0] s (fun x8 s7 =>
      (x8 ≠ (nI 0) →
        sh s7 a0 3 11 ∧ cI E 41 [.ref a0, .int a1] s7 (fun x10 s9 =>
        (x10 ≠ (nI 0) →
          Q (some (.int (nI 4))) s9) ∧
        (¬ x10 ≠ (nI 0) →
          Q (some (.int (nI 0))) s9))) ∧
      (¬ x8 ≠ (nI 0) →
        Q (some (.int (nI 3))) s7))) ∧
    (¬ (gI s r6 4) ≠ (nI 100) →
      Q (some (.int (nI 2))) s)) ∧
  (¬ (gI s r3 5) ≠ (nI 1) →
    Q (some (.int (nI 1))) s)) : wp E 36 0 [.ref a0, .int a1] [] s Q := vc_ok E 36 [] Q 25 false 0 _ _ _ h
-- 37 CoatedBridges$State.bridgeToPaintNext()I
theorem sg37_0 {E : AEnv} {a0 : Nat} {s : ASt} {Q : Option Value → ASt → Prop} (h :
  sh s a0 3 11 ∧ cI E 35 [.ref a0] s (fun x2 s1 =>
  (x2 ≠ (nI 0) →
    sh s1 a0 3 11 ∧ cI E 39 [.ref a0, .int (nI 0), .int (-1 : Int32)] s1 (fun x4 s3 =>
    sh s3 a0 3 11 ∧ ∃ r5, rf s3 a0 2 r5 ∧ ∃ n6, sh s3 r5 10 n6 ∧ vp_in (nI 7) n6 ∧ wp E 37 33 [.ref a0, .int x4, .int (-1000004 : Int32), .int ((gI s3 r5 7) + (nI 1)), .int (nI 0)] [] s3 Q)) ∧
  (¬ x2 ≠ (nI 0) →
    Q (some (.int (-1000004 : Int32))) s1))) : wp E 37 0 [.ref a0] [] s Q := vc_ok E 37 [33] Q 21 false 0 _ _ _ h
theorem sg37_33 {E : AEnv} {a0 : Nat} {a1 : Int32} {a2 : Int32} {a3 : Int32} {a4 : Int32} {s : ASt} {Q : Option Value → ASt → Prop} (h :
  sh s a0 3 11 ∧ ((gI s a0 5) ≤ a4 →
    Q (some (.int a2)) s) ∧
  (¬ (gI s a0 5) ≤ a4 →
    sh s a0 3 11 ∧ ∃ r1, rf s a0 1 r1 ∧ ∃ n2 r3, sh s r1 14 n2 ∧ vp_in a4 n2 ∧ rf s r1 (a4).toNatClampNeg r3 ∧ sh s r3 1 9 ∧ ((gI s r3 5) = (nI 1) →
      wp E 37 33 [.ref a0, .int a1, .int a2, .int a3, .int (a4 + (nI 1))] [] s Q) ∧
    (¬ (gI s r3 5) = (nI 1) →
      sh s r3 1 9 ∧ (a3 ≤ (gI s r3 4) →
        wp E 37 33 [.ref a0, .int a1, .int a2, .int a3, .int (a4 + (nI 1))] [] s Q) ∧
      (¬ a3 ≤ (gI s r3 4) →
        sh s a0 3 11 ∧ cI E 39 [.ref a0, .int (nI 0), .int a4] s (fun x5 s4 =>
        (x5 ≠ a1 →
          wp E 37 33 [.ref a0, .int a1, .int a2, .int a3, .int (a4 + (nI 1))] [] s4 Q) ∧
        (¬ x5 ≠ a1 →
          sh s4 r3 1 9 ∧ wp E 37 33 [.ref a0, .int a1, .int a4, .int (gI s4 r3 4), .int (a4 + (nI 1))] [] s4 Q)))))) : wp E 37 33 [.ref a0, .int a1, .int a2, .int a3, .int a4] [] s Q := vc_ok E 37 [33] Q 32 false 33 _ _ _ h
-- 38 CoatedBridges$State.bridgesThatAre(I)I
theorem sg38_0 {E : AEnv} {a0 : Nat} {a1 : Int32} {s : ASt} {Q : Option Value → ASt → Prop} (h :
  wp E 38 4 [.ref a0, .int a1, .int (nI 0), .int (nI 0)] [] s Q) : wp E 38 0 [.ref a0, .int a1] [] s Q := vc_ok E 38 [4] Q 6 false 0 _ _ _ h
theorem sg38_4 {E : AEnv} {a0 : Nat} {a1 : Int32} {a2 : Int32} {a3 : Int32} {s : ASt} {Q : Option Value → ASt → Prop} (h :
  sh s a0 3 11 ∧ ((gI s a0 5) ≤ a3 →
    Q (some (.int a2)) s) ∧
  (¬ (gI s a0 5) ≤ a3 →
    sh s a0 3 11 ∧ ∃ r1, rf s a0 1 r1 ∧ ∃ n2 r3, sh s r1 14 n2 ∧ vp_in a3 n2 ∧ rf s r1 (a3).toNatClampNeg r3 ∧ sh s r3 1 9 ∧ ((gI s r3 5) ≠ a1 →
      wp E 38 4 [.ref a0, .int a1, .int a2, .int (a3 + (nI 1))] [] s Q) ∧
    (¬ (gI s r3 5) ≠ a1 →
      wp E 38 4 [.ref a0, .int a1, .int (a2 ||| ((nI 1) <<< (a3 &&& 31))), .int (a3 + (nI 1))] [] s Q))) : wp E 38 4 [.ref a0, .int a1, .int a2, .int a3] [] s Q := vc_ok E 38 [4] Q 21 false 4 _ _ _ h
-- 39 CoatedBridges$State.reachFrom(II)I
theorem sg39_0 {E : AEnv} {a0 : Nat} {a1 : Int32} {a2 : Int32} {s : ASt} {Q : Option Value → ASt → Prop} (h :
  wp E 39 7 [.ref a0, .int a1, .int a2, .int ((nI 1) <<< (a1 &&& 31)), .int (nI 0)] [] s Q) : wp E 39 0 [.ref a0, .int a1, .int a2] [] s Q := vc_ok E 39 [7] Q 8 false 0 _ _ _ h
theorem sg39_7 {E : AEnv} {a0 : Nat} {a1 : Int32} {a2 : Int32} {a3 : Int32} {a4 : Int32} {s : ASt} {Q : Option Value → ASt → Prop} (h :
  ((nI 8) ≤ a4 →
    Q (some (.int a3)) s) ∧
  (¬ (nI 8) ≤ a4 →
    sh s a0 3 11 ∧ cI E 40 [.ref a0, .int a3, .int a2] s (fun x2 s1 =>
    (x2 ≠ a3 →
      wp E 39 7 [.ref a0, .int a1, .int a2, .int x2, .int (a4 + (nI 1))] [] s1 Q) ∧
    (¬ x2 ≠ a3 →
      Q (some (.int a3)) s1)))) : wp E 39 7 [.ref a0, .int a1, .int a2, .int a3, .int a4] [] s Q := vc_ok E 39 [7] Q 17 false 7 _ _ _ h
-- 40 CoatedBridges$State.oneBridgeOn(II)I
theorem sg40_0 {E : AEnv} {a0 : Nat} {a1 : Int32} {a2 : Int32} {s : ASt} {Q : Option Value → ASt → Prop} (h :
  wp E 40 5 [.ref a0, .int a1, .int a2, .int a1, .int (nI 0)] [] s Q) : wp E 40 0 [.ref a0, .int a1, .int a2] [] s Q := vc_ok E 40 [5] Q 6 false 0 _ _ _ h
theorem sg40_5 {E : AEnv} {a0 : Nat} {a1 : Int32} {a2 : Int32} {a3 : Int32} {a4 : Int32} {s : ASt} {Q : Option Value → ASt → Prop} (h :
  sh s a0 3 11 ∧ ((gI s a0 5) ≤ a4 →
    Q (some (.int a3)) s) ∧
  (¬ (gI s a0 5) ≤ a4 →
    sh s a0 3 11 ∧ ∃ r1, rf s a0 1 r1 ∧ ∃ n2 r3, sh s r1 14 n2 ∧ vp_in a4 n2 ∧ rf s r1 (a4).toNatClampNeg r3 ∧ sh s r3 1 9 ∧ ((gI s r3 5) ≠ (nI 0) →
      wp E 40 5 [.ref a0, .int a1, .int a2, .int a3, .int (a4 + (nI 1))] [] s Q) ∧
    (¬ (gI s r3 5) ≠ (nI 0) →
      (a4 = a2 →
        wp E 40 5 [.ref a0, .int a1, .int a2, .int a3, .int (a4 + (nI 1))] [] s Q) ∧
      (¬ a4 = a2 →
        sh s r3 1 9 ∧ ((a1 &&& (gI s r3 2)) = (nI 0) →
          wp E 40 5 [.ref a0, .int a1, .int a2, .int a3, .int (a4 + (nI 1))] [] s Q) ∧
        (¬ (a1 &&& (gI s r3 2)) = (nI 0) →
          sh s r3 1 9 ∧ wp E 40 5 [.ref a0, .int a1, .int a2, .int (a3 ||| (gI s r3 2)), .int (a4 + (nI 1))] [] s Q))))) : wp E 40 5 [.ref a0, .int a1, .int a2, .int a3, .int a4] [] s Q := vc_ok E 40 [5] Q 29 false 5 _ _ _ h
-- 41 CoatedBridges$State.lostWithout(I)I
theorem sg41_0 {E : AEnv} {a0 : Nat} {a1 : Int32} {s : ASt} {Q : Option Value → ASt → Prop} (h :
  sh s a0 3 11 ∧ cI E 39 [.ref a0, .int (nI 0), .int (-1 : Int32)] s (fun x2 s1 =>
  sh s1 a0 3 11 ∧ cI E 39 [.ref a0, .int (nI 0), .int a1] s1 (fun x4 s3 =>
  Q (some (.int (x2 &&& (x4 ^^^ (-1 : Int32))))) s3))) : wp E 41 0 [.ref a0, .int a1] [] s Q := vc_ok E 41 [] Q 13 false 0 _ _ _ h
-- 42 CoatedBridges$State.neededBridges()I
theorem sg42_0 {E : AEnv} {a0 : Nat} {s : ASt} {Q : Option Value → ASt → Prop} (h :
  sh s a0 3 11 ∧ cI E 39 [.ref a0, .int (nI 0), .int (-1 : Int32)] s (fun x2 s1 =>
  wp E 42 11 [.ref a0, .int x2, .int (nI 0), .int (nI 0)] [] s1 Q)) : wp E 42 0 [.ref a0] [] s Q := vc_ok E 42 [11] Q 11 false 0 _ _ _ h
theorem sg42_11 {E : AEnv} {a0 : Nat} {a1 : Int32} {a2 : Int32} {a3 : Int32} {s : ASt} {Q : Option Value → ASt → Prop} (h :
  sh s a0 3 11 ∧ ((gI s a0 5) ≤ a3 →
    Q (some (.int a2)) s) ∧
  (¬ (gI s a0 5) ≤ a3 →
    sh s a0 3 11 ∧ ∃ r1, rf s a0 1 r1 ∧ ∃ n2 r3, sh s r1 14 n2 ∧ vp_in a3 n2 ∧ rf s r1 (a3).toNatClampNeg r3 ∧ sh s r3 1 9 ∧ ((gI s r3 5) ≠ (nI 0) →
      wp E 42 11 [.ref a0, .int a1, .int a2, .int (a3 + (nI 1))] [] s Q) ∧
    (¬ (gI s r3 5) ≠ (nI 0) →
      sh s a0 3 11 ∧ cI E 39 [.ref a0, .int (nI 0), .int a3] s (fun x5 s4 =>
      (x5 = a1 →
        wp E 42 11 [.ref a0, .int a1, .int a2, .int (a3 + (nI 1))] [] s4 Q) ∧
      (¬ x5 = a1 →
        wp E 42 11 [.ref a0, .int a1, .int (a2 ||| ((nI 1) <<< (a3 &&& 31))), .int (a3 + (nI 1))] [] s4 Q))))) : wp E 42 11 [.ref a0, .int a1, .int a2, .int a3] [] s Q := vc_ok E 42 [11] Q 26 false 11 _ _ _ h
-- 43 CoatedBridges$State.bridgesTo(I)I
theorem sg43_0 {E : AEnv} {a0 : Nat} {a1 : Int32} {s : ASt} {Q : Option Value → ASt → Prop} (h :
  wp E 43 4 [.ref a0, .int a1, .int (nI 1), .int (nI 0)] [] s Q) : wp E 43 0 [.ref a0, .int a1] [] s Q := vc_ok E 43 [4] Q 6 false 0 _ _ _ h
theorem sg43_4 {E : AEnv} {a0 : Nat} {a1 : Int32} {a2 : Int32} {a3 : Int32} {s : ASt} {Q : Option Value → ASt → Prop} (h :
  ((nI 8) ≤ a3 →
    Q (some (.int (-1000004 : Int32))) s) ∧
  (¬ (nI 8) ≤ a3 →
    cI E 88 [.int a2, .int a1] s (fun x2 s1 =>
    (x2 = (nI 0) →
      sh s1 a0 3 11 ∧ cI E 40 [.ref a0, .int a2, .int (-1 : Int32)] s1 (fun x4 s3 =>
      wp E 43 4 [.ref a0, .int a1, .int x4, .int (a3 + (nI 1))] [] s3 Q)) ∧
    (¬ x2 = (nI 0) →
      Q (some (.int a3)) s1)))) : wp E 43 4 [.ref a0, .int a1, .int a2, .int a3] [] s Q := vc_ok E 43 [4] Q 16 false 4 _ _ _ h
-- 44 CoatedBridges$State.openBridgesAt(I)I
theorem sg44_0 {E : AEnv} {a0 : Nat} {a1 : Int32} {s : ASt} {Q : Option Value → ASt → Prop} (h :
  wp E 44 4 [.ref a0, .int a1, .int (nI 0), .int (nI 0)] [] s Q) : wp E 44 0 [.ref a0, .int a1] [] s Q := vc_ok E 44 [4] Q 6 false 0 _ _ _ h
theorem sg44_4 {E : AEnv} {a0 : Nat} {a1 : Int32} {a2 : Int32} {a3 : Int32} {s : ASt} {Q : Option Value → ASt → Prop} (h :
  sh s a0 3 11 ∧ ((gI s a0 5) ≤ a3 →
    Q (some (.int a2)) s) ∧
  (¬ (gI s a0 5) ≤ a3 →
    sh s a0 3 11 ∧ ∃ r1, rf s a0 1 r1 ∧ ∃ n2 r3, sh s r1 14 n2 ∧ vp_in a3 n2 ∧ rf s r1 (a3).toNatClampNeg r3 ∧ sh s r3 1 9 ∧ ((gI s r3 5) ≠ (nI 0) →
      wp E 44 4 [.ref a0, .int a1, .int a2, .int (a3 + (nI 1))] [] s Q) ∧
    (¬ (gI s r3 5) ≠ (nI 0) →
      sh s a0 3 11 ∧ ∃ r4, rf s a0 1 r4 ∧ ∃ n5 r6, sh s r4 14 n5 ∧ vp_in a3 n5 ∧ rf s r4 (a3).toNatClampNeg r6 ∧ sh s r6 1 9 ∧ cI E 88 [.int (gI s r6 2), .int a1] s (fun x8 s7 =>
      (x8 = (nI 0) →
        wp E 44 4 [.ref a0, .int a1, .int a2, .int (a3 + (nI 1))] [] s7 Q) ∧
      (¬ x8 = (nI 0) →
        wp E 44 4 [.ref a0, .int a1, .int (a2 + (nI 1)), .int (a3 + (nI 1))] [] s7 Q))))) : wp E 44 4 [.ref a0, .int a1, .int a2, .int a3] [] s Q := vc_ok E 44 [4] Q 23 false 4 _ _ _ h
-- 45 CoatedBridges$State.groups()I
theorem sg45_0 {E : AEnv} {a0 : Nat} {s : ASt} {Q : Option Value → ASt → Prop} (h :
  wp E 45 6 [.ref a0, .int (nI 0), .int (nI 0), .int (nI 0)] [] s Q) : wp E 45 0 [.ref a0] [] s Q := vc_ok E 45 [6] Q 8 false 0 _ _ _ h
theorem sg45_6 {E : AEnv} {a0 : Nat} {a1 : Int32} {a2 : Int32} {a3 : Int32} {s : ASt} {Q : Option Value → ASt → Prop} (h :
  sh s a0 3 11 ∧ ((gI s a0 4) ≤ a3 →
    Q (some (.int a1)) s) ∧
  (¬ (gI s a0 4) ≤ a3 →
    cI E 88 [.int a2, .int a3] s (fun x2 s1 =>
    (x2 ≠ (nI 0) →
      wp E 45 6 [.ref a0, .int a1, .int a2, .int (a3 + (nI 1))] [] s1 Q) ∧
    (¬ x2 ≠ (nI 0) →
      sh s1 a0 3 11 ∧ cI E 39 [.ref a0, .int a3, .int (-1 : Int32)] s1 (fun x4 s3 =>
      wp E 45 6 [.ref a0, .int (a1 + (nI 1)), .int (a2 ||| x4), .int (a3 + (nI 1))] [] s3 Q))))) : wp E 45 6 [.ref a0, .int a1, .int a2, .int a3] [] s Q := vc_ok E 45 [6] Q 20 false 6 _ _ _ h
-- 46 CoatedBridges$State.lowestOnes()I
theorem sg46_0 {E : AEnv} {a0 : Nat} {s : ASt} {Q : Option Value → ASt → Prop} (h :
  wp E 46 4 [.ref a0, .int (nI 0), .int (nI 0)] [] s Q) : wp E 46 0 [.ref a0] [] s Q := vc_ok E 46 [4] Q 6 false 0 _ _ _ h
theorem sg46_4 {E : AEnv} {a0 : Nat} {a1 : Int32} {a2 : Int32} {s : ASt} {Q : Option Value → ASt → Prop} (h :
  sh s a0 3 11 ∧ ((gI s a0 4) ≤ a2 →
    Q (some (.int a1)) s) ∧
  (¬ (gI s a0 4) ≤ a2 →
    sh s a0 3 11 ∧ cI E 39 [.ref a0, .int a2, .int (-1 : Int32)] s (fun x2 s1 =>
    cI E 89 [.int x2] s1 (fun x4 s3 =>
    (x4 ≠ a2 →
      wp E 46 4 [.ref a0, .int a1, .int (a2 + (nI 1))] [] s3 Q) ∧
    (¬ x4 ≠ a2 →
      wp E 46 4 [.ref a0, .int (a1 + (nI 1)), .int (a2 + (nI 1))] [] s3 Q))))) : wp E 46 4 [.ref a0, .int a1, .int a2] [] s Q := vc_ok E 46 [4] Q 16 false 4 _ _ _ h
-- 47 CoatedBridges$State.coatsTogether()I
theorem sg47_0 {E : AEnv} {a0 : Nat} {s : ASt} {Q : Option Value → ASt → Prop} (h :
  wp E 47 4 [.ref a0, .int (nI 0), .int (nI 0)] [] s Q) : wp E 47 0 [.ref a0] [] s Q := vc_ok E 47 [4] Q 6 false 0 _ _ _ h
theorem sg47_4 {E : AEnv} {a0 : Nat} {a1 : Int32} {a2 : Int32} {s : ASt} {Q : Option Value → ASt → Prop} (h :
  sh s a0 3 11 ∧ ((gI s a0 5) ≤ a2 →
    Q (some (.int a1)) s) ∧
  (¬ (gI s a0 5) ≤ a2 →
    sh s a0 3 11 ∧ ∃ r1, rf s a0 1 r1 ∧ ∃ n2 r3, sh s r1 14 n2 ∧ vp_in a2 n2 ∧ rf s r1 (a2).toNatClampNeg r3 ∧ sh s r3 1 9 ∧ wp E 47 4 [.ref a0, .int (a1 + (gI s r3 4)), .int (a2 + (nI 1))] [] s Q)) : wp E 47 4 [.ref a0, .int a1, .int a2] [] s Q := vc_ok E 47 [4] Q 16 false 4 _ _ _ h
-- 48 CoatedBridges$State.complaintsSoFar()I
theorem sg48_0 {E : AEnv} {a0 : Nat} {s : ASt} {Q : Option Value → ASt → Prop} (h :
  wp E 48 4 [.ref a0, .int (nI 0), .int (nI 0)] [] s Q) : wp E 48 0 [.ref a0] [] s Q := vc_ok E 48 [4] Q 6 false 0 _ _ _ h
theorem sg48_4 {E : AEnv} {a0 : Nat} {a1 : Int32} {a2 : Int32} {s : ASt} {Q : Option Value → ASt → Prop} (h :
  sh s a0 3 11 ∧ ((gI s a0 4) ≤ a2 →
    Q (some (.int a1)) s) ∧
  (¬ (gI s a0 4) ≤ a2 →
    sh s a0 3 11 ∧ ∃ r1, rf s a0 0 r1 ∧ ∃ n2 r3, sh s r1 13 n2 ∧ vp_in a2 n2 ∧ rf s r1 (a2).toNatClampNeg r3 ∧ sh s r3 2 5 ∧ wp E 48 4 [.ref a0, .int (a1 + (gI s r3 3)), .int (a2 + (nI 1))] [] s Q)) : wp E 48 4 [.ref a0, .int a1, .int a2] [] s Q := vc_ok E 48 [4] Q 16 false 4 _ _ _ h
-- 49 CoatedBridges$State.longestWaitSoFar()I
theorem sg49_0 {E : AEnv} {a0 : Nat} {s : ASt} {Q : Option Value → ASt → Prop} (h :
  wp E 49 4 [.ref a0, .int (nI 0), .int (nI 0)] [] s Q) : wp E 49 0 [.ref a0] [] s Q := vc_ok E 49 [4] Q 6 false 0 _ _ _ h
theorem sg49_4 {E : AEnv} {a0 : Nat} {a1 : Int32} {a2 : Int32} {s : ASt} {Q : Option Value → ASt → Prop} (h :
  sh s a0 3 11 ∧ ((gI s a0 4) ≤ a2 →
    Q (some (.int a1)) s) ∧
  (¬ (gI s a0 4) ≤ a2 →
    sh s a0 3 11 ∧ ∃ r1, rf s a0 0 r1 ∧ ∃ n2 r3, sh s r1 13 n2 ∧ vp_in a2 n2 ∧ rf s r1 (a2).toNatClampNeg r3 ∧ sh s r3 2 5 ∧ cI E 93 [.int a1, .int (gI s r3 2)] s (fun x5 s4 =>
    wp E 49 4 [.ref a0, .int x5, .int (a2 + (nI 1))] [] s4 Q))) : wp E 49 4 [.ref a0, .int a1, .int a2] [] s Q := vc_ok E 49 [4] Q 16 false 4 _ _ _ h
-- 51 CoatedBridges$Text.append(C)Z
theorem sg51_0 {E : AEnv} {a0 : Nat} {a1 : Int32} {s : ASt} {Q : Option Value → ASt → Prop} (h :
  sh s a0 4 5 ∧ ((gI s a0 1) < (nI 60) →
    sh s a0 4 5 ∧ ∃ r1, rf s a0 0 r1 ∧ sh s a0 4 5 ∧ ∃ n2, sh s r1 11 n2 ∧ vp_in (gI s a0 1) n2 ∧ nw (wrI s r1 ((gI s a0 1)).toNatClampNeg (vp_nar .char a1)) (fun s3 =>
    sh s3 a0 4 5 ∧ sh s3 a0 4 5 ∧ nw (wrI s3 a0 1 ((gI s3 a0 1) + (nI 1))) (fun s4 =>
    fN .boolean (nI 1) = true ∧ Q (some (.int (nI 1))) s4))) ∧
  (¬ (gI s a0 1) < (nI 60) →
    fN .boolean (nI 0) = true ∧ Q (some (.int (nI 0))) s)) : wp E 51 0 [.ref a0, .int a1] [] s Q := vc_ok E 51 [] Q 19 false 0 _ _ _ h
-- 52 CoatedBridges$Text.readOrder(I)Z
theorem sg52_0 {E : AEnv} {a0 : Nat} {a1 : Int32} {s : ASt} {Q : Option Value → ASt → Prop} (h :
  sh s a0 4 5 ∧ nw (wrI s a0 4 a1) (fun s1 =>
  sh s1 a0 4 5 ∧ ∃ r2, rf s1 a0 0 r2 ∧ sh s1 a0 4 5 ∧ ∃ n3, sh s1 r2 11 n3 ∧ vp_in (gI s1 a0 4) n3 ∧ sh s1 a0 4 5 ∧ fN .char (gI s1 r2 ((gI s1 a0 4)).toNatClampNeg) = true ∧ nw (wrI s1 a0 3 (gI s1 r2 ((gI s1 a0 4)).toNatClampNeg)) (fun s4 =>
  sh s4 a0 4 5 ∧ cI E 53 [.int (gI s4 a0 3)] s4 (fun x6 s5 =>
  (x6 ≠ (nI 0) →
    sh s5 a0 4 5 ∧ sh s5 a0 4 5 ∧ nw (wrI s5 a0 4 ((gI s5 a0 4) + (nI 1))) (fun s7 =>
    wp E 52 44 [.ref a0, .int a1, .int x6, .int (nI 0)] [] s7 Q)) ∧
  (¬ x6 ≠ (nI 0) →
    fN .boolean (nI 0) = true ∧ Q (some (.int (nI 0))) s5))))) : wp E 52 0 [.ref a0, .int a1] [] s Q := vc_ok E 52 [44] Q 26 false 0 _ _ _ h
theorem sg52_44 {E : AEnv} {a0 : Nat} {a1 : Int32} {a2 : Int32} {a3 : Int32} {s : ASt} {Q : Option Value → ASt → Prop} (h :
  (a2 ≤ a3 →
    sh s a0 4 5 ∧ cI E 54 [.ref a0, .int (nI 59)] s (fun x2 s1 =>
    fN .boolean x2 = true ∧ Q (some (.int x2)) s1)) ∧
  (¬ a2 ≤ a3 →
    (a3 ≤ (nI 0) →
      sh s a0 4 5 ∧ cI E 55 [.ref a0, .int a3] s (fun x4 s3 =>
      (x4 ≠ (nI 0) →
        wp E 52 44 [.ref a0, .int a1, .int a2, .int (a3 + (nI 1))] [] s3 Q) ∧
      (¬ x4 ≠ (nI 0) →
        fN .boolean (nI 0) = true ∧ Q (some (.int (nI 0))) s3))) ∧
    (¬ a3 ≤ (nI 0) →
      sh s a0 4 5 ∧ cI E 54 [.ref a0, .int (nI 44)] s (fun x6 s5 =>
      (x6 = (nI 0) →
        fN .boolean (nI 0) = true ∧ Q (some (.int (nI 0))) s5) ∧
      (¬ x6 = (nI 0) →
        sh s5 a0 4 5 ∧ cI E 55 [.ref a0, .int a3] s5 (fun x8 s7 =>
        (x8 ≠ (nI 0) →
          wp E 52 44 [.ref a0, .int a1, .int a2, .int (a3 + (nI 1))] [] s7 Q) ∧
        (¬ x8 ≠ (nI 0) →
          fN .boolean (nI 0) = true ∧ Q (some (.int (nI 0))) s7))))))) : wp E 52 44 [.ref a0, .int a1, .int a2, .int a3] [] s Q := vc_ok E 52 [44] Q 17 false 44 _ _ _ h
-- 53 CoatedBridges$Text.numbersOf(C)I
theorem sg53_0 {E : AEnv} {a0 : Int32} {s : ASt} {Q : Option Value → ASt → Prop} (h :
  (a0 = (nI 98) →
    Q (some (.int (nI 3))) s) ∧
  (¬ a0 = (nI 98) →
   (a0 = (nI 99) →
    Q (some (.int (nI 0))) s) ∧
  (¬ a0 = (nI 99) →
   (a0 = (nI 100) →
    Q (some (.int (nI 1))) s) ∧
  (¬ a0 = (nI 100) →
   (a0 = (nI 101) →
    Q (some (.int (nI 0))) s) ∧
  (¬ a0 = (nI 101) →
   (a0 = (nI 102) →
    Q (some (.int (nI 1))) s) ∧
  (¬ a0 = (nI 102) →
   (a0 = (nI 103) →
    Q (some (.int (nI 0))) s) ∧
  (¬ a0 = (nI 103) →
   (a0 = (nI 104) →
    Q (some (.int (nI 0))) s) ∧
  (¬ a0 = (nI 104) →
   (a0 = (nI 105) →
    Q (some (.int (nI 1))) s) ∧
  (¬ a0 = (nI 105) →
   (a0 = (nI 106) →
    Q (some (.int (nI 0))) s) ∧
  (¬ a0 = (nI 106) →
   (a0 = (nI 107) →
    Q (some (.int (nI 0))) s) ∧
  (¬ a0 = (nI 107) →
   (a0 = (nI 108) →
    Q (some (.int (nI 0))) s) ∧
  (¬ a0 = (nI 108) →
   (a0 = (nI 109) →
    Q (some (.int (nI 0))) s) ∧
  (¬ a0 = (nI 109) →
   (a0 = (nI 110) →
    Q (some (.int (nI 0))) s) ∧
  (¬ a0 = (nI 110) →
   (a0 = (nI 111) →
    Q (some (.int (nI 0))) s) ∧
  (¬ a0 = (nI 111) →
   (a0 = (nI 112) →
    Q (some (.int (nI 1))) s) ∧
  (¬ a0 = (nI 112) →
   (a0 = (nI 113) →
    Q (some (.int (nI 0))) s) ∧
  (¬ a0 = (nI 113) →
   (a0 = (nI 114) →
    Q (some (.int (nI 1))) s) ∧
  (¬ a0 = (nI 114) →
   (a0 = (nI 115) →
    Q (some (.int (nI 1))) s) ∧
  (¬ a0 = (nI 115) →
   Q (some (.int (nI 0))) s))))))))))))))))))) : wp E 53 0 [.int a0] [] s Q := vc_ok E 53 [] Q 5 false 0 _ _ _ h
-- 54 CoatedBridges$Text.take(C)Z
theorem sg54_0 {E : AEnv} {a0 : Nat} {a1 : Int32} {s : ASt} {Q : Option Value → ASt → Prop} (h :
  sh s a0 4 5 ∧ sh s a0 4 5 ∧ ((gI s a0 1) ≤ (gI s a0 4) →
    fN .boolean (nI 0) = true ∧ Q (some (.int (nI 0))) s) ∧
  (¬ (gI s a0 1) ≤ (gI s a0 4) →
    sh s a0 4 5 ∧ ∃ r1, rf s a0 0 r1 ∧ sh s a0 4 5 ∧ ∃ n2, sh s r1 11 n2 ∧ vp_in (gI s a0 4) n2 ∧ ((gI s r1 ((gI s a0 4)).toNatClampNeg) = a1 →
      sh s a0 4 5 ∧ sh s a0 4 5 ∧ nw (wrI s a0 4 ((gI s a0 4) + (nI 1))) (fun s3 =>
      fN .boolean (nI 1) = true ∧ Q (some (.int (nI 1))) s3)) ∧
    (¬ (gI s r1 ((gI s a0 4)).toNatClampNeg) = a1 →
      fN .boolean (nI 0) = true ∧ Q (some (.int (nI 0))) s))) : wp E 54 0 [.ref a0, .int a1] [] s Q := vc_ok E 54 [] Q 21 false 0 _ _ _ h
