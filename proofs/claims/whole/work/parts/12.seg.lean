-- 112 CoatedBridgesModel.goBridge(III)I
theorem sg112_0 {E : AEnv} {a0 : Nat} {a1 : Int32} {a2 : Int32} {a3 : Int32} {s : ASt} {Q : Option Value → ASt → Prop} (h :
  sh s a0 6 15 ∧ ∃ r1, rf s a0 0 r1 ∧ ∃ n2, sh s r1 10 n2 ∧ vp_in (nI 2) n2 ∧ wp E 112 11 [.ref a0, .int a1, .int a2, .int a3, .int (gI s r1 2), .int (nI 0)] [] s Q) : wp E 112 0 [.ref a0, .int a1, .int a2, .int a3] [] s Q := vc_ok E 112 [11] Q 9 false 0 _ _ _ h
theorem sg112_11 {E : AEnv} {a0 : Nat} {a1 : Int32} {a2 : Int32} {a3 : Int32} {a4 : Int32} {a5 : Int32} {s : ASt} {Q : Option Value → ASt → Prop} (h :
  ((nI 8) ≤ a5 →
    sh s a0 6 15 ∧ cV E 98 [.ref a0, .int a4, .int (nI 0), .int a1] s (fun s1 =>
    sh s1 a0 6 15 ∧ cV E 98 [.ref a0, .int a4, .int (nI 1), .int a2] s1 (fun s2 =>
    sh s2 a0 6 15 ∧ cV E 98 [.ref a0, .int a4, .int (nI 2), .int a3] s2 (fun s3 =>
    sh s3 a0 6 15 ∧ cV E 98 [.ref a0, .int a4, .int (nI 3), .int (nI 100)] s3 (fun s4 =>
    sh s4 a0 6 15 ∧ ∃ r5, rf s4 a0 0 r5 ∧ ∃ n6, sh s4 r5 10 n6 ∧ vp_in (nI 2) n6 ∧ ∃ n7, sh s4 r5 10 n7 ∧ vp_in (nI 2) n7 ∧ nw (wrI s4 r5 2 ((gI s4 r5 2) + (nI 1))) (fun s8 =>
    Q (some (.int a4)) s8)))))) ∧
  (¬ (nI 8) ≤ a5 →
    sh s a0 6 15 ∧ cV E 98 [.ref a0, .int a4, .int a5, .int (nI 0)] s (fun s9 =>
    wp E 112 11 [.ref a0, .int a1, .int a2, .int a3, .int a4, .int (a5 + (nI 1))] [] s9 Q))) : wp E 112 11 [.ref a0, .int a1, .int a2, .int a3, .int a4, .int a5] [] s Q := vc_ok E 112 [11] Q 34 false 11 _ _ _ h
-- 113 CoatedBridgesModel.goSend(I)I
theorem sg113_0 {E : AEnv} {a0 : Nat} {a1 : Int32} {s : ASt} {Q : Option Value → ASt → Prop} (h :
  sh s a0 6 15 ∧ cI E 107 [.ref a0, .int a1] s (fun x2 s1 =>
  sh s1 a0 6 15 ∧ cV E 98 [.ref a0, .int a1, .int (nI 4), .int (nI 1)] s1 (fun s3 =>
  sh s3 a0 6 15 ∧ cV E 99 [.ref a0, .int a1, .int (nI 5), .int (nI 1)] s3 (fun s4 =>
  Q (some (.int x2)) s4)))) : wp E 113 0 [.ref a0, .int a1] [] s Q := vc_ok E 113 [] Q 17 false 0 _ _ _ h
-- 114 CoatedBridgesModel.goRecall(I)I
theorem sg114_0 {E : AEnv} {a0 : Nat} {a1 : Int32} {s : ASt} {Q : Option Value → ASt → Prop} (h :
  sh s a0 6 15 ∧ cV E 98 [.ref a0, .int a1, .int (nI 4), .int (nI 0)] s (fun s1 =>
  sh s1 a0 6 15 ∧ cI E 97 [.ref a0, .int a1, .int (nI 3)] s1 (fun x3 s2 =>
  Q (some (.int x3)) s2))) : wp E 114 0 [.ref a0, .int a1] [] s Q := vc_ok E 114 [] Q 11 false 0 _ _ _ h
-- 115 CoatedBridgesModel.goPay(I)I
theorem sg115_0 {E : AEnv} {a0 : Nat} {a1 : Int32} {s : ASt} {Q : Option Value → ASt → Prop} (h :
  sh s a0 6 15 ∧ ∃ r1, rf s a0 0 r1 ∧ ∃ n2, sh s r1 10 n2 ∧ vp_in (nI 11) n2 ∧ ∃ n3, sh s r1 10 n3 ∧ vp_in (nI 11) n3 ∧ nw (wrI s r1 11 ((gI s r1 11) + a1)) (fun s4 =>
  sh s4 a0 6 15 ∧ ∃ r5, rf s4 a0 0 r5 ∧ ∃ n6, sh s4 r5 10 n6 ∧ vp_in (nI 14) n6 ∧ ∃ n7, sh s4 r5 10 n7 ∧ vp_in (nI 14) n7 ∧ nw (wrI s4 r5 14 ((gI s4 r5 14) + a1)) (fun s8 =>
  sh s8 a0 6 15 ∧ ∃ r9, rf s8 a0 0 r9 ∧ ∃ n10, sh s8 r9 10 n10 ∧ vp_in (nI 11) n10 ∧ Q (some (.int (gI s8 r9 11))) s8))) : wp E 115 0 [.ref a0, .int a1] [] s Q := vc_ok E 115 [] Q 22 false 0 _ _ _ h
-- 116 CoatedBridgesModel.paints(I)V
theorem sg116_0 {E : AEnv} {a0 : Nat} {a1 : Int32} {s : ASt} {Q : Option Value → ASt → Prop} (h :
  sh s a0 6 15 ∧ ∃ r1, rf s a0 0 r1 ∧ ∃ n2, sh s r1 10 n2 ∧ vp_in (nI 5) n2 ∧ sh s a0 6 15 ∧ ∃ r3, rf s a0 0 r3 ∧ ∃ n4, sh s r3 10 n4 ∧ vp_in (nI 11) n4 ∧ ((gI s r1 5) ≤ (gI s r3 11) →
    sh s a0 6 15 ∧ ∃ r5, rf s a0 0 r5 ∧ ∃ n6, sh s r5 10 n6 ∧ vp_in (nI 11) n6 ∧ ∃ n7, sh s r5 10 n7 ∧ vp_in (nI 11) n7 ∧ nw (wrI s r5 11 ((gI s r5 11) - (gI s r1 5))) (fun s8 =>
    sh s8 a0 6 15 ∧ ∃ r9, rf s8 a0 0 r9 ∧ ∃ n10, sh s8 r9 10 n10 ∧ vp_in (nI 12) n10 ∧ ∃ n11, sh s8 r9 10 n11 ∧ vp_in (nI 12) n11 ∧ nw (wrI s8 r9 12 ((gI s8 r9 12) + (gI s r1 5))) (fun s12 =>
    sh s12 a0 6 15 ∧ cV E 99 [.ref a0, .int a1, .int (nI 7), .int (gI s r1 5)] s12 (fun s13 =>
    sh s13 a0 6 15 ∧ ∃ r14, rf s13 a0 0 r14 ∧ ∃ n15, sh s13 r14 10 n15 ∧ vp_in (nI 4) n15 ∧ sh s13 a0 6 15 ∧ cV E 99 [.ref a0, .int a1, .int (nI 3), .int (gI s13 r14 4)] s13 (fun s16 =>
    sh s16 a0 6 15 ∧ cI E 97 [.ref a0, .int a1, .int (nI 3)] s16 (fun x18 s17 =>
    (x18 < (nI 100) →
      Q none s17) ∧
    (¬ x18 < (nI 100) →
      sh s17 a0 6 15 ∧ cV E 98 [.ref a0, .int a1, .int (nI 3), .int (nI 100)] s17 (fun s19 =>
      sh s19 a0 6 15 ∧ cV E 98 [.ref a0, .int a1, .int (nI 4), .int (nI 0)] s19 (fun s20 =>
      Q none s20))))))))) ∧
  (¬ (gI s r1 5) ≤ (gI s r3 11) →
    Q none s)) : wp E 116 0 [.ref a0, .int a1] [] s Q := vc_ok E 116 [] Q 58 false 0 _ _ _ h
-- 117 CoatedBridgesModel.wears(I)V
theorem sg117_0 {E : AEnv} {a0 : Nat} {a1 : Int32} {s : ASt} {Q : Option Value → ASt → Prop} (h :
  sh s a0 6 15 ∧ cI E 97 [.ref a0, .int a1, .int (nI 3)] s (fun x2 s1 =>
  sh s1 a0 6 15 ∧ cI E 97 [.ref a0, .int a1, .int (nI 2)] s1 (fun x4 s3 =>
  ((nI 0) ≤ (x2 - x4) →
    sh s3 a0 6 15 ∧ cV E 98 [.ref a0, .int a1, .int (nI 3), .int (x2 - x4)] s3 (fun s5 =>
    Q none s5)) ∧
  (¬ (nI 0) ≤ (x2 - x4) →
    sh s3 a0 6 15 ∧ cV E 98 [.ref a0, .int a1, .int (nI 3), .int (nI 0)] s3 (fun s6 =>
    Q none s6))))) : wp E 117 0 [.ref a0, .int a1] [] s Q := vc_ok E 117 [] Q 20 false 0 _ _ _ h
-- 118 CoatedBridgesModel.waits(IZ)I
theorem sg118_0 {E : AEnv} {a0 : Nat} {a1 : Int32} {a2 : Int32} {s : ASt} {Q : Option Value → ASt → Prop} (h :
  sh s a0 6 15 ∧ cI E 100 [.ref a0, .int a1, .int (nI 0)] s (fun x2 s1 =>
  (a2 = (nI 0) →
    sh s1 a0 6 15 ∧ ∃ r3, rf s1 a0 0 r3 ∧ ∃ n4, sh s1 r3 10 n4 ∧ vp_in (nI 6) n4 ∧ ((gI s1 r3 6) ≠ (nI 1) →
      sh s1 a0 6 15 ∧ cV E 102 [.ref a0, .int a1, .int (nI 1)] s1 (fun s5 =>
      sh s5 a0 6 15 ∧ cI E 100 [.ref a0, .int a1, .int (nI 1)] s5 (fun x7 s6 =>
      sh s6 a0 6 15 ∧ cI E 100 [.ref a0, .int a1, .int (nI 3)] s6 (fun x9 s8 =>
      (x7 ≤ x9 →
        sh s8 a0 6 15 ∧ cI E 100 [.ref a0, .int a1, .int (nI 3)] s8 (fun x11 s10 =>
        sh s10 a0 6 15 ∧ cV E 101 [.ref a0, .int a1, .int (nI 3), .int x11] s10 (fun s12 =>
        sh s12 a0 6 15 ∧ ∃ r13, rf s12 a0 0 r13 ∧ ∃ n14, sh s12 r13 10 n14 ∧ vp_in (nI 7) n14 ∧ ((gI s12 r13 7) < x7 →
          sh s12 a0 6 15 ∧ cV E 102 [.ref a0, .int a1, .int (nI 2)] s12 (fun s15 =>
          Q (some (.int (nI 1))) s15)) ∧
        (¬ (gI s12 r13 7) < x7 →
          Q (some (.int (nI 0))) s12)))) ∧
      (¬ x7 ≤ x9 →
        sh s8 a0 6 15 ∧ cV E 101 [.ref a0, .int a1, .int (nI 3), .int x7] s8 (fun s16 =>
        sh s16 a0 6 15 ∧ ∃ r17, rf s16 a0 0 r17 ∧ ∃ n18, sh s16 r17 10 n18 ∧ vp_in (nI 7) n18 ∧ ((gI s16 r17 7) < x7 →
          sh s16 a0 6 15 ∧ cV E 102 [.ref a0, .int a1, .int (nI 2)] s16 (fun s19 =>
          Q (some (.int (nI 1))) s19)) ∧
        (¬ (gI s16 r17 7) < x7 →
          Q (some (.int (nI 0))) s16))))))) ∧
    (¬ (gI s1 r3 6) ≠ (nI 1) →
      sh s1 a0 6 15 ∧ ∃ r20, rf s1 a0 0 r20 ∧ ∃ n21, sh s1 r20 10 n21 ∧ vp_in (nI 11) n21 ∧ ((gI s1 r20 11) < x2 →
        sh s1 a0 6 15 ∧ cV E 102 [.ref a0, .int a1, .int (nI 1)] s1 (fun s22 =>
        sh s22 a0 6 15 ∧ cI E 100 [.ref a0, .int a1, .int (nI 1)] s22 (fun x24 s23 =>
        sh s23 a0 6 15 ∧ cI E 100 [.ref a0, .int a1, .int (nI 3)] s23 (fun x26 s25 =>
        (x24 ≤ x26 →
          sh s25 a0 6 15 ∧ cI E 100 [.ref a0, .int a1, .int (nI 3)] s25 (fun x28 s27 =>
          sh s27 a0 6 15 ∧ cV E 101 [.ref a0, .int a1, .int (nI 3), .int x28] s27 (fun s29 =>
          sh s29 a0 6 15 ∧ ∃ r30, rf s29 a0 0 r30 ∧ ∃ n31, sh s29 r30 10 n31 ∧ vp_in (nI 7) n31 ∧ ((gI s29 r30 7) < x24 →
            sh s29 a0 6 15 ∧ cV E 102 [.ref a0, .int a1, .int (nI 2)] s29 (fun s32 =>
            Q (some (.int (nI 1))) s32)) ∧
          (¬ (gI s29 r30 7) < x24 →
            Q (some (.int (nI 0))) s29)))) ∧
        (¬ x24 ≤ x26 →
          sh s25 a0 6 15 ∧ cV E 101 [.ref a0, .int a1, .int (nI 3), .int x24] s25 (fun s33 =>
          sh s33 a0 6 15 ∧ ∃ r34, rf s33 a0 0 r34 ∧ ∃ n35, sh s33 r34 10 n35 ∧ vp_in (nI 7) n35 ∧ ((gI s33 r34 7) < x24 →
            sh s33 a0 6 15 ∧ cV E 102 [.ref a0, .int a1, .int (nI 2)] s33 (fun s36 =>
            Q (some (.int (nI 1))) s36)) ∧
          (¬ (gI s33 r34 7) < x24 →
            Q (some (.int (nI 0))) s33))))))) ∧
      (¬ (gI s1 r20 11) < x2 →
        sh s1 a0 6 15 ∧ ∃ r37, rf s1 a0 0 r37 ∧ ∃ n38, sh s1 r37 10 n38 ∧ vp_in (nI 11) n38 ∧ ∃ n39, sh s1 r37 10 n39 ∧ vp_in (nI 11) n39 ∧ nw (wrI s1 r37 11 ((gI s1 r37 11) - x2)) (fun s40 =>
        sh s40 a0 6 15 ∧ ∃ r41, rf s40 a0 0 r41 ∧ ∃ n42, sh s40 r41 10 n42 ∧ vp_in (nI 13) n42 ∧ ∃ n43, sh s40 r41 10 n43 ∧ vp_in (nI 13) n43 ∧ nw (wrI s40 r41 13 ((gI s40 r41 13) + x2)) (fun s44 =>
        sh s44 a0 6 15 ∧ cV E 102 [.ref a0, .int a1, .int (nI 4)] s44 (fun s45 =>
        sh s45 a0 6 15 ∧ cV E 101 [.ref a0, .int a1, .int (nI 1), .int (nI 0)] s45 (fun s46 =>
        Q (some (.int (nI 0))) s46))))))) ∧
  (¬ a2 = (nI 0) →
    sh s1 a0 6 15 ∧ cV E 101 [.ref a0, .int a1, .int (nI 1), .int (nI 0)] s1 (fun s47 =>
    Q (some (.int (nI 0))) s47)))) : wp E 118 0 [.ref a0, .int a1, .int a2] [] s Q := vc_ok E 118 [] Q 55 false 0 _ _ _ h
-- 119 CoatedBridgesModel.books(I)V
theorem sg119_0 {E : AEnv} {a0 : Nat} {a1 : Int32} {s : ASt} {Q : Option Value → ASt → Prop} (h :
  wp E 119 3 [.ref a0, .int a1, .int (nI 31)] [] s Q) : wp E 119 0 [.ref a0, .int a1] [] s Q := vc_ok E 119 [3] Q 4 false 0 _ _ _ h
theorem sg119_3 {E : AEnv} {a0 : Nat} {a1 : Int32} {a2 : Int32} {s : ASt} {Q : Option Value → ASt → Prop} (h :
  (a2 ≤ (nI 17) →
    sh s a0 6 15 ∧ ∃ r1, rf s a0 0 r1 ∧ sh s a0 6 15 ∧ ∃ r2, rf s a0 0 r2 ∧ ∃ n3, sh s r2 10 n3 ∧ vp_in (nI 0) n3 ∧ ∃ n4, sh s r1 10 n4 ∧ vp_in (nI 16) n4 ∧ nw (wrI s r1 16 (gI s r2 0)) (fun s5 =>
    sh s5 a0 6 15 ∧ ∃ r6, rf s5 a0 0 r6 ∧ ∃ n7, sh s5 r6 10 n7 ∧ vp_in (nI 17) n7 ∧ nw (wrI s5 r6 17 a1) (fun s8 =>
    sh s8 a0 6 15 ∧ ∃ r9, rf s8 a0 0 r9 ∧ ∃ n10, sh s8 r9 10 n10 ∧ vp_in (nI 15) n10 ∧ sh s8 a0 6 15 ∧ ∃ r11, rf s8 a0 0 r11 ∧ ∃ n12, sh s8 r11 10 n12 ∧ vp_in (nI 15) n12 ∧ ((nI 8) ≤ (gI s8 r11 15) →
      ∃ n13, sh s8 r9 10 n13 ∧ vp_in (nI 15) n13 ∧ nw (wrI s8 r9 15 ((gI s8 r9 15) + (nI 0))) (fun s14 =>
      Q none s14)) ∧
    (¬ (nI 8) ≤ (gI s8 r11 15) →
      ∃ n15, sh s8 r9 10 n15 ∧ vp_in (nI 15) n15 ∧ nw (wrI s8 r9 15 ((gI s8 r9 15) + (nI 1))) (fun s16 =>
      Q none s16))))) ∧
  (¬ a2 ≤ (nI 17) →
    sh s a0 6 15 ∧ ∃ r17, rf s a0 0 r17 ∧ sh s a0 6 15 ∧ ∃ r18, rf s a0 0 r18 ∧ ∃ n19, sh s r18 10 n19 ∧ vp_in (a2 - (nI 2)) n19 ∧ ∃ n20, sh s r17 10 n20 ∧ vp_in a2 n20 ∧ nw (wrI s r17 (a2).toNatClampNeg (gI s r18 ((a2 - (nI 2))).toNatClampNeg)) (fun s21 =>
    wp E 119 3 [.ref a0, .int a1, .int (a2 + (-1 : Int32))] [] s21 Q))) : wp E 119 3 [.ref a0, .int a1, .int a2] [] s Q := vc_ok E 119 [3] Q 33 false 3 _ _ _ h
-- 120 CoatedBridgesModel.endsDay()I
theorem sg120_0 {E : AEnv} {a0 : Nat} {s : ASt} {Q : Option Value → ASt → Prop} (h :
  wp E 120 2 [.ref a0, .int (nI 0)] [] s Q) : wp E 120 0 [.ref a0] [] s Q := vc_ok E 120 [2, 31, 62, 124, 236] Q 4 false 0 _ _ _ h
theorem sg120_2 {E : AEnv} {a0 : Nat} {a1 : Int32} {s : ASt} {Q : Option Value → ASt → Prop} (h :
  sh s a0 6 15 ∧ ∃ r1, rf s a0 0 r1 ∧ ∃ n2, sh s r1 10 n2 ∧ vp_in (nI 2) n2 ∧ ((gI s r1 2) ≤ a1 →
    wp E 120 31 [.ref a0, .int (nI 0)] [] s Q) ∧
  (¬ (gI s r1 2) ≤ a1 →
    sh s a0 6 15 ∧ ∃ r3, rf s a0 7 r3 ∧ sh s a0 6 15 ∧ cI E 104 [.ref a0, .int a1] s (fun x5 s4 =>
    ∃ n6, sh s4 r3 12 n6 ∧ vp_in a1 n6 ∧ nw (wrI s4 r3 (a1).toNatClampNeg (vp_nar .boolean x5)) (fun s7 =>
    wp E 120 2 [.ref a0, .int (a1 + (nI 1))] [] s7 Q)))) : wp E 120 2 [.ref a0, .int a1] [] s Q := vc_ok E 120 [2, 31, 62, 124, 236] Q 17 false 2 _ _ _ h
theorem sg120_31 {E : AEnv} {a0 : Nat} {a1 : Int32} {s : ASt} {Q : Option Value → ASt → Prop} (h :
  sh s a0 6 15 ∧ ∃ r1, rf s a0 0 r1 ∧ ∃ n2, sh s r1 10 n2 ∧ vp_in (nI 2) n2 ∧ ((gI s r1 2) ≤ a1 →
    wp E 120 62 [.ref a0, .int (nI 0)] [] s Q) ∧
  (¬ (gI s r1 2) ≤ a1 →
    sh s a0 6 15 ∧ cI E 103 [.ref a0, .int a1] s (fun x4 s3 =>
    (x4 = (nI 0) →
      wp E 120 31 [.ref a0, .int (a1 + (nI 1))] [] s3 Q) ∧
    (¬ x4 = (nI 0) →
      sh s3 a0 6 15 ∧ cV E 116 [.ref a0, .int a1] s3 (fun s5 =>
      wp E 120 31 [.ref a0, .int (a1 + (nI 1))] [] s5 Q))))) : wp E 120 31 [.ref a0, .int a1] [] s Q := vc_ok E 120 [2, 31, 62, 124, 236] Q 17 false 31 _ _ _ h
theorem sg120_62 {E : AEnv} {a0 : Nat} {a1 : Int32} {s : ASt} {Q : Option Value → ASt → Prop} (h :
  sh s a0 6 15 ∧ ∃ r1, rf s a0 0 r1 ∧ ∃ n2, sh s r1 10 n2 ∧ vp_in (nI 2) n2 ∧ ((gI s r1 2) ≤ a1 →
    sh s a0 6 15 ∧ cI E 106 [.ref a0, .int (nI 0), .int (-1000004 : Int32)] s (fun x4 s3 =>
    wp E 120 124 [.ref a0, .int x4, .int (nI 0), .int (nI 1)] [] s3 Q)) ∧
  (¬ (gI s r1 2) ≤ a1 →
    sh s a0 6 15 ∧ ∃ r5, rf s a0 7 r5 ∧ ∃ n6, sh s r5 12 n6 ∧ vp_in a1 n6 ∧ ((gI s r5 (a1).toNatClampNeg) = (nI 0) →
      sh s a0 6 15 ∧ cI E 104 [.ref a0, .int a1] s (fun x8 s7 =>
      (x8 = (nI 0) →
        sh s7 a0 6 15 ∧ cV E 99 [.ref a0, .int a1, .int (nI 6), .int (nI 1)] s7 (fun s9 =>
        wp E 120 62 [.ref a0, .int (a1 + (nI 1))] [] s9 Q)) ∧
      (¬ x8 = (nI 0) →
        sh s7 a0 6 15 ∧ cV E 99 [.ref a0, .int a1, .int (nI 6), .int (nI 0)] s7 (fun s10 =>
        wp E 120 62 [.ref a0, .int (a1 + (nI 1))] [] s10 Q)))) ∧
    (¬ (gI s r5 (a1).toNatClampNeg) = (nI 0) →
      sh s a0 6 15 ∧ cV E 117 [.ref a0, .int a1] s (fun s11 =>
      sh s11 a0 6 15 ∧ cI E 104 [.ref a0, .int a1] s11 (fun x13 s12 =>
      (x13 = (nI 0) →
        sh s12 a0 6 15 ∧ cV E 99 [.ref a0, .int a1, .int (nI 6), .int (nI 1)] s12 (fun s14 =>
        wp E 120 62 [.ref a0, .int (a1 + (nI 1))] [] s14 Q)) ∧
      (¬ x13 = (nI 0) →
        sh s12 a0 6 15 ∧ cV E 99 [.ref a0, .int a1, .int (nI 6), .int (nI 0)] s12 (fun s15 =>
        wp E 120 62 [.ref a0, .int (a1 + (nI 1))] [] s15 Q))))))) : wp E 120 62 [.ref a0, .int a1] [] s Q := vc_ok E 120 [2, 31, 62, 124, 236] Q 28 false 62 _ _ _ h
theorem sg120_124 {E : AEnv} {a0 : Nat} {a1 : Int32} {a2 : Int32} {a3 : Int32} {s : ASt} {Q : Option Value → ASt → Prop} (h :
  sh s a0 6 15 ∧ ∃ r1, rf s a0 0 r1 ∧ ∃ n2, sh s r1 10 n2 ∧ vp_in (nI 1) n2 ∧ ((gI s r1 1) ≤ a3 →
    (a2 ≤ (nI 0) →
      sh s a0 6 15 ∧ ∃ r3, rf s a0 0 r3 ∧ ∃ n4, sh s r3 10 n4 ∧ vp_in (nI 0) n4 ∧ ∃ n5, sh s r3 10 n5 ∧ vp_in (nI 0) n5 ∧ nw (wrI s r3 0 ((gI s r3 0) + (nI 1))) (fun s6 =>
      sh s6 a0 6 15 ∧ ∃ r7, rf s6 a0 0 r7 ∧ ∃ n8, sh s6 r7 10 n8 ∧ vp_in (nI 11) n8 ∧ sh s6 a0 6 15 ∧ ∃ r9, rf s6 a0 0 r9 ∧ ∃ n10, sh s6 r9 10 n10 ∧ vp_in (nI 8) n10 ∧ ∃ n11, sh s6 r7 10 n11 ∧ vp_in (nI 11) n11 ∧ nw (wrI s6 r7 11 ((gI s6 r7 11) + (gI s6 r9 8))) (fun s12 =>
      sh s12 a0 6 15 ∧ ∃ r13, rf s12 a0 0 r13 ∧ ∃ n14, sh s12 r13 10 n14 ∧ vp_in (nI 14) n14 ∧ sh s12 a0 6 15 ∧ ∃ r15, rf s12 a0 0 r15 ∧ ∃ n16, sh s12 r15 10 n16 ∧ vp_in (nI 8) n16 ∧ ∃ n17, sh s12 r13 10 n17 ∧ vp_in (nI 14) n17 ∧ nw (wrI s12 r13 14 ((gI s12 r13 14) + (gI s12 r15 8))) (fun s18 =>
      sh s18 a0 6 15 ∧ ∃ r19, rf s18 a0 0 r19 ∧ ∃ n20, sh s18 r19 10 n20 ∧ vp_in (nI 9) n20 ∧ ((gI s18 r19 9) ≠ (nI 1) →
        wp E 120 236 [.ref a0, .int a1, .int a2, .int (-1000004 : Int32)] [] s18 Q) ∧
      (¬ (gI s18 r19 9) ≠ (nI 1) →
        sh s18 a0 6 15 ∧ cI E 110 [.ref a0] s18 (fun x22 s21 =>
        wp E 120 236 [.ref a0, .int a1, .int a2, .int x22] [] s21 Q)))))) ∧
    (¬ a2 ≤ (nI 0) →
      sh s a0 6 15 ∧ cV E 119 [.ref a0, .int a2] s (fun s23 =>
      sh s23 a0 6 15 ∧ ∃ r24, rf s23 a0 0 r24 ∧ ∃ n25, sh s23 r24 10 n25 ∧ vp_in (nI 0) n25 ∧ ∃ n26, sh s23 r24 10 n26 ∧ vp_in (nI 0) n26 ∧ nw (wrI s23 r24 0 ((gI s23 r24 0) + (nI 1))) (fun s27 =>
      sh s27 a0 6 15 ∧ ∃ r28, rf s27 a0 0 r28 ∧ ∃ n29, sh s27 r28 10 n29 ∧ vp_in (nI 11) n29 ∧ sh s27 a0 6 15 ∧ ∃ r30, rf s27 a0 0 r30 ∧ ∃ n31, sh s27 r30 10 n31 ∧ vp_in (nI 8) n31 ∧ ∃ n32, sh s27 r28 10 n32 ∧ vp_in (nI 11) n32 ∧ nw (wrI s27 r28 11 ((gI s27 r28 11) + (gI s27 r30 8))) (fun s33 =>
      sh s33 a0 6 15 ∧ ∃ r34, rf s33 a0 0 r34 ∧ ∃ n35, sh s33 r34 10 n35 ∧ vp_in (nI 14) n35 ∧ sh s33 a0 6 15 ∧ ∃ r36, rf s33 a0 0 r36 ∧ ∃ n37, sh s33 r36 10 n37 ∧ vp_in (nI 8) n37 ∧ ∃ n38, sh s33 r34 10 n38 ∧ vp_in (nI 14) n38 ∧ nw (wrI s33 r34 14 ((gI s33 r34 14) + (gI s33 r36 8))) (fun s39 =>
      sh s39 a0 6 15 ∧ ∃ r40, rf s39 a0 0 r40 ∧ ∃ n41, sh s39 r40 10 n41 ∧ vp_in (nI 9) n41 ∧ ((gI s39 r40 9) ≠ (nI 1) →
        wp E 120 236 [.ref a0, .int a1, .int a2, .int (-1000004 : Int32)] [] s39 Q) ∧
      (¬ (gI s39 r40 9) ≠ (nI 1) →
        sh s39 a0 6 15 ∧ cI E 110 [.ref a0] s39 (fun x43 s42 =>
        wp E 120 236 [.ref a0, .int a1, .int a2, .int x43] [] s42 Q)))))))) ∧
  (¬ (gI s r1 1) ≤ a3 →
    (((a1 >>> (a3 &&& 31)) &&& (nI 1)) ≠ (nI 1) →
      sh s a0 6 15 ∧ cI E 118 [.ref a0, .int a3, .int (nI 0)] s (fun x45 s44 =>
      wp E 120 124 [.ref a0, .int a1, .int (a2 + x45), .int (a3 + (nI 1))] [] s44 Q)) ∧
    (¬ ((a1 >>> (a3 &&& 31)) &&& (nI 1)) ≠ (nI 1) →
      sh s a0 6 15 ∧ cI E 118 [.ref a0, .int a3, .int (nI 1)] s (fun x47 s46 =>
      wp E 120 124 [.ref a0, .int a1, .int (a2 + x47), .int (a3 + (nI 1))] [] s46 Q)))) : wp E 120 124 [.ref a0, .int a1, .int a2, .int a3] [] s Q := vc_ok E 120 [2, 31, 62, 124, 236] Q 53 false 124 _ _ _ h
theorem sg120_236 {E : AEnv} {a0 : Nat} {a1 : Int32} {a2 : Int32} {a3 : Int32} {s : ASt} {Q : Option Value → ASt → Prop} (h :
  (a3 < (nI 0) →
    Q (some (.int a2)) s) ∧
  (¬ a3 < (nI 0) →
    sh s a0 6 15 ∧ cI E 113 [.ref a0, .int a3] s (fun x2 s1 =>
    sh s1 a0 6 15 ∧ cI E 110 [.ref a0] s1 (fun x4 s3 =>
    wp E 120 236 [.ref a0, .int a1, .int a2, .int x4] [] s3 Q)))) : wp E 120 236 [.ref a0, .int a1, .int a2, .int a3] [] s Q := vc_ok E 120 [2, 31, 62, 124, 236] Q 12 false 236 _ _ _ h
-- 121 CoatedBridgesModel.endsDays(I)I
theorem sg121_0 {E : AEnv} {a0 : Nat} {a1 : Int32} {s : ASt} {Q : Option Value → ASt → Prop} (h :
  wp E 121 4 [.ref a0, .int a1, .int (nI 0), .int (nI 0)] [] s Q) : wp E 121 0 [.ref a0, .int a1] [] s Q := vc_ok E 121 [4] Q 6 false 0 _ _ _ h
theorem sg121_4 {E : AEnv} {a0 : Nat} {a1 : Int32} {a2 : Int32} {a3 : Int32} {s : ASt} {Q : Option Value → ASt → Prop} (h :
  (a1 ≤ a3 →
    Q (some (.int a2)) s) ∧
  (¬ a1 ≤ a3 →
    sh s a0 6 15 ∧ cI E 120 [.ref a0] s (fun x2 s1 =>
    wp E 121 4 [.ref a0, .int a1, .int (a2 + x2), .int (a3 + (nI 1))] [] s1 Q))) : wp E 121 4 [.ref a0, .int a1, .int a2, .int a3] [] s Q := vc_ok E 121 [4] Q 12 false 4 _ _ _ h
-- 122 CoatedBridgesModel.errorIsland(I)I
theorem sg122_0 {E : AEnv} {a0 : Nat} {a1 : Int32} {s : ASt} {Q : Option Value → ASt → Prop} (h :
  cI E 92 [.int a1, .int (nI 0), .int (nI 99)] s (fun x2 s1 =>
  (x2 ≠ (nI 0) →
    sh s1 a0 6 15 ∧ ∃ r3, rf s1 a0 0 r3 ∧ ∃ n4, sh s1 r3 10 n4 ∧ vp_in (nI 1) n4 ∧ ((gI s1 r3 1) ≠ (nI 8) →
      Q (some (.int (nI 0))) s1) ∧
    (¬ (gI s1 r3 1) ≠ (nI 8) →
      Q (some (.int (-1000003 : Int32))) s1)) ∧
  (¬ x2 ≠ (nI 0) →
    Q (some (.int (-1000001 : Int32))) s1))) : wp E 122 0 [.ref a0, .int a1] [] s Q := vc_ok E 122 [] Q 15 false 0 _ _ _ h
-- 123 CoatedBridgesModel.errorBridge(III)I
theorem sg123_0 {E : AEnv} {a0 : Nat} {a1 : Int32} {a2 : Int32} {a3 : Int32} {s : ASt} {Q : Option Value → ASt → Prop} (h :
  sh s a0 6 15 ∧ cI E 95 [.ref a0, .int a1] s (fun x2 s1 =>
  (x2 = (nI 0) →
    ((nI 0) ≠ (nI 0) →
      sh s1 a0 6 15 ∧ ∃ r3, rf s1 a0 0 r3 ∧ ∃ n4, sh s1 r3 10 n4 ∧ vp_in (nI 2) n4 ∧ ((gI s1 r3 2) ≠ (nI 14) →
        Q (some (.int (nI 0))) s1) ∧
      (¬ (gI s1 r3 2) ≠ (nI 14) →
        Q (some (.int (-1000003 : Int32))) s1)) ∧
    (¬ (nI 0) ≠ (nI 0) →
      Q (some (.int (-1000001 : Int32))) s1)) ∧
  (¬ x2 = (nI 0) →
    sh s1 a0 6 15 ∧ cI E 95 [.ref a0, .int a2] s1 (fun x6 s5 =>
    (x6 = (nI 0) →
      ((nI 0) ≠ (nI 0) →
        sh s5 a0 6 15 ∧ ∃ r7, rf s5 a0 0 r7 ∧ ∃ n8, sh s5 r7 10 n8 ∧ vp_in (nI 2) n8 ∧ ((gI s5 r7 2) ≠ (nI 14) →
          Q (some (.int (nI 0))) s5) ∧
        (¬ (gI s5 r7 2) ≠ (nI 14) →
          Q (some (.int (-1000003 : Int32))) s5)) ∧
      (¬ (nI 0) ≠ (nI 0) →
        Q (some (.int (-1000001 : Int32))) s5)) ∧
    (¬ x6 = (nI 0) →
      (a1 = a2 →
        ((nI 0) ≠ (nI 0) →
          sh s5 a0 6 15 ∧ ∃ r9, rf s5 a0 0 r9 ∧ ∃ n10, sh s5 r9 10 n10 ∧ vp_in (nI 2) n10 ∧ ((gI s5 r9 2) ≠ (nI 14) →
            Q (some (.int (nI 0))) s5) ∧
          (¬ (gI s5 r9 2) ≠ (nI 14) →
            Q (some (.int (-1000003 : Int32))) s5)) ∧
        (¬ (nI 0) ≠ (nI 0) →
          Q (some (.int (-1000001 : Int32))) s5)) ∧
      (¬ a1 = a2 →
        cI E 92 [.int a3, .int (nI 1), .int (nI 9)] s5 (fun x12 s11 =>
        (x12 = (nI 0) →
          ((nI 0) ≠ (nI 0) →
            sh s11 a0 6 15 ∧ ∃ r13, rf s11 a0 0 r13 ∧ ∃ n14, sh s11 r13 10 n14 ∧ vp_in (nI 2) n14 ∧ ((gI s11 r13 2) ≠ (nI 14) →
              Q (some (.int (nI 0))) s11) ∧
            (¬ (gI s11 r13 2) ≠ (nI 14) →
              Q (some (.int (-1000003 : Int32))) s11)) ∧
          (¬ (nI 0) ≠ (nI 0) →
            Q (some (.int (-1000001 : Int32))) s11)) ∧
        (¬ x12 = (nI 0) →
          ((nI 1) ≠ (nI 0) →
            sh s11 a0 6 15 ∧ ∃ r15, rf s11 a0 0 r15 ∧ ∃ n16, sh s11 r15 10 n16 ∧ vp_in (nI 2) n16 ∧ ((gI s11 r15 2) ≠ (nI 14) →
              Q (some (.int (nI 0))) s11) ∧
            (¬ (gI s11 r15 2) ≠ (nI 14) →
              Q (some (.int (-1000003 : Int32))) s11)) ∧
          (¬ (nI 1) ≠ (nI 0) →
            Q (some (.int (-1000001 : Int32))) s11))))))))) : wp E 123 0 [.ref a0, .int a1, .int a2, .int a3] [] s Q := vc_ok E 123 [] Q 31 false 0 _ _ _ h
-- 124 CoatedBridgesModel.errorSend(II)I
theorem sg124_0 {E : AEnv} {a0 : Nat} {a1 : Int32} {a2 : Int32} {s : ASt} {Q : Option Value → ASt → Prop} (h :
  sh s a0 6 15 ∧ cI E 96 [.ref a0, .int a1] s (fun x2 s1 =>
  (x2 = (nI 0) →
    Q (some (.int (-1000001 : Int32))) s1) ∧
  (¬ x2 = (nI 0) →
    cI E 92 [.int a2, .int (nI 0), .int (nI 1)] s1 (fun x4 s3 =>
    (x4 ≠ (nI 0) →
      sh s3 a0 6 15 ∧ cI E 109 [.ref a0, .int a1] s3 (fun x6 s5 =>
      (x6 = (nI 0) →
        Q (some (.int (nI 0))) s5) ∧
      (¬ x6 = (nI 0) →
        (x6 ≠ (nI 4) →
          Q (some (.int (-1000002 : Int32))) s5) ∧
        (¬ x6 ≠ (nI 4) →
          (a2 ≠ (nI 1) →
            Q (some (.int (-1000002 : Int32))) s5) ∧
          (¬ a2 ≠ (nI 1) →
            Q (some (.int (nI 0))) s5))))) ∧
    (¬ x4 ≠ (nI 0) →
      Q (some (.int (-1000001 : Int32))) s3))))) : wp E 124 0 [.ref a0, .int a1, .int a2] [] s Q := vc_ok E 124 [] Q 25 false 0 _ _ _ h
-- 125 CoatedBridgesModel.errorRecall(I)I
theorem sg125_0 {E : AEnv} {a0 : Nat} {a1 : Int32} {s : ASt} {Q : Option Value → ASt → Prop} (h :
  sh s a0 6 15 ∧ cI E 96 [.ref a0, .int a1] s (fun x2 s1 =>
  (x2 ≠ (nI 0) →
    sh s1 a0 6 15 ∧ cI E 103 [.ref a0, .int a1] s1 (fun x4 s3 =>
    (x4 = (nI 0) →
      Q (some (.int (-1000002 : Int32))) s3) ∧
    (¬ x4 = (nI 0) →
      Q (some (.int (nI 0))) s3))) ∧
  (¬ x2 ≠ (nI 0) →
    Q (some (.int (-1000001 : Int32))) s1))) : wp E 125 0 [.ref a0, .int a1] [] s Q := vc_ok E 125 [] Q 12 false 0 _ _ _ h
-- 126 CoatedBridgesModel.errorPay(I)I
theorem sg126_0 {E : AEnv} {a0 : Nat} {a1 : Int32} {s : ASt} {Q : Option Value → ASt → Prop} (h :
  cI E 92 [.int a1, .int (nI 1), .int (nI 999)] s (fun x2 s1 =>
  (x2 ≠ (nI 0) →
    sh s1 a0 6 15 ∧ ∃ r3, rf s1 a0 0 r3 ∧ ∃ n4, sh s1 r3 10 n4 ∧ vp_in (nI 11) n4 ∧ (((gI s1 r3 11) + a1) ≤ (nI 999999) →
      Q (some (.int (nI 0))) s1) ∧
    (¬ ((gI s1 r3 11) + a1) ≤ (nI 999999) →
      Q (some (.int (-1000003 : Int32))) s1)) ∧
  (¬ x2 ≠ (nI 0) →
    Q (some (.int (-1000001 : Int32))) s1))) : wp E 126 0 [.ref a0, .int a1] [] s Q := vc_ok E 126 [] Q 17 false 0 _ _ _ h
-- 127 CoatedBridgesModel.errorDays(I)I
theorem sg127_0 {E : AEnv} {a0 : Nat} {a1 : Int32} {s : ASt} {Q : Option Value → ASt → Prop} (h :
  cI E 92 [.int a1, .int (nI 1), .int (nI 99)] s (fun x2 s1 =>
  (x2 ≠ (nI 0) →
    sh s1 a0 6 15 ∧ ∃ r3, rf s1 a0 0 r3 ∧ ∃ n4, sh s1 r3 10 n4 ∧ vp_in (nI 0) n4 ∧ (((gI s1 r3 0) + a1) ≤ (nI 9999) →
      Q (some (.int (nI 0))) s1) ∧
    (¬ ((gI s1 r3 0) + a1) ≤ (nI 9999) →
      Q (some (.int (-1000003 : Int32))) s1)) ∧
  (¬ x2 ≠ (nI 0) →
    Q (some (.int (-1000001 : Int32))) s1))) : wp E 127 0 [.ref a0, .int a1] [] s Q := vc_ok E 127 [] Q 17 false 0 _ _ _ h
-- 128 CoatedBridgesModel.island(I)I
theorem sg128_0 {E : AEnv} {a0 : Nat} {a1 : Int32} {s : ASt} {Q : Option Value → ASt → Prop} (h :
  sh s a0 6 15 ∧ cI E 122 [.ref a0, .int a1] s (fun x2 s1 =>
  ((nI 0) ≤ x2 →
    sh s1 a0 6 15 ∧ cV E 94 [.ref a0] s1 (fun s3 =>
    sh s3 a0 6 15 ∧ cI E 111 [.ref a0, .int a1] s3 (fun x5 s4 =>
    Q (some (.int x5)) s4))) ∧
  (¬ (nI 0) ≤ x2 →
    Q (some (.int x2)) s1))) : wp E 128 0 [.ref a0, .int a1] [] s Q := vc_ok E 128 [] Q 13 false 0 _ _ _ h
-- 129 CoatedBridgesModel.bridge(III)I
theorem sg129_0 {E : AEnv} {a0 : Nat} {a1 : Int32} {a2 : Int32} {a3 : Int32} {s : ASt} {Q : Option Value → ASt → Prop} (h :
  sh s a0 6 15 ∧ cI E 123 [.ref a0, .int a1, .int a2, .int a3] s (fun x2 s1 =>
  ((nI 0) ≤ x2 →
    sh s1 a0 6 15 ∧ cV E 94 [.ref a0] s1 (fun s3 =>
    sh s3 a0 6 15 ∧ cI E 112 [.ref a0, .int a1, .int a2, .int a3] s3 (fun x5 s4 =>
    Q (some (.int x5)) s4))) ∧
  (¬ (nI 0) ≤ x2 →
    Q (some (.int x2)) s1))) : wp E 129 0 [.ref a0, .int a1, .int a2, .int a3] [] s Q := vc_ok E 129 [] Q 17 false 0 _ _ _ h
-- 130 CoatedBridgesModel.send(II)I
theorem sg130_0 {E : AEnv} {a0 : Nat} {a1 : Int32} {a2 : Int32} {s : ASt} {Q : Option Value → ASt → Prop} (h :
  sh s a0 6 15 ∧ cI E 124 [.ref a0, .int a1, .int a2] s (fun x2 s1 =>
  ((nI 0) ≤ x2 →
    sh s1 a0 6 15 ∧ cV E 94 [.ref a0] s1 (fun s3 =>
    sh s3 a0 6 15 ∧ cI E 113 [.ref a0, .int a1] s3 (fun x5 s4 =>
    Q (some (.int x5)) s4))) ∧
  (¬ (nI 0) ≤ x2 →
    Q (some (.int x2)) s1))) : wp E 130 0 [.ref a0, .int a1, .int a2] [] s Q := vc_ok E 130 [] Q 14 false 0 _ _ _ h
-- 131 CoatedBridgesModel.recall(I)I
theorem sg131_0 {E : AEnv} {a0 : Nat} {a1 : Int32} {s : ASt} {Q : Option Value → ASt → Prop} (h :
  sh s a0 6 15 ∧ cI E 125 [.ref a0, .int a1] s (fun x2 s1 =>
  ((nI 0) ≤ x2 →
    sh s1 a0 6 15 ∧ cV E 94 [.ref a0] s1 (fun s3 =>
    sh s3 a0 6 15 ∧ cI E 114 [.ref a0, .int a1] s3 (fun x5 s4 =>
    Q (some (.int x5)) s4))) ∧
  (¬ (nI 0) ≤ x2 →
    Q (some (.int x2)) s1))) : wp E 131 0 [.ref a0, .int a1] [] s Q := vc_ok E 131 [] Q 13 false 0 _ _ _ h
-- 132 CoatedBridgesModel.pay(I)I
theorem sg132_0 {E : AEnv} {a0 : Nat} {a1 : Int32} {s : ASt} {Q : Option Value → ASt → Prop} (h :
  sh s a0 6 15 ∧ cI E 126 [.ref a0, .int a1] s (fun x2 s1 =>
  ((nI 0) ≤ x2 →
    sh s1 a0 6 15 ∧ cV E 94 [.ref a0] s1 (fun s3 =>
    sh s3 a0 6 15 ∧ cI E 115 [.ref a0, .int a1] s3 (fun x5 s4 =>
    Q (some (.int x5)) s4))) ∧
  (¬ (nI 0) ≤ x2 →
    Q (some (.int x2)) s1))) : wp E 132 0 [.ref a0, .int a1] [] s Q := vc_ok E 132 [] Q 13 false 0 _ _ _ h
-- 133 CoatedBridgesModel.days(I)I
theorem sg133_0 {E : AEnv} {a0 : Nat} {a1 : Int32} {s : ASt} {Q : Option Value → ASt → Prop} (h :
  sh s a0 6 15 ∧ cI E 127 [.ref a0, .int a1] s (fun x2 s1 =>
  ((nI 0) ≤ x2 →
    sh s1 a0 6 15 ∧ cV E 94 [.ref a0] s1 (fun s3 =>
    sh s3 a0 6 15 ∧ cI E 121 [.ref a0, .int a1] s3 (fun x5 s4 =>
    Q (some (.int x5)) s4))) ∧
  (¬ (nI 0) ≤ x2 →
    Q (some (.int x2)) s1))) : wp E 133 0 [.ref a0, .int a1] [] s Q := vc_ok E 133 [] Q 13 false 0 _ _ _ h
-- 134 CoatedBridgesModel.mostOf(I)I
theorem sg134_0 {E : AEnv} {a0 : Int32} {s : ASt} {Q : Option Value → ASt → Prop} (h :
  (a0 = (nI 0) →
    Q (some (.int (nI 4))) s) ∧
  (¬ a0 = (nI 0) →
   (a0 = (nI 1) →
    Q (some (.int (nI 100))) s) ∧
  (¬ a0 = (nI 1) →
   (a0 = (nI 2) →
    Q (some (.int (nI 99))) s) ∧
  (¬ a0 = (nI 2) →
   (a0 = (nI 3) →
    Q (some (.int (nI 1))) s) ∧
  (¬ a0 = (nI 3) →
   (a0 = (nI 4) →
    Q (some (.int (nI 30))) s) ∧
  (¬ a0 = (nI 4) →
   (a0 = (nI 5) →
    Q (some (.int (nI 99))) s) ∧
  (¬ a0 = (nI 5) →
   (a0 = (nI 6) →
    Q (some (.int (nI 1))) s) ∧
  (¬ a0 = (nI 6) →
   Q (some (.int (nI 99))) s)))))))) : wp E 134 0 [.int a0] [] s Q := vc_ok E 134 [] Q 5 false 0 _ _ _ h
-- 135 CoatedBridgesModel.set(II)I
theorem sg135_0 {E : AEnv} {a0 : Nat} {a1 : Int32} {a2 : Int32} {s : ASt} {Q : Option Value → ASt → Prop} (h :
  cI E 92 [.int a1, .int (nI 0), .int (nI 7)] s (fun x2 s1 =>
  (x2 = (nI 0) →
    Q (some (.int (-1000001 : Int32))) s1) ∧
  (¬ x2 = (nI 0) →
    (a1 ≠ (nI 1) →
      cI E 134 [.int a1] s1 (fun x4 s3 =>
      cI E 92 [.int a2, .int (nI 0), .int x4] s3 (fun x6 s5 =>
      (x6 ≠ (nI 0) →
        sh s5 a0 6 15 ∧ cV E 94 [.ref a0] s5 (fun s7 =>
        sh s7 a0 6 15 ∧ ∃ r8, rf s7 a0 0 r8 ∧ ∃ n9, sh s7 r8 10 n9 ∧ vp_in ((nI 3) + a1) n9 ∧ sh s7 a0 6 15 ∧ ∃ r10, rf s7 a0 0 r10 ∧ ∃ n11, sh s7 r10 10 n11 ∧ vp_in ((nI 3) + a1) n11 ∧ nw (wrI s7 r10 (((nI 3) + a1)).toNatClampNeg a2) (fun s12 =>
        Q (some (.int (gI s7 r8 (((nI 3) + a1)).toNatClampNeg))) s12))) ∧
      (¬ x6 ≠ (nI 0) →
        Q (some (.int (-1000001 : Int32))) s5)))) ∧
    (¬ a1 ≠ (nI 1) →
      cI E 134 [.int a1] s1 (fun x14 s13 =>
      cI E 92 [.int a2, .int (nI 1), .int x14] s13 (fun x16 s15 =>
      (x16 ≠ (nI 0) →
        sh s15 a0 6 15 ∧ cV E 94 [.ref a0] s15 (fun s17 =>
        sh s17 a0 6 15 ∧ ∃ r18, rf s17 a0 0 r18 ∧ ∃ n19, sh s17 r18 10 n19 ∧ vp_in ((nI 3) + a1) n19 ∧ sh s17 a0 6 15 ∧ ∃ r20, rf s17 a0 0 r20 ∧ ∃ n21, sh s17 r20 10 n21 ∧ vp_in ((nI 3) + a1) n21 ∧ nw (wrI s17 r20 (((nI 3) + a1)).toNatClampNeg a2) (fun s22 =>
        Q (some (.int (gI s17 r18 (((nI 3) + a1)).toNatClampNeg))) s22))) ∧
      (¬ x16 ≠ (nI 0) →
        Q (some (.int (-1000001 : Int32))) s15))))))) : wp E 135 0 [.ref a0, .int a1, .int a2] [] s Q := vc_ok E 135 [] Q 34 false 0 _ _ _ h
-- 136 CoatedBridgesModel.undo()I
theorem sg136_0 {E : AEnv} {a0 : Nat} {s : ASt} {Q : Option Value → ASt → Prop} (h :
  sh s a0 6 15 ∧ ((gI s a0 4) ≠ (nI 0) →
    sh s a0 6 15 ∧ sh s a0 6 15 ∧ nw (wrI s a0 4 ((gI s a0 4) - (nI 1))) (fun s1 =>
    sh s1 a0 6 15 ∧ ∃ r2, rf s1 a0 3 r2 ∧ sh s1 a0 6 15 ∧ sh s1 a0 6 15 ∧ ∃ r3, rf s1 a0 0 r3 ∧ cV E 93 [.ref r2, .int ((nI 184) * (gI s1 a0 4)), .ref r3, .int (nI 0)] s1 (fun s4 =>
    sh s4 a0 6 15 ∧ Q (some (.int (gI s4 a0 4))) s4))) ∧
  (¬ (gI s a0 4) ≠ (nI 0) →
    Q (some (.int (-1000002 : Int32))) s)) : wp E 136 0 [.ref a0] [] s Q := vc_ok E 136 [] Q 23 false 0 _ _ _ h
-- 137 CoatedBridgesModel.bridgeOf(II)I
theorem sg137_0 {E : AEnv} {a0 : Nat} {a1 : Int32} {a2 : Int32} {s : ASt} {Q : Option Value → ASt → Prop} (h :
  sh s a0 6 15 ∧ cI E 96 [.ref a0, .int a1] s (fun x2 s1 =>
  (x2 ≠ (nI 0) →
    (a2 = (nI 0) →
      sh s1 a0 6 15 ∧ cI E 97 [.ref a0, .int a1, .int a2] s1 (fun x22 s21 =>
      Q (some (.int x22)) s21)) ∧
    (¬ a2 = (nI 0) →
     (a2 = (nI 1) →
      sh s1 a0 6 15 ∧ cI E 97 [.ref a0, .int a1, .int a2] s1 (fun x20 s19 =>
      Q (some (.int x20)) s19)) ∧
    (¬ a2 = (nI 1) →
     (a2 = (nI 2) →
      sh s1 a0 6 15 ∧ cI E 97 [.ref a0, .int a1, .int a2] s1 (fun x18 s17 =>
      Q (some (.int x18)) s17)) ∧
    (¬ a2 = (nI 2) →
     (a2 = (nI 3) →
      sh s1 a0 6 15 ∧ cI E 97 [.ref a0, .int a1, .int a2] s1 (fun x16 s15 =>
      Q (some (.int x16)) s15)) ∧
    (¬ a2 = (nI 3) →
     (a2 = (nI 4) →
      sh s1 a0 6 15 ∧ cI E 105 [.ref a0, .int a1] s1 (fun x14 s13 =>
      Q (some (.int x14)) s13)) ∧
    (¬ a2 = (nI 4) →
     (a2 = (nI 5) →
      sh s1 a0 6 15 ∧ cI E 97 [.ref a0, .int a1, .int a2] s1 (fun x12 s11 =>
      Q (some (.int x12)) s11)) ∧
    (¬ a2 = (nI 5) →
     (a2 = (nI 6) →
      sh s1 a0 6 15 ∧ cI E 97 [.ref a0, .int a1, .int a2] s1 (fun x10 s9 =>
      Q (some (.int x10)) s9)) ∧
    (¬ a2 = (nI 6) →
     (a2 = (nI 7) →
      sh s1 a0 6 15 ∧ cI E 97 [.ref a0, .int a1, .int a2] s1 (fun x8 s7 =>
      Q (some (.int x8)) s7)) ∧
    (¬ a2 = (nI 7) →
     (a2 = (nI 8) →
      sh s1 a0 6 15 ∧ cI E 104 [.ref a0, .int a1] s1 (fun x4 s3 =>
      (x4 = (nI 0) →
        Q (some (.int (nI 0))) s3) ∧
      (¬ x4 = (nI 0) →
        sh s3 a0 6 15 ∧ cI E 107 [.ref a0, .int a1] s3 (fun x6 s5 =>
        (x6 = (nI 0) →
          Q (some (.int (nI 0))) s5) ∧
        (¬ x6 = (nI 0) →
          Q (some (.int (nI 1))) s5))))) ∧
    (¬ a2 = (nI 8) →
     Q (some (.int (-1000001 : Int32))) s1)))))))))) ∧
  (¬ x2 ≠ (nI 0) →
    Q (some (.int (-1000001 : Int32))) s1))) : wp E 137 0 [.ref a0, .int a1, .int a2] [] s Q := vc_ok E 137 [] Q 18 false 0 _ _ _ h
-- 138 CoatedBridgesModel.openAt(I)I
theorem sg138_0 {E : AEnv} {a0 : Nat} {a1 : Int32} {s : ASt} {Q : Option Value → ASt → Prop} (h :
  wp E 138 4 [.ref a0, .int a1, .int (nI 0), .int (nI 0)] [] s Q) : wp E 138 0 [.ref a0, .int a1] [] s Q := vc_ok E 138 [4] Q 6 false 0 _ _ _ h
theorem sg138_4 {E : AEnv} {a0 : Nat} {a1 : Int32} {a2 : Int32} {a3 : Int32} {s : ASt} {Q : Option Value → ASt → Prop} (h :
  sh s a0 6 15 ∧ ∃ r1, rf s a0 0 r1 ∧ ∃ n2, sh s r1 10 n2 ∧ vp_in (nI 2) n2 ∧ ((gI s r1 2) ≤ a3 →
    Q (some (.int a2)) s) ∧
  (¬ (gI s r1 2) ≤ a3 →
    sh s a0 6 15 ∧ cI E 104 [.ref a0, .int a3] s (fun x4 s3 =>
    (x4 = (nI 0) →
      wp E 138 4 [.ref a0, .int a1, .int (a2 + (nI 0)), .int (a3 + (nI 1))] [] s3 Q) ∧
    (¬ x4 = (nI 0) →
      sh s3 a0 6 15 ∧ cI E 97 [.ref a0, .int a3, .int (nI 0)] s3 (fun x6 s5 =>
      (x6 = a1 →
        wp E 138 4 [.ref a0, .int a1, .int (a2 + (nI 1)), .int (a3 + (nI 1))] [] s5 Q) ∧
      (¬ x6 = a1 →
        sh s5 a0 6 15 ∧ cI E 97 [.ref a0, .int a3, .int (nI 1)] s5 (fun x8 s7 =>
        (x8 ≠ a1 →
          wp E 138 4 [.ref a0, .int a1, .int (a2 + (nI 0)), .int (a3 + (nI 1))] [] s7 Q) ∧
        (¬ x8 ≠ a1 →
          wp E 138 4 [.ref a0, .int a1, .int (a2 + (nI 1)), .int (a3 + (nI 1))] [] s7 Q)))))))) : wp E 138 4 [.ref a0, .int a1, .int a2, .int a3] [] s Q := vc_ok E 138 [4] Q 31 false 4 _ _ _ h
-- 139 CoatedBridgesModel.fewestTo(I)I
theorem sg139_0 {E : AEnv} {a0 : Nat} {a1 : Int32} {s : ASt} {Q : Option Value → ASt → Prop} (h :
  wp E 139 4 [.ref a0, .int a1, .int (nI 1), .int (nI 0)] [] s Q) : wp E 139 0 [.ref a0, .int a1] [] s Q := vc_ok E 139 [4, 24] Q 6 false 0 _ _ _ h
theorem sg139_4 {E : AEnv} {a0 : Nat} {a1 : Int32} {a2 : Int32} {a3 : Int32} {s : ASt} {Q : Option Value → ASt → Prop} (h :
  (((a2 >>> (a1 &&& 31)) &&& (nI 1)) ≠ (nI 0) →
    (((a2 >>> (a1 &&& 31)) &&& (nI 1)) ≠ (nI 1) →
      Q (some (.int (-1000004 : Int32))) s) ∧
    (¬ ((a2 >>> (a1 &&& 31)) &&& (nI 1)) ≠ (nI 1) →
      Q (some (.int a3)) s)) ∧
  (¬ ((a2 >>> (a1 &&& 31)) &&& (nI 1)) ≠ (nI 0) →
    ((nI 8) ≤ a3 →
      (((a2 >>> (a1 &&& 31)) &&& (nI 1)) ≠ (nI 1) →
        Q (some (.int (-1000004 : Int32))) s) ∧
      (¬ ((a2 >>> (a1 &&& 31)) &&& (nI 1)) ≠ (nI 1) →
        Q (some (.int a3)) s)) ∧
    (¬ (nI 8) ≤ a3 →
      wp E 139 24 [.ref a0, .int a1, .int a2, .int a3, .int a2, .int (nI 0)] [] s Q))) : wp E 139 4 [.ref a0, .int a1, .int a2, .int a3] [] s Q := vc_ok E 139 [4, 24] Q 20 false 4 _ _ _ h
theorem sg139_24 {E : AEnv} {a0 : Nat} {a1 : Int32} {a2 : Int32} {a3 : Int32} {a4 : Int32} {a5 : Int32} {s : ASt} {Q : Option Value → ASt → Prop} (h :
  sh s a0 6 15 ∧ ∃ r1, rf s a0 0 r1 ∧ ∃ n2, sh s r1 10 n2 ∧ vp_in (nI 2) n2 ∧ ((gI s r1 2) ≤ a5 →
    wp E 139 4 [.ref a0, .int a1, .int a4, .int (a3 + (nI 1))] [] s Q) ∧
  (¬ (gI s r1 2) ≤ a5 →
    sh s a0 6 15 ∧ cI E 97 [.ref a0, .int a5, .int (nI 0)] s (fun x4 s3 =>
    sh s3 a0 6 15 ∧ cI E 97 [.ref a0, .int a5, .int (nI 1)] s3 (fun x6 s5 =>
    sh s5 a0 6 15 ∧ cI E 104 [.ref a0, .int a5] s5 (fun x8 s7 =>
    (x8 = (nI 0) →
      wp E 139 24 [.ref a0, .int a1, .int a2, .int a3, .int (a4 ||| (nI 0)), .int (a5 + (nI 1))] [] s7 Q) ∧
    (¬ x8 = (nI 0) →
      ((a2 &&& (((nI 1) <<< (x4 &&& 31)) ||| ((nI 1) <<< (x6 &&& 31)))) = (nI 0) →
        wp E 139 24 [.ref a0, .int a1, .int a2, .int a3, .int (a4 ||| (nI 0)), .int (a5 + (nI 1))] [] s7 Q) ∧
      (¬ (a2 &&& (((nI 1) <<< (x4 &&& 31)) ||| ((nI 1) <<< (x6 &&& 31)))) = (nI 0) →
        wp E 139 24 [.ref a0, .int a1, .int a2, .int a3, .int (a4 ||| (((nI 1) <<< (x4 &&& 31)) ||| ((nI 1) <<< (x6 &&& 31)))), .int (a5 + (nI 1))] [] s7 Q))))))) : wp E 139 24 [.ref a0, .int a1, .int a2, .int a3, .int a4, .int a5] [] s Q := vc_ok E 139 [4, 24] Q 37 false 24 _ _ _ h
-- 140 CoatedBridgesModel.islandOf(II)I
theorem sg140_0 {E : AEnv} {a0 : Nat} {a1 : Int32} {a2 : Int32} {s : ASt} {Q : Option Value → ASt → Prop} (h :
  sh s a0 6 15 ∧ cI E 95 [.ref a0, .int a1] s (fun x2 s1 =>
  (x2 ≠ (nI 0) →
    (a2 = (nI 0) →
      sh s1 a0 6 15 ∧ cI E 106 [.ref a0, .int (nI 0), .int (-1000004 : Int32)] s1 (fun x18 s17 =>
      Q (some (.int ((x18 >>> (a1 &&& 31)) &&& (nI 1)))) s17)) ∧
    (¬ a2 = (nI 0) →
     (a2 = (nI 1) →
      sh s1 a0 6 15 ∧ cI E 100 [.ref a0, .int a1, .int (nI 1)] s1 (fun x16 s15 =>
      Q (some (.int x16)) s15)) ∧
    (¬ a2 = (nI 1) →
     (a2 = (nI 2) →
      sh s1 a0 6 15 ∧ cI E 100 [.ref a0, .int a1, .int (nI 0)] s1 (fun x14 s13 =>
      Q (some (.int x14)) s13)) ∧
    (¬ a2 = (nI 2) →
     (a2 = (nI 3) →
      sh s1 a0 6 15 ∧ cI E 100 [.ref a0, .int a1, .int (nI 2)] s1 (fun x12 s11 =>
      Q (some (.int x12)) s11)) ∧
    (¬ a2 = (nI 3) →
     (a2 = (nI 4) →
      sh s1 a0 6 15 ∧ cI E 100 [.ref a0, .int a1, .int (nI 3)] s1 (fun x10 s9 =>
      Q (some (.int x10)) s9)) ∧
    (¬ a2 = (nI 4) →
     (a2 = (nI 5) →
      sh s1 a0 6 15 ∧ cI E 100 [.ref a0, .int a1, .int (nI 4)] s1 (fun x8 s7 =>
      Q (some (.int x8)) s7)) ∧
    (¬ a2 = (nI 5) →
     (a2 = (nI 6) →
      sh s1 a0 6 15 ∧ cI E 138 [.ref a0, .int a1] s1 (fun x6 s5 =>
      Q (some (.int x6)) s5)) ∧
    (¬ a2 = (nI 6) →
     (a2 = (nI 7) →
      sh s1 a0 6 15 ∧ cI E 139 [.ref a0, .int a1] s1 (fun x4 s3 =>
      Q (some (.int x4)) s3)) ∧
    (¬ a2 = (nI 7) →
     Q (some (.int (-1000001 : Int32))) s1))))))))) ∧
  (¬ x2 ≠ (nI 0) →
    Q (some (.int (-1000001 : Int32))) s1))) : wp E 140 0 [.ref a0, .int a1, .int a2] [] s Q := vc_ok E 140 [] Q 16 false 0 _ _ _ h
-- 141 CoatedBridgesModel.reach(I)I
theorem sg141_0 {E : AEnv} {a0 : Nat} {a1 : Int32} {s : ASt} {Q : Option Value → ASt → Prop} (h :
  sh s a0 6 15 ∧ cI E 95 [.ref a0, .int a1] s (fun x2 s1 =>
  (x2 = (nI 0) →
    Q (some (.int (-1000001 : Int32))) s1) ∧
  (¬ x2 = (nI 0) →
    sh s1 a0 6 15 ∧ cI E 106 [.ref a0, .int a1, .int (-1000004 : Int32)] s1 (fun x4 s3 =>
    Q (some (.int x4)) s3)))) : wp E 141 0 [.ref a0, .int a1] [] s Q := vc_ok E 141 [] Q 11 false 0 _ _ _ h
-- 142 CoatedBridgesModel.book(II)I
theorem sg142_0 {E : AEnv} {a0 : Nat} {a1 : Int32} {a2 : Int32} {s : ASt} {Q : Option Value → ASt → Prop} (h :
  (a1 < (nI 0) →
    Q (some (.int (-1000001 : Int32))) s) ∧
  (¬ a1 < (nI 0) →
    cI E 92 [.int a2, .int (nI 0), .int (nI 1)] s (fun x2 s1 =>
    (x2 ≠ (nI 0) →
      sh s1 a0 6 15 ∧ ∃ r3, rf s1 a0 0 r3 ∧ ∃ n4, sh s1 r3 10 n4 ∧ vp_in (nI 15) n4 ∧ ((gI s1 r3 15) ≤ a1 →
        Q (some (.int (-1000004 : Int32))) s1) ∧
      (¬ (gI s1 r3 15) ≤ a1 →
        sh s1 a0 6 15 ∧ ∃ r5, rf s1 a0 0 r5 ∧ ∃ n6, sh s1 r5 10 n6 ∧ vp_in (((nI 16) + ((nI 2) * a1)) + a2) n6 ∧ Q (some (.int (gI s1 r5 ((((nI 16) + ((nI 2) * a1)) + a2)).toNatClampNeg))) s1)) ∧
    (¬ x2 ≠ (nI 0) →
      Q (some (.int (-1000001 : Int32))) s1)))) : wp E 142 0 [.ref a0, .int a1, .int a2] [] s Q := vc_ok E 142 [] Q 26 false 0 _ _ _ h
-- 143 CoatedBridgesModel.lowest(I)I
theorem sg143_0 {E : AEnv} {a0 : Nat} {a1 : Int32} {s : ASt} {Q : Option Value → ASt → Prop} (h :
  wp E 143 2 [.ref a0, .int a1, .int (nI 0)] [] s Q) : wp E 143 0 [.ref a0, .int a1] [] s Q := vc_ok E 143 [2] Q 4 false 0 _ _ _ h
theorem sg143_2 {E : AEnv} {a0 : Nat} {a1 : Int32} {a2 : Int32} {s : ASt} {Q : Option Value → ASt → Prop} (h :
  (((a1 >>> (a2 &&& 31)) &&& (nI 1)) ≠ (nI 0) →
    Q (some (.int a2)) s) ∧
  (¬ ((a1 >>> (a2 &&& 31)) &&& (nI 1)) ≠ (nI 0) →
    wp E 143 2 [.ref a0, .int a1, .int (a2 + (nI 1))] [] s Q)) : wp E 143 2 [.ref a0, .int a1, .int a2] [] s Q := vc_ok E 143 [2] Q 10 false 2 _ _ _ h
-- 144 CoatedBridgesModel.why(II)I
theorem sg144_0 {E : AEnv} {a0 : Nat} {a1 : Int32} {a2 : Int32} {s : ASt} {Q : Option Value → ASt → Prop} (h :
  sh s a0 6 15 ∧ cI E 96 [.ref a0, .int a1] s (fun x2 s1 =>
  (x2 = (nI 0) →
    Q (some (.int (-1000001 : Int32))) s1) ∧
  (¬ x2 = (nI 0) →
    cI E 92 [.int a2, .int (nI 0), .int (nI 1)] s1 (fun x4 s3 =>
    (x4 ≠ (nI 0) →
      sh s3 a0 6 15 ∧ cI E 109 [.ref a0, .int a1] s3 (fun x6 s5 =>
      (a2 ≠ (nI 0) →
        (x6 ≠ (nI 4) →
          Q (some (.int (-1000004 : Int32))) s5) ∧
        (¬ x6 ≠ (nI 4) →
          sh s5 a0 6 15 ∧ cI E 107 [.ref a0, .int a1] s5 (fun x8 s7 =>
          sh s7 a0 6 15 ∧ cI E 143 [.ref a0, .int x8] s7 (fun x10 s9 =>
          Q (some (.int x10)) s9)))) ∧
      (¬ a2 ≠ (nI 0) →
        Q (some (.int x6)) s5))) ∧
    (¬ x4 ≠ (nI 0) →
      Q (some (.int (-1000001 : Int32))) s3))))) : wp E 144 0 [.ref a0, .int a1, .int a2] [] s Q := vc_ok E 144 [] Q 26 false 0 _ _ _ h
-- 145 CoatedBridgesModel.best()I
theorem sg145_0 {E : AEnv} {a0 : Nat} {s : ASt} {Q : Option Value → ASt → Prop} (h :
  sh s a0 6 15 ∧ cI E 110 [.ref a0] s (fun x2 s1 =>
  Q (some (.int x2)) s1)) : wp E 145 0 [.ref a0] [] s Q := vc_ok E 145 [] Q 4 false 0 _ _ _ h
-- 146 CoatedBridgesModel.rustsIn(I)I
theorem sg146_0 {E : AEnv} {a0 : Nat} {a1 : Int32} {s : ASt} {Q : Option Value → ASt → Prop} (h :
  sh s a0 6 15 ∧ cI E 96 [.ref a0, .int a1] s (fun x2 s1 =>
  (x2 ≠ (nI 0) →
    sh s1 a0 6 15 ∧ cI E 103 [.ref a0, .int a1] s1 (fun x4 s3 =>
    (x4 = (nI 0) →
      sh s3 a0 6 15 ∧ cI E 97 [.ref a0, .int a1, .int (nI 3)] s3 (fun x6 s5 =>
      sh s5 a0 6 15 ∧ cI E 97 [.ref a0, .int a1, .int (nI 2)] s5 (fun x8 s7 =>
      sh s7 a0 6 15 ∧ cI E 97 [.ref a0, .int a1, .int (nI 2)] s7 (fun x10 s9 =>
      ¬ x10 = 0 ∧ Q (some (.int (((x6 + x8) - (nI 1)) / x10))) s9)))) ∧
    (¬ x4 = (nI 0) →
      Q (some (.int (-1000002 : Int32))) s3))) ∧
  (¬ x2 ≠ (nI 0) →
    Q (some (.int (-1000001 : Int32))) s1))) : wp E 146 0 [.ref a0, .int a1] [] s Q := vc_ok E 146 [] Q 26 false 0 _ _ _ h
-- 147 CoatedBridgesModel.paintedIn(I)I
theorem sg147_0 {E : AEnv} {a0 : Nat} {a1 : Int32} {s : ASt} {Q : Option Value → ASt → Prop} (h :
  sh s a0 6 15 ∧ cI E 96 [.ref a0, .int a1] s (fun x2 s1 =>
  (x2 ≠ (nI 0) →
    sh s1 a0 6 15 ∧ cI E 103 [.ref a0, .int a1] s1 (fun x4 s3 =>
    (x4 ≠ (nI 0) →
      sh s3 a0 6 15 ∧ ∃ r5, rf s3 a0 0 r5 ∧ sh s3 a0 6 15 ∧ ∃ r6, rf s3 a0 1 r6 ∧ cV E 93 [.ref r5, .int (nI 0), .ref r6, .int (nI 0)] s3 (fun s7 =>
      wp E 147 37 [.ref a0, .int a1, .int (nI 0)] [] s7 Q)) ∧
    (¬ x4 ≠ (nI 0) →
      Q (some (.int (-1000002 : Int32))) s3))) ∧
  (¬ x2 ≠ (nI 0) →
    Q (some (.int (-1000001 : Int32))) s1))) : wp E 147 0 [.ref a0, .int a1] [] s Q := vc_ok E 147 [37] Q 19 false 0 _ _ _ h
theorem sg147_37 {E : AEnv} {a0 : Nat} {a1 : Int32} {a2 : Int32} {s : ASt} {Q : Option Value → ASt → Prop} (h :
  ((nI 200) < a2 →
    sh s a0 6 15 ∧ ∃ r1, rf s a0 1 r1 ∧ sh s a0 6 15 ∧ ∃ r2, rf s a0 0 r2 ∧ cV E 93 [.ref r1, .int (nI 0), .ref r2, .int (nI 0)] s (fun s3 =>
    (a2 ≤ (nI 200) →
      Q (some (.int a2)) s3) ∧
    (¬ a2 ≤ (nI 200) →
      Q (some (.int (-1000004 : Int32))) s3))) ∧
  (¬ (nI 200) < a2 →
    sh s a0 6 15 ∧ cI E 103 [.ref a0, .int a1] s (fun x5 s4 =>
    (x5 = (nI 0) →
      sh s4 a0 6 15 ∧ ∃ r6, rf s4 a0 1 r6 ∧ sh s4 a0 6 15 ∧ ∃ r7, rf s4 a0 0 r7 ∧ cV E 93 [.ref r6, .int (nI 0), .ref r7, .int (nI 0)] s4 (fun s8 =>
      (a2 ≤ (nI 200) →
        Q (some (.int a2)) s8) ∧
      (¬ a2 ≤ (nI 200) →
        Q (some (.int (-1000004 : Int32))) s8))) ∧
    (¬ x5 = (nI 0) →
      sh s4 a0 6 15 ∧ cI E 120 [.ref a0] s4 (fun x10 s9 =>
      wp E 147 37 [.ref a0, .int a1, .int (a2 + (nI 1))] [] s9 Q))))) : wp E 147 37 [.ref a0, .int a1, .int a2] [] s Q := vc_ok E 147 [37] Q 21 false 37 _ _ _ h
-- 148 CoatedBridgesModel.aloneIn()I
theorem sg148_0 {E : AEnv} {a0 : Nat} {s : ASt} {Q : Option Value → ASt → Prop} (h :
  sh s a0 6 15 ∧ ∃ r1, rf s a0 0 r1 ∧ sh s a0 6 15 ∧ ∃ r2, rf s a0 1 r2 ∧ cV E 93 [.ref r1, .int (nI 0), .ref r2, .int (nI 0)] s (fun s3 =>
  sh s3 a0 6 15 ∧ cI E 106 [.ref a0, .int (nI 0), .int (-1000004 : Int32)] s3 (fun x5 s4 =>
  wp E 148 23 [.ref a0, .int x5, .int (nI 0)] [] s4 Q))) : wp E 148 0 [.ref a0] [] s Q := vc_ok E 148 [23] Q 16 false 0 _ _ _ h
theorem sg148_23 {E : AEnv} {a0 : Nat} {a1 : Int32} {a2 : Int32} {s : ASt} {Q : Option Value → ASt → Prop} (h :
  ((nI 200) < a2 →
    sh s a0 6 15 ∧ ∃ r1, rf s a0 1 r1 ∧ sh s a0 6 15 ∧ ∃ r2, rf s a0 0 r2 ∧ cV E 93 [.ref r1, .int (nI 0), .ref r2, .int (nI 0)] s (fun s3 =>
    (a2 ≤ (nI 200) →
      Q (some (.int a2)) s3) ∧
    (¬ a2 ≤ (nI 200) →
      Q (some (.int (-1000004 : Int32))) s3))) ∧
  (¬ (nI 200) < a2 →
    sh s a0 6 15 ∧ cI E 106 [.ref a0, .int (nI 0), .int (-1000004 : Int32)] s (fun x5 s4 =>
    ((a1 &&& (x5 ^^^ (-1 : Int32))) ≠ (nI 0) →
      sh s4 a0 6 15 ∧ ∃ r6, rf s4 a0 1 r6 ∧ sh s4 a0 6 15 ∧ ∃ r7, rf s4 a0 0 r7 ∧ cV E 93 [.ref r6, .int (nI 0), .ref r7, .int (nI 0)] s4 (fun s8 =>
      (a2 ≤ (nI 200) →
        Q (some (.int a2)) s8) ∧
      (¬ a2 ≤ (nI 200) →
        Q (some (.int (-1000004 : Int32))) s8))) ∧
    (¬ (a1 &&& (x5 ^^^ (-1 : Int32))) ≠ (nI 0) →
      sh s4 a0 6 15 ∧ cI E 120 [.ref a0] s4 (fun x10 s9 =>
      wp E 148 23 [.ref a0, .int a1, .int (a2 + (nI 1))] [] s9 Q))))) : wp E 148 23 [.ref a0, .int a1, .int a2] [] s Q := vc_ok E 148 [23] Q 26 false 23 _ _ _ h
-- 149 CoatedBridgesModel.ifDays(I)I
theorem sg149_0 {E : AEnv} {a0 : Nat} {a1 : Int32} {s : ASt} {Q : Option Value → ASt → Prop} (h :
  cI E 92 [.int a1, .int (nI 1), .int (nI 99)] s (fun x2 s1 =>
  (x2 ≠ (nI 0) →
    sh s1 a0 6 15 ∧ ∃ r3, rf s1 a0 0 r3 ∧ sh s1 a0 6 15 ∧ ∃ r4, rf s1 a0 1 r4 ∧ cV E 93 [.ref r3, .int (nI 0), .ref r4, .int (nI 0)] s1 (fun s5 =>
    sh s5 a0 6 15 ∧ cI E 121 [.ref a0, .int a1] s5 (fun x7 s6 =>
    sh s6 a0 6 15 ∧ ∃ r8, rf s6 a0 1 r8 ∧ sh s6 a0 6 15 ∧ ∃ r9, rf s6 a0 0 r9 ∧ cV E 93 [.ref r8, .int (nI 0), .ref r9, .int (nI 0)] s6 (fun s10 =>
    Q (some (.int x7)) s10)))) ∧
  (¬ x2 ≠ (nI 0) →
    Q (some (.int (-1000001 : Int32))) s1))) : wp E 149 0 [.ref a0, .int a1] [] s Q := vc_ok E 149 [] Q 26 false 0 _ _ _ h
-- 150 CoatedBridgesModel.mean()I
theorem sg150_0 {E : AEnv} {a0 : Nat} {s : ASt} {Q : Option Value → ASt → Prop} (h :
  wp E 150 4 [.ref a0, .int (nI 0), .int (nI 0)] [] s Q) : wp E 150 0 [.ref a0] [] s Q := vc_ok E 150 [4] Q 6 false 0 _ _ _ h
theorem sg150_4 {E : AEnv} {a0 : Nat} {a1 : Int32} {a2 : Int32} {s : ASt} {Q : Option Value → ASt → Prop} (h :
  sh s a0 6 15 ∧ ∃ r1, rf s a0 0 r1 ∧ ∃ n2, sh s r1 10 n2 ∧ vp_in (nI 2) n2 ∧ ((gI s r1 2) ≤ a2 →
    sh s a0 6 15 ∧ ∃ r3, rf s a0 0 r3 ∧ ∃ n4, sh s r3 10 n4 ∧ vp_in (nI 2) n4 ∧ ((gI s r3 2) ≠ (nI 0) →
      sh s a0 6 15 ∧ ∃ r5, rf s a0 0 r5 ∧ ∃ n6, sh s r5 10 n6 ∧ vp_in (nI 2) n6 ∧ ((FP.fdiv (FP.i2f a1) (FP.i2f (gI s r5 2))) &&& 0x7fffffff ≤ 0x7f800000) ∧ cI E 168 [.float (FP.fdiv (FP.i2f a1) (FP.i2f (gI s r5 2)))] s (fun x8 s7 =>
      Q (some (.int x8)) s7)) ∧
    (¬ (gI s r3 2) ≠ (nI 0) →
      Q (some (.int (-1000004 : Int32))) s)) ∧
  (¬ (gI s r1 2) ≤ a2 →
    sh s a0 6 15 ∧ cI E 97 [.ref a0, .int a2, .int (nI 3)] s (fun x10 s9 =>
    wp E 150 4 [.ref a0, .int (a1 + x10), .int (a2 + (nI 1))] [] s9 Q))) : wp E 150 4 [.ref a0, .int a1, .int a2] [] s Q := vc_ok E 150 [4] Q 22 false 4 _ _ _ h
-- 151 CoatedBridgesModel.setOf(I)I
theorem sg151_0 {E : AEnv} {a0 : Nat} {a1 : Int32} {s : ASt} {Q : Option Value → ASt → Prop} (h :
  wp E 151 4 [.ref a0, .int a1, .int (nI 0), .int (nI 0)] [] s Q) : wp E 151 0 [.ref a0, .int a1] [] s Q := vc_ok E 151 [4] Q 6 false 0 _ _ _ h
theorem sg151_4 {E : AEnv} {a0 : Nat} {a1 : Int32} {a2 : Int32} {a3 : Int32} {s : ASt} {Q : Option Value → ASt → Prop} (h :
  sh s a0 6 15 ∧ ∃ r1, rf s a0 0 r1 ∧ ∃ n2, sh s r1 10 n2 ∧ vp_in (nI 2) n2 ∧ ((gI s r1 2) ≤ a3 →
    Q (some (.int a2)) s) ∧
  (¬ (gI s r1 2) ≤ a3 →
    sh s a0 6 15 ∧ cI E 105 [.ref a0, .int a3] s (fun x4 s3 =>
    (x4 ≠ a1 →
      wp E 151 4 [.ref a0, .int a1, .int (a2 ||| (nI 0)), .int (a3 + (nI 1))] [] s3 Q) ∧
    (¬ x4 ≠ a1 →
      wp E 151 4 [.ref a0, .int a1, .int (a2 ||| ((nI 1) <<< (a3 &&& 31))), .int (a3 + (nI 1))] [] s3 Q)))) : wp E 151 4 [.ref a0, .int a1, .int a2, .int a3] [] s Q := vc_ok E 151 [4] Q 22 false 4 _ _ _ h
-- 152 CoatedBridgesModel.neededOnes()I
theorem sg152_0 {E : AEnv} {a0 : Nat} {s : ASt} {Q : Option Value → ASt → Prop} (h :
  wp E 152 4 [.ref a0, .int (nI 0), .int (nI 0)] [] s Q) : wp E 152 0 [.ref a0] [] s Q := vc_ok E 152 [4] Q 6 false 0 _ _ _ h
theorem sg152_4 {E : AEnv} {a0 : Nat} {a1 : Int32} {a2 : Int32} {s : ASt} {Q : Option Value → ASt → Prop} (h :
  sh s a0 6 15 ∧ ∃ r1, rf s a0 0 r1 ∧ ∃ n2, sh s r1 10 n2 ∧ vp_in (nI 2) n2 ∧ ((gI s r1 2) ≤ a2 →
    Q (some (.int a1)) s) ∧
  (¬ (gI s r1 2) ≤ a2 →
    sh s a0 6 15 ∧ cI E 104 [.ref a0, .int a2] s (fun x4 s3 =>
    (x4 = (nI 0) →
      wp E 152 4 [.ref a0, .int (a1 ||| (nI 0)), .int (a2 + (nI 1))] [] s3 Q) ∧
    (¬ x4 = (nI 0) →
      sh s3 a0 6 15 ∧ cI E 107 [.ref a0, .int a2] s3 (fun x6 s5 =>
      (x6 = (nI 0) →
        wp E 152 4 [.ref a0, .int (a1 ||| (nI 0)), .int (a2 + (nI 1))] [] s5 Q) ∧
      (¬ x6 = (nI 0) →
        wp E 152 4 [.ref a0, .int (a1 ||| ((nI 1) <<< (a2 &&& 31))), .int (a2 + (nI 1))] [] s5 Q)))))) : wp E 152 4 [.ref a0, .int a1, .int a2] [] s Q := vc_ok E 152 [4] Q 25 false 4 _ _ _ h
-- 153 CoatedBridgesModel.groups()I
theorem sg153_0 {E : AEnv} {a0 : Nat} {s : ASt} {Q : Option Value → ASt → Prop} (h :
  wp E 153 4 [.ref a0, .int (nI 0), .int (nI 0)] [] s Q) : wp E 153 0 [.ref a0] [] s Q := vc_ok E 153 [4] Q 6 false 0 _ _ _ h
theorem sg153_4 {E : AEnv} {a0 : Nat} {a1 : Int32} {a2 : Int32} {s : ASt} {Q : Option Value → ASt → Prop} (h :
  sh s a0 6 15 ∧ ∃ r1, rf s a0 0 r1 ∧ ∃ n2, sh s r1 10 n2 ∧ vp_in (nI 1) n2 ∧ ((gI s r1 1) ≤ a2 →
    Q (some (.int a1)) s) ∧
  (¬ (gI s r1 1) ≤ a2 →
    sh s a0 6 15 ∧ cI E 106 [.ref a0, .int a2, .int (-1000004 : Int32)] s (fun x4 s3 =>
    sh s3 a0 6 15 ∧ cI E 143 [.ref a0, .int x4] s3 (fun x6 s5 =>
    (x6 ≠ a2 →
      wp E 153 4 [.ref a0, .int (a1 + (nI 0)), .int (a2 + (nI 1))] [] s5 Q) ∧
    (¬ x6 ≠ a2 →
      wp E 153 4 [.ref a0, .int (a1 + (nI 1)), .int (a2 + (nI 1))] [] s5 Q))))) : wp E 153 4 [.ref a0, .int a1, .int a2] [] s Q := vc_ok E 153 [4] Q 23 false 4 _ _ _ h
-- 154 CoatedBridgesModel.ofIslands(IZ)I
theorem sg154_0 {E : AEnv} {a0 : Nat} {a1 : Int32} {a2 : Int32} {s : ASt} {Q : Option Value → ASt → Prop} (h :
  wp E 154 5 [.ref a0, .int a1, .int a2, .int (nI 0), .int (nI 0)] [] s Q) : wp E 154 0 [.ref a0, .int a1, .int a2] [] s Q := vc_ok E 154 [5] Q 6 false 0 _ _ _ h
theorem sg154_5 {E : AEnv} {a0 : Nat} {a1 : Int32} {a2 : Int32} {a3 : Int32} {a4 : Int32} {s : ASt} {Q : Option Value → ASt → Prop} (h :
  sh s a0 6 15 ∧ ∃ r1, rf s a0 0 r1 ∧ ∃ n2, sh s r1 10 n2 ∧ vp_in (nI 1) n2 ∧ ((gI s r1 1) ≤ a4 →
    Q (some (.int a3)) s) ∧
  (¬ (gI s r1 1) ≤ a4 →
    sh s a0 6 15 ∧ cI E 100 [.ref a0, .int a4, .int a1] s (fun x4 s3 =>
    (a2 ≠ (nI 0) →
      (x4 ≤ a3 →
        wp E 154 5 [.ref a0, .int a1, .int a2, .int a3, .int (a4 + (nI 1))] [] s3 Q) ∧
      (¬ x4 ≤ a3 →
        wp E 154 5 [.ref a0, .int a1, .int a2, .int x4, .int (a4 + (nI 1))] [] s3 Q)) ∧
    (¬ a2 ≠ (nI 0) →
      wp E 154 5 [.ref a0, .int a1, .int a2, .int (a3 + x4), .int (a4 + (nI 1))] [] s3 Q)))) : wp E 154 5 [.ref a0, .int a1, .int a2, .int a3, .int a4] [] s Q := vc_ok E 154 [5] Q 23 false 5 _ _ _ h
