-- 155 CoatedBridgesModel.count(I)I
theorem sg155_0 {E : AEnv} {a0 : Nat} {a1 : Int32} {s : ASt} {Q : Option Value → ASt → Prop} (h :
  (a1 = (nI 0) →
    sh s a0 6 15 ∧ ∃ r45, rf s a0 0 r45 ∧ ∃ n46, sh s r45 10 n46 ∧ vp_in a1 n46 ∧ Q (some (.int (gI s r45 (a1).toNatClampNeg))) s) ∧
  (¬ a1 = (nI 0) →
   (a1 = (nI 1) →
    sh s a0 6 15 ∧ ∃ r43, rf s a0 0 r43 ∧ ∃ n44, sh s r43 10 n44 ∧ vp_in a1 n44 ∧ Q (some (.int (gI s r43 (a1).toNatClampNeg))) s) ∧
  (¬ a1 = (nI 1) →
   (a1 = (nI 2) →
    sh s a0 6 15 ∧ ∃ r41, rf s a0 0 r41 ∧ ∃ n42, sh s r41 10 n42 ∧ vp_in a1 n42 ∧ Q (some (.int (gI s r41 (a1).toNatClampNeg))) s) ∧
  (¬ a1 = (nI 2) →
   (a1 = (nI 3) →
    sh s a0 6 15 ∧ cI E 106 [.ref a0, .int (nI 0), .int (-1000004 : Int32)] s (fun x40 s39 =>
    Q (some (.int x40)) s39)) ∧
  (¬ a1 = (nI 3) →
   (a1 = (nI 4) →
    sh s a0 6 15 ∧ cI E 151 [.ref a0, .int (a1 - (nI 4))] s (fun x38 s37 =>
    Q (some (.int x38)) s37)) ∧
  (¬ a1 = (nI 4) →
   (a1 = (nI 5) →
    sh s a0 6 15 ∧ cI E 151 [.ref a0, .int (a1 - (nI 4))] s (fun x36 s35 =>
    Q (some (.int x36)) s35)) ∧
  (¬ a1 = (nI 5) →
   (a1 = (nI 6) →
    sh s a0 6 15 ∧ cI E 151 [.ref a0, .int (a1 - (nI 4))] s (fun x34 s33 =>
    Q (some (.int x34)) s33)) ∧
  (¬ a1 = (nI 6) →
   (a1 = (nI 7) →
    sh s a0 6 15 ∧ cI E 152 [.ref a0] s (fun x32 s31 =>
    Q (some (.int x32)) s31)) ∧
  (¬ a1 = (nI 7) →
   (a1 = (nI 8) →
    sh s a0 6 15 ∧ cI E 153 [.ref a0] s (fun x30 s29 =>
    Q (some (.int x30)) s29)) ∧
  (¬ a1 = (nI 8) →
   (a1 = (nI 9) →
    sh s a0 6 15 ∧ cI E 153 [.ref a0] s (fun x28 s27 =>
    Q (some (.int x28)) s27)) ∧
  (¬ a1 = (nI 9) →
   (a1 = (nI 10) →
    sh s a0 6 15 ∧ ∃ r19, rf s a0 0 r19 ∧ ∃ n20, sh s r19 10 n20 ∧ vp_in (nI 3) n20 ∧ sh s a0 6 15 ∧ cI E 108 [.ref a0] s (fun x22 s21 =>
    ((gI s r19 3) ≤ x22 →
      Q (some (.int (nI 0))) s21) ∧
    (¬ (gI s r19 3) ≤ x22 →
      sh s21 a0 6 15 ∧ ∃ r23, rf s21 a0 0 r23 ∧ ∃ n24, sh s21 r23 10 n24 ∧ vp_in (nI 3) n24 ∧ sh s21 a0 6 15 ∧ cI E 108 [.ref a0] s21 (fun x26 s25 =>
      Q (some (.int ((gI s21 r23 3) - x26))) s25)))) ∧
  (¬ a1 = (nI 10) →
   (a1 = (nI 11) →
    sh s a0 6 15 ∧ cI E 154 [.ref a0, .int (nI 2), .int (nI 0)] s (fun x18 s17 =>
    Q (some (.int x18)) s17)) ∧
  (¬ a1 = (nI 11) →
   (a1 = (nI 12) →
    sh s a0 6 15 ∧ cI E 154 [.ref a0, .int (nI 3), .int (nI 1)] s (fun x16 s15 =>
    Q (some (.int x16)) s15)) ∧
  (¬ a1 = (nI 12) →
   (a1 = (nI 13) →
    sh s a0 6 15 ∧ ∃ r13, rf s a0 0 r13 ∧ ∃ n14, sh s r13 10 n14 ∧ vp_in (((nI 11) + a1) - (nI 13)) n14 ∧ Q (some (.int (gI s r13 ((((nI 11) + a1) - (nI 13))).toNatClampNeg))) s) ∧
  (¬ a1 = (nI 13) →
   (a1 = (nI 14) →
    sh s a0 6 15 ∧ ∃ r11, rf s a0 0 r11 ∧ ∃ n12, sh s r11 10 n12 ∧ vp_in (((nI 11) + a1) - (nI 13)) n12 ∧ Q (some (.int (gI s r11 ((((nI 11) + a1) - (nI 13))).toNatClampNeg))) s) ∧
  (¬ a1 = (nI 14) →
   (a1 = (nI 15) →
    sh s a0 6 15 ∧ ∃ r9, rf s a0 0 r9 ∧ ∃ n10, sh s r9 10 n10 ∧ vp_in (((nI 11) + a1) - (nI 13)) n10 ∧ Q (some (.int (gI s r9 ((((nI 11) + a1) - (nI 13))).toNatClampNeg))) s) ∧
  (¬ a1 = (nI 15) →
   (a1 = (nI 16) →
    sh s a0 6 15 ∧ ∃ r7, rf s a0 0 r7 ∧ ∃ n8, sh s r7 10 n8 ∧ vp_in (((nI 11) + a1) - (nI 13)) n8 ∧ Q (some (.int (gI s r7 ((((nI 11) + a1) - (nI 13))).toNatClampNeg))) s) ∧
  (¬ a1 = (nI 16) →
   (a1 = (nI 17) →
    sh s a0 6 15 ∧ ∃ r5, rf s a0 0 r5 ∧ ∃ n6, sh s r5 10 n6 ∧ vp_in (((nI 11) + a1) - (nI 13)) n6 ∧ Q (some (.int (gI s r5 ((((nI 11) + a1) - (nI 13))).toNatClampNeg))) s) ∧
  (¬ a1 = (nI 17) →
   (a1 = (nI 18) →
    sh s a0 6 15 ∧ Q (some (.int (gI s a0 4))) s) ∧
  (¬ a1 = (nI 18) →
   (a1 = (nI 19) →
    sh s a0 6 15 ∧ Q (some (.int (gI s a0 6))) s) ∧
  (¬ a1 = (nI 19) →
   cI E 92 [.int a1, .int (nI 20), .int (nI 27)] s (fun x2 s1 =>
    (x2 = (nI 0) →
      Q (some (.int (-1000001 : Int32))) s1) ∧
    (¬ x2 = (nI 0) →
      sh s1 a0 6 15 ∧ ∃ r3, rf s1 a0 0 r3 ∧ ∃ n4, sh s1 r3 10 n4 ∧ vp_in (((nI 3) + a1) - (nI 20)) n4 ∧ Q (some (.int (gI s1 r3 ((((nI 3) + a1) - (nI 20))).toNatClampNeg))) s1))))))))))))))))))))))) : wp E 155 0 [.ref a0, .int a1] [] s Q := vc_ok E 155 [] Q 19 false 0 _ _ _ h
-- 156 CoatedBridgesModel.type(I)I
theorem sg156_0 {E : AEnv} {a0 : Nat} {a1 : Int32} {s : ASt} {Q : Option Value → ASt → Prop} (h :
  cI E 92 [.int a1, .int (nI 32), .int (nI 126)] s (fun x2 s1 =>
  (x2 ≠ (nI 0) →
    sh s1 a0 6 15 ∧ ((gI s1 a0 6) ≠ (nI 60) →
      sh s1 a0 6 15 ∧ ∃ r3, rf s1 a0 5 r3 ∧ sh s1 a0 6 15 ∧ ∃ n4, sh s1 r3 10 n4 ∧ vp_in (gI s1 a0 6) n4 ∧ nw (wrI s1 r3 ((gI s1 a0 6)).toNatClampNeg a1) (fun s5 =>
      sh s5 a0 6 15 ∧ sh s5 a0 6 15 ∧ nw (wrI s5 a0 6 ((gI s5 a0 6) + (nI 1))) (fun s6 =>
      sh s6 a0 6 15 ∧ Q (some (.int (gI s6 a0 6))) s6))) ∧
    (¬ (gI s1 a0 6) ≠ (nI 60) →
      Q (some (.int (-1000003 : Int32))) s1)) ∧
  (¬ x2 ≠ (nI 0) →
    Q (some (.int (-1000001 : Int32))) s1))) : wp E 156 0 [.ref a0, .int a1] [] s Q := vc_ok E 156 [] Q 25 false 0 _ _ _ h
-- 157 CoatedBridgesModel.clearText()I
theorem sg157_0 {E : AEnv} {a0 : Nat} {s : ASt} {Q : Option Value → ASt → Prop} (h :
  sh s a0 6 15 ∧ sh s a0 6 15 ∧ nw (wrI s a0 6 (nI 0)) (fun s1 =>
  Q (some (.int (gI s a0 6))) s1)) : wp E 157 0 [.ref a0] [] s Q := vc_ok E 157 [] Q 9 false 0 _ _ _ h
-- 158 CoatedBridgesModel.here()I
theorem sg158_0 {E : AEnv} {a0 : Nat} {s : ASt} {Q : Option Value → ASt → Prop} (h :
  sh s a0 6 15 ∧ sh s a0 6 15 ∧ ((gI s a0 6) ≤ (gI s a0 8) →
    Q (some (.int (nI 0))) s) ∧
  (¬ (gI s a0 6) ≤ (gI s a0 8) →
    sh s a0 6 15 ∧ ∃ r1, rf s a0 5 r1 ∧ sh s a0 6 15 ∧ ∃ n2, sh s r1 10 n2 ∧ vp_in (gI s a0 8) n2 ∧ Q (some (.int (gI s r1 ((gI s a0 8)).toNatClampNeg))) s)) : wp E 158 0 [.ref a0] [] s Q := vc_ok E 158 [] Q 13 false 0 _ _ _ h
-- 159 CoatedBridgesModel.takes(Z)V
theorem sg159_0 {E : AEnv} {a0 : Nat} {a1 : Int32} {s : ASt} {Q : Option Value → ASt → Prop} (h :
  sh s a0 6 15 ∧ ((gI s a0 10) = (nI 0) →
    sh s a0 6 15 ∧ fN .boolean (nI 0) = true ∧ nw (wrI s a0 10 (nI 0)) (fun s1 =>
    sh s1 a0 6 15 ∧ sh s1 a0 6 15 ∧ ((gI s1 a0 10) = (nI 0) →
      sh s1 a0 6 15 ∧ nw (wrI s1 a0 8 ((gI s1 a0 8) + (nI 0))) (fun s2 =>
      Q none s2)) ∧
    (¬ (gI s1 a0 10) = (nI 0) →
      sh s1 a0 6 15 ∧ nw (wrI s1 a0 8 ((gI s1 a0 8) + (nI 1))) (fun s3 =>
      Q none s3)))) ∧
  (¬ (gI s a0 10) = (nI 0) →
    (a1 = (nI 0) →
      sh s a0 6 15 ∧ fN .boolean (nI 0) = true ∧ nw (wrI s a0 10 (nI 0)) (fun s4 =>
      sh s4 a0 6 15 ∧ sh s4 a0 6 15 ∧ ((gI s4 a0 10) = (nI 0) →
        sh s4 a0 6 15 ∧ nw (wrI s4 a0 8 ((gI s4 a0 8) + (nI 0))) (fun s5 =>
        Q none s5)) ∧
      (¬ (gI s4 a0 10) = (nI 0) →
        sh s4 a0 6 15 ∧ nw (wrI s4 a0 8 ((gI s4 a0 8) + (nI 1))) (fun s6 =>
        Q none s6)))) ∧
    (¬ a1 = (nI 0) →
      sh s a0 6 15 ∧ fN .boolean (nI 1) = true ∧ nw (wrI s a0 10 (nI 1)) (fun s7 =>
      sh s7 a0 6 15 ∧ sh s7 a0 6 15 ∧ ((gI s7 a0 10) = (nI 0) →
        sh s7 a0 6 15 ∧ nw (wrI s7 a0 8 ((gI s7 a0 8) + (nI 0))) (fun s8 =>
        Q none s8)) ∧
      (¬ (gI s7 a0 10) = (nI 0) →
        sh s7 a0 6 15 ∧ nw (wrI s7 a0 8 ((gI s7 a0 8) + (nI 1))) (fun s9 =>
        Q none s9)))))) : wp E 159 0 [.ref a0, .int a1] [] s Q := vc_ok E 159 [] Q 21 false 0 _ _ _ h
-- 160 CoatedBridgesModel.takesNumber(I)V
theorem sg160_0 {E : AEnv} {a0 : Nat} {a1 : Int32} {s : ASt} {Q : Option Value → ASt → Prop} (h :
  wp E 160 4 [.ref a0, .int a1, .int (nI 0), .int (nI 0)] [] s Q) : wp E 160 0 [.ref a0, .int a1] [] s Q := vc_ok E 160 [4] Q 6 false 0 _ _ _ h
theorem sg160_4 {E : AEnv} {a0 : Nat} {a1 : Int32} {a2 : Int32} {a3 : Int32} {s : ASt} {Q : Option Value → ASt → Prop} (h :
  sh s a0 6 15 ∧ ((gI s a0 10) = (nI 0) →
    sh s a0 6 15 ∧ ((gI s a0 10) = (nI 0) →
      sh s a0 6 15 ∧ fN .boolean (nI 0) = true ∧ nw (wrI s a0 10 (nI 0)) (fun s1 =>
      sh s1 a0 6 15 ∧ ∃ r2, rf s1 a0 12 r2 ∧ ∃ n3, sh s1 r2 10 n3 ∧ vp_in a1 n3 ∧ nw (wrI s1 r2 (a1).toNatClampNeg a2) (fun s4 =>
      Q none s4))) ∧
    (¬ (gI s a0 10) = (nI 0) →
      (a3 ≤ (nI 0) →
        sh s a0 6 15 ∧ fN .boolean (nI 0) = true ∧ nw (wrI s a0 10 (nI 0)) (fun s5 =>
        sh s5 a0 6 15 ∧ ∃ r6, rf s5 a0 12 r6 ∧ ∃ n7, sh s5 r6 10 n7 ∧ vp_in a1 n7 ∧ nw (wrI s5 r6 (a1).toNatClampNeg a2) (fun s8 =>
        Q none s8))) ∧
      (¬ a3 ≤ (nI 0) →
        sh s a0 6 15 ∧ fN .boolean (nI 1) = true ∧ nw (wrI s a0 10 (nI 1)) (fun s9 =>
        sh s9 a0 6 15 ∧ ∃ r10, rf s9 a0 12 r10 ∧ ∃ n11, sh s9 r10 10 n11 ∧ vp_in a1 n11 ∧ nw (wrI s9 r10 (a1).toNatClampNeg a2) (fun s12 =>
        Q none s12))))) ∧
  (¬ (gI s a0 10) = (nI 0) →
    ((nI 3) ≤ a3 →
      sh s a0 6 15 ∧ ((gI s a0 10) = (nI 0) →
        sh s a0 6 15 ∧ fN .boolean (nI 0) = true ∧ nw (wrI s a0 10 (nI 0)) (fun s13 =>
        sh s13 a0 6 15 ∧ ∃ r14, rf s13 a0 12 r14 ∧ ∃ n15, sh s13 r14 10 n15 ∧ vp_in a1 n15 ∧ nw (wrI s13 r14 (a1).toNatClampNeg a2) (fun s16 =>
        Q none s16))) ∧
      (¬ (gI s a0 10) = (nI 0) →
        (a3 ≤ (nI 0) →
          sh s a0 6 15 ∧ fN .boolean (nI 0) = true ∧ nw (wrI s a0 10 (nI 0)) (fun s17 =>
          sh s17 a0 6 15 ∧ ∃ r18, rf s17 a0 12 r18 ∧ ∃ n19, sh s17 r18 10 n19 ∧ vp_in a1 n19 ∧ nw (wrI s17 r18 (a1).toNatClampNeg a2) (fun s20 =>
          Q none s20))) ∧
        (¬ a3 ≤ (nI 0) →
          sh s a0 6 15 ∧ fN .boolean (nI 1) = true ∧ nw (wrI s a0 10 (nI 1)) (fun s21 =>
          sh s21 a0 6 15 ∧ ∃ r22, rf s21 a0 12 r22 ∧ ∃ n23, sh s21 r22 10 n23 ∧ vp_in a1 n23 ∧ nw (wrI s21 r22 (a1).toNatClampNeg a2) (fun s24 =>
          Q none s24))))) ∧
    (¬ (nI 3) ≤ a3 →
      sh s a0 6 15 ∧ cI E 158 [.ref a0] s (fun x26 s25 =>
      cI E 92 [.int x26, .int (nI 48), .int (nI 57)] s25 (fun x28 s27 =>
      (x28 = (nI 0) →
        sh s27 a0 6 15 ∧ ((gI s27 a0 10) = (nI 0) →
          sh s27 a0 6 15 ∧ fN .boolean (nI 0) = true ∧ nw (wrI s27 a0 10 (nI 0)) (fun s29 =>
          sh s29 a0 6 15 ∧ ∃ r30, rf s29 a0 12 r30 ∧ ∃ n31, sh s29 r30 10 n31 ∧ vp_in a1 n31 ∧ nw (wrI s29 r30 (a1).toNatClampNeg a2) (fun s32 =>
          Q none s32))) ∧
        (¬ (gI s27 a0 10) = (nI 0) →
          (a3 ≤ (nI 0) →
            sh s27 a0 6 15 ∧ fN .boolean (nI 0) = true ∧ nw (wrI s27 a0 10 (nI 0)) (fun s33 =>
            sh s33 a0 6 15 ∧ ∃ r34, rf s33 a0 12 r34 ∧ ∃ n35, sh s33 r34 10 n35 ∧ vp_in a1 n35 ∧ nw (wrI s33 r34 (a1).toNatClampNeg a2) (fun s36 =>
            Q none s36))) ∧
          (¬ a3 ≤ (nI 0) →
            sh s27 a0 6 15 ∧ fN .boolean (nI 1) = true ∧ nw (wrI s27 a0 10 (nI 1)) (fun s37 =>
            sh s37 a0 6 15 ∧ ∃ r38, rf s37 a0 12 r38 ∧ ∃ n39, sh s37 r38 10 n39 ∧ vp_in a1 n39 ∧ nw (wrI s37 r38 (a1).toNatClampNeg a2) (fun s40 =>
            Q none s40))))) ∧
      (¬ x28 = (nI 0) →
        sh s27 a0 6 15 ∧ cI E 158 [.ref a0] s27 (fun x42 s41 =>
        sh s41 a0 6 15 ∧ sh s41 a0 6 15 ∧ nw (wrI s41 a0 8 ((gI s41 a0 8) + (nI 1))) (fun s43 =>
        wp E 160 4 [.ref a0, .int a1, .int ((((nI 10) * a2) + x42) - (nI 48)), .int (a3 + (nI 1))] [] s43 Q)))))))) : wp E 160 4 [.ref a0, .int a1, .int a2, .int a3] [] s Q := vc_ok E 160 [4] Q 31 false 4 _ _ _ h
-- 161 CoatedBridgesModel.takesOrder()V
theorem sg161_0 {E : AEnv} {a0 : Nat} {s : ASt} {Q : Option Value → ASt → Prop} (h :
  sh s a0 6 15 ∧ sh s a0 6 15 ∧ nw (wrI s a0 9 (gI s a0 8)) (fun s1 =>
  sh s1 a0 6 15 ∧ fN .boolean (nI 1) = true ∧ nw (wrI s1 a0 10 (nI 1)) (fun s2 =>
  sh s2 a0 6 15 ∧ cI E 158 [.ref a0] s2 (fun x4 s3 =>
  sh s3 a0 6 15 ∧ nw (wrI s3 a0 11 x4) (fun s5 =>
  sh s5 a0 6 15 ∧ ((gI s5 a0 11) = (nI 105) →
    sh s5 a0 6 15 ∧ cV E 159 [.ref a0, .int (nI 1)] s5 (fun s6 =>
    wp E 161 95 [.ref a0, .int (nI 0)] [] s6 Q)) ∧
  (¬ (gI s5 a0 11) = (nI 105) →
    sh s5 a0 6 15 ∧ ((gI s5 a0 11) = (nI 98) →
      sh s5 a0 6 15 ∧ cV E 159 [.ref a0, .int (nI 1)] s5 (fun s7 =>
      wp E 161 95 [.ref a0, .int (nI 0)] [] s7 Q)) ∧
    (¬ (gI s5 a0 11) = (nI 98) →
      sh s5 a0 6 15 ∧ ((gI s5 a0 11) = (nI 115) →
        sh s5 a0 6 15 ∧ cV E 159 [.ref a0, .int (nI 1)] s5 (fun s8 =>
        wp E 161 95 [.ref a0, .int (nI 0)] [] s8 Q)) ∧
      (¬ (gI s5 a0 11) = (nI 115) →
        sh s5 a0 6 15 ∧ ((gI s5 a0 11) = (nI 102) →
          sh s5 a0 6 15 ∧ cV E 159 [.ref a0, .int (nI 1)] s5 (fun s9 =>
          wp E 161 95 [.ref a0, .int (nI 0)] [] s9 Q)) ∧
        (¬ (gI s5 a0 11) = (nI 102) →
          sh s5 a0 6 15 ∧ ((gI s5 a0 11) = (nI 114) →
            sh s5 a0 6 15 ∧ cV E 159 [.ref a0, .int (nI 1)] s5 (fun s10 =>
            wp E 161 95 [.ref a0, .int (nI 0)] [] s10 Q)) ∧
          (¬ (gI s5 a0 11) = (nI 114) →
            sh s5 a0 6 15 ∧ ((gI s5 a0 11) = (nI 112) →
              sh s5 a0 6 15 ∧ cV E 159 [.ref a0, .int (nI 1)] s5 (fun s11 =>
              wp E 161 95 [.ref a0, .int (nI 0)] [] s11 Q)) ∧
            (¬ (gI s5 a0 11) = (nI 112) →
              sh s5 a0 6 15 ∧ ((gI s5 a0 11) ≠ (nI 100) →
                sh s5 a0 6 15 ∧ cV E 159 [.ref a0, .int (nI 0)] s5 (fun s12 =>
                wp E 161 95 [.ref a0, .int (nI 0)] [] s12 Q)) ∧
              (¬ (gI s5 a0 11) ≠ (nI 100) →
                sh s5 a0 6 15 ∧ cV E 159 [.ref a0, .int (nI 1)] s5 (fun s13 =>
                wp E 161 95 [.ref a0, .int (nI 0)] [] s13 Q))))))))))))) : wp E 161 0 [.ref a0] [] s Q := vc_ok E 161 [95] Q 47 false 0 _ _ _ h
theorem sg161_95 {E : AEnv} {a0 : Nat} {a1 : Int32} {s : ASt} {Q : Option Value → ASt → Prop} (h :
  sh s a0 6 15 ∧ ((gI s a0 11) ≠ (nI 98) →
    ((nI 1) ≤ a1 →
      sh s a0 6 15 ∧ cI E 158 [.ref a0] s (fun x2 s1 =>
      (x2 ≠ (nI 59) →
        sh s1 a0 6 15 ∧ cV E 159 [.ref a0, .int (nI 0)] s1 (fun s3 =>
        Q none s3)) ∧
      (¬ x2 ≠ (nI 59) →
        sh s1 a0 6 15 ∧ cV E 159 [.ref a0, .int (nI 1)] s1 (fun s4 =>
        Q none s4)))) ∧
    (¬ (nI 1) ≤ a1 →
      (a1 ≤ (nI 0) →
        sh s a0 6 15 ∧ cV E 160 [.ref a0, .int a1] s (fun s5 =>
        wp E 161 95 [.ref a0, .int (a1 + (nI 1))] [] s5 Q)) ∧
      (¬ a1 ≤ (nI 0) →
        sh s a0 6 15 ∧ cI E 158 [.ref a0] s (fun x7 s6 =>
        (x7 ≠ (nI 44) →
          sh s6 a0 6 15 ∧ cV E 159 [.ref a0, .int (nI 0)] s6 (fun s8 =>
          sh s8 a0 6 15 ∧ cV E 160 [.ref a0, .int a1] s8 (fun s9 =>
          wp E 161 95 [.ref a0, .int (a1 + (nI 1))] [] s9 Q))) ∧
        (¬ x7 ≠ (nI 44) →
          sh s6 a0 6 15 ∧ cV E 159 [.ref a0, .int (nI 1)] s6 (fun s10 =>
          sh s10 a0 6 15 ∧ cV E 160 [.ref a0, .int a1] s10 (fun s11 =>
          wp E 161 95 [.ref a0, .int (a1 + (nI 1))] [] s11 Q))))))) ∧
  (¬ (gI s a0 11) ≠ (nI 98) →
    ((nI 3) ≤ a1 →
      sh s a0 6 15 ∧ cI E 158 [.ref a0] s (fun x13 s12 =>
      (x13 ≠ (nI 59) →
        sh s12 a0 6 15 ∧ cV E 159 [.ref a0, .int (nI 0)] s12 (fun s14 =>
        Q none s14)) ∧
      (¬ x13 ≠ (nI 59) →
        sh s12 a0 6 15 ∧ cV E 159 [.ref a0, .int (nI 1)] s12 (fun s15 =>
        Q none s15)))) ∧
    (¬ (nI 3) ≤ a1 →
      (a1 ≤ (nI 0) →
        sh s a0 6 15 ∧ cV E 160 [.ref a0, .int a1] s (fun s16 =>
        wp E 161 95 [.ref a0, .int (a1 + (nI 1))] [] s16 Q)) ∧
      (¬ a1 ≤ (nI 0) →
        sh s a0 6 15 ∧ cI E 158 [.ref a0] s (fun x18 s17 =>
        (x18 ≠ (nI 44) →
          sh s17 a0 6 15 ∧ cV E 159 [.ref a0, .int (nI 0)] s17 (fun s19 =>
          sh s19 a0 6 15 ∧ cV E 160 [.ref a0, .int a1] s19 (fun s20 =>
          wp E 161 95 [.ref a0, .int (a1 + (nI 1))] [] s20 Q))) ∧
        (¬ x18 ≠ (nI 44) →
          sh s17 a0 6 15 ∧ cV E 159 [.ref a0, .int (nI 1)] s17 (fun s21 =>
          sh s21 a0 6 15 ∧ cV E 160 [.ref a0, .int a1] s21 (fun s22 =>
          wp E 161 95 [.ref a0, .int (a1 + (nI 1))] [] s22 Q)))))))) : wp E 161 95 [.ref a0, .int a1] [] s Q := vc_ok E 161 [95] Q 25 false 95 _ _ _ h
-- 162 CoatedBridgesModel.errorOfOrder()I
theorem sg162_0 {E : AEnv} {a0 : Nat} {s : ASt} {Q : Option Value → ASt → Prop} (h :
  sh s a0 6 15 ∧ ((gI s a0 11) = (nI 98) →
    sh s a0 6 15 ∧ ∃ r77, rf s a0 12 r77 ∧ ∃ n78, sh s r77 10 n78 ∧ vp_in (nI 0) n78 ∧ sh s a0 6 15 ∧ ∃ r79, rf s a0 12 r79 ∧ ∃ n80, sh s r79 10 n80 ∧ vp_in (nI 1) n80 ∧ sh s a0 6 15 ∧ ∃ r81, rf s a0 12 r81 ∧ ∃ n82, sh s r81 10 n82 ∧ vp_in (nI 2) n82 ∧ sh s a0 6 15 ∧ cI E 123 [.ref a0, .int (gI s r77 0), .int (gI s r79 1), .int (gI s r81 2)] s (fun x84 s83 =>
    Q (some (.int x84)) s83)) ∧
  (¬ (gI s a0 11) = (nI 98) →
   ((gI s a0 11) = (nI 99) →
    sh s a0 6 15 ∧ ∃ r73, rf s a0 12 r73 ∧ ∃ n74, sh s r73 10 n74 ∧ vp_in (nI 0) n74 ∧ sh s a0 6 15 ∧ cI E 127 [.ref a0, .int (gI s r73 0)] s (fun x76 s75 =>
    Q (some (.int x76)) s75)) ∧
  (¬ (gI s a0 11) = (nI 99) →
   ((gI s a0 11) = (nI 100) →
    sh s a0 6 15 ∧ ∃ r69, rf s a0 12 r69 ∧ ∃ n70, sh s r69 10 n70 ∧ vp_in (nI 0) n70 ∧ sh s a0 6 15 ∧ cI E 127 [.ref a0, .int (gI s r69 0)] s (fun x72 s71 =>
    Q (some (.int x72)) s71)) ∧
  (¬ (gI s a0 11) = (nI 100) →
   ((gI s a0 11) = (nI 101) →
    sh s a0 6 15 ∧ ∃ r65, rf s a0 12 r65 ∧ ∃ n66, sh s r65 10 n66 ∧ vp_in (nI 0) n66 ∧ sh s a0 6 15 ∧ cI E 127 [.ref a0, .int (gI s r65 0)] s (fun x68 s67 =>
    Q (some (.int x68)) s67)) ∧
  (¬ (gI s a0 11) = (nI 101) →
   ((gI s a0 11) = (nI 102) →
    sh s a0 6 15 ∧ ∃ r59, rf s a0 12 r59 ∧ ∃ n60, sh s r59 10 n60 ∧ vp_in (nI 0) n60 ∧ sh s a0 6 15 ∧ ((gI s a0 11) ≠ (nI 102) →
      sh s a0 6 15 ∧ cI E 124 [.ref a0, .int (gI s r59 0), .int (nI 0)] s (fun x62 s61 =>
      Q (some (.int x62)) s61)) ∧
    (¬ (gI s a0 11) ≠ (nI 102) →
      sh s a0 6 15 ∧ cI E 124 [.ref a0, .int (gI s r59 0), .int (nI 1)] s (fun x64 s63 =>
      Q (some (.int x64)) s63))) ∧
  (¬ (gI s a0 11) = (nI 102) →
   ((gI s a0 11) = (nI 103) →
    sh s a0 6 15 ∧ ∃ r55, rf s a0 12 r55 ∧ ∃ n56, sh s r55 10 n56 ∧ vp_in (nI 0) n56 ∧ sh s a0 6 15 ∧ cI E 127 [.ref a0, .int (gI s r55 0)] s (fun x58 s57 =>
    Q (some (.int x58)) s57)) ∧
  (¬ (gI s a0 11) = (nI 103) →
   ((gI s a0 11) = (nI 104) →
    sh s a0 6 15 ∧ ∃ r51, rf s a0 12 r51 ∧ ∃ n52, sh s r51 10 n52 ∧ vp_in (nI 0) n52 ∧ sh s a0 6 15 ∧ cI E 127 [.ref a0, .int (gI s r51 0)] s (fun x54 s53 =>
    Q (some (.int x54)) s53)) ∧
  (¬ (gI s a0 11) = (nI 104) →
   ((gI s a0 11) = (nI 105) →
    sh s a0 6 15 ∧ ∃ r47, rf s a0 12 r47 ∧ ∃ n48, sh s r47 10 n48 ∧ vp_in (nI 0) n48 ∧ sh s a0 6 15 ∧ cI E 122 [.ref a0, .int (gI s r47 0)] s (fun x50 s49 =>
    Q (some (.int x50)) s49)) ∧
  (¬ (gI s a0 11) = (nI 105) →
   ((gI s a0 11) = (nI 106) →
    sh s a0 6 15 ∧ ∃ r43, rf s a0 12 r43 ∧ ∃ n44, sh s r43 10 n44 ∧ vp_in (nI 0) n44 ∧ sh s a0 6 15 ∧ cI E 127 [.ref a0, .int (gI s r43 0)] s (fun x46 s45 =>
    Q (some (.int x46)) s45)) ∧
  (¬ (gI s a0 11) = (nI 106) →
   ((gI s a0 11) = (nI 107) →
    sh s a0 6 15 ∧ ∃ r39, rf s a0 12 r39 ∧ ∃ n40, sh s r39 10 n40 ∧ vp_in (nI 0) n40 ∧ sh s a0 6 15 ∧ cI E 127 [.ref a0, .int (gI s r39 0)] s (fun x42 s41 =>
    Q (some (.int x42)) s41)) ∧
  (¬ (gI s a0 11) = (nI 107) →
   ((gI s a0 11) = (nI 108) →
    sh s a0 6 15 ∧ ∃ r35, rf s a0 12 r35 ∧ ∃ n36, sh s r35 10 n36 ∧ vp_in (nI 0) n36 ∧ sh s a0 6 15 ∧ cI E 127 [.ref a0, .int (gI s r35 0)] s (fun x38 s37 =>
    Q (some (.int x38)) s37)) ∧
  (¬ (gI s a0 11) = (nI 108) →
   ((gI s a0 11) = (nI 109) →
    sh s a0 6 15 ∧ ∃ r31, rf s a0 12 r31 ∧ ∃ n32, sh s r31 10 n32 ∧ vp_in (nI 0) n32 ∧ sh s a0 6 15 ∧ cI E 127 [.ref a0, .int (gI s r31 0)] s (fun x34 s33 =>
    Q (some (.int x34)) s33)) ∧
  (¬ (gI s a0 11) = (nI 109) →
   ((gI s a0 11) = (nI 110) →
    sh s a0 6 15 ∧ ∃ r27, rf s a0 12 r27 ∧ ∃ n28, sh s r27 10 n28 ∧ vp_in (nI 0) n28 ∧ sh s a0 6 15 ∧ cI E 127 [.ref a0, .int (gI s r27 0)] s (fun x30 s29 =>
    Q (some (.int x30)) s29)) ∧
  (¬ (gI s a0 11) = (nI 110) →
   ((gI s a0 11) = (nI 111) →
    sh s a0 6 15 ∧ ∃ r23, rf s a0 12 r23 ∧ ∃ n24, sh s r23 10 n24 ∧ vp_in (nI 0) n24 ∧ sh s a0 6 15 ∧ cI E 127 [.ref a0, .int (gI s r23 0)] s (fun x26 s25 =>
    Q (some (.int x26)) s25)) ∧
  (¬ (gI s a0 11) = (nI 111) →
   ((gI s a0 11) = (nI 112) →
    sh s a0 6 15 ∧ ∃ r19, rf s a0 12 r19 ∧ ∃ n20, sh s r19 10 n20 ∧ vp_in (nI 0) n20 ∧ sh s a0 6 15 ∧ cI E 126 [.ref a0, .int (gI s r19 0)] s (fun x22 s21 =>
    Q (some (.int x22)) s21)) ∧
  (¬ (gI s a0 11) = (nI 112) →
   ((gI s a0 11) = (nI 113) →
    sh s a0 6 15 ∧ ∃ r15, rf s a0 12 r15 ∧ ∃ n16, sh s r15 10 n16 ∧ vp_in (nI 0) n16 ∧ sh s a0 6 15 ∧ cI E 127 [.ref a0, .int (gI s r15 0)] s (fun x18 s17 =>
    Q (some (.int x18)) s17)) ∧
  (¬ (gI s a0 11) = (nI 113) →
   ((gI s a0 11) = (nI 114) →
    sh s a0 6 15 ∧ ∃ r11, rf s a0 12 r11 ∧ ∃ n12, sh s r11 10 n12 ∧ vp_in (nI 0) n12 ∧ sh s a0 6 15 ∧ cI E 125 [.ref a0, .int (gI s r11 0)] s (fun x14 s13 =>
    Q (some (.int x14)) s13)) ∧
  (¬ (gI s a0 11) = (nI 114) →
   ((gI s a0 11) = (nI 115) →
    sh s a0 6 15 ∧ ∃ r5, rf s a0 12 r5 ∧ ∃ n6, sh s r5 10 n6 ∧ vp_in (nI 0) n6 ∧ sh s a0 6 15 ∧ ((gI s a0 11) ≠ (nI 102) →
      sh s a0 6 15 ∧ cI E 124 [.ref a0, .int (gI s r5 0), .int (nI 0)] s (fun x8 s7 =>
      Q (some (.int x8)) s7)) ∧
    (¬ (gI s a0 11) ≠ (nI 102) →
      sh s a0 6 15 ∧ cI E 124 [.ref a0, .int (gI s r5 0), .int (nI 1)] s (fun x10 s9 =>
      Q (some (.int x10)) s9))) ∧
  (¬ (gI s a0 11) = (nI 115) →
   sh s a0 6 15 ∧ ∃ r1, rf s a0 12 r1 ∧ ∃ n2, sh s r1 10 n2 ∧ vp_in (nI 0) n2 ∧ sh s a0 6 15 ∧ cI E 127 [.ref a0, .int (gI s r1 0)] s (fun x4 s3 =>
    Q (some (.int x4)) s3)))))))))))))))))))) : wp E 162 0 [.ref a0] [] s Q := vc_ok E 162 [] Q 19 false 0 _ _ _ h
-- 163 CoatedBridgesModel.doesOrder()I
theorem sg163_0 {E : AEnv} {a0 : Nat} {s : ASt} {Q : Option Value → ASt → Prop} (h :
  sh s a0 6 15 ∧ ((gI s a0 11) = (nI 98) →
    sh s a0 6 15 ∧ ∃ r73, rf s a0 12 r73 ∧ ∃ n74, sh s r73 10 n74 ∧ vp_in (nI 0) n74 ∧ sh s a0 6 15 ∧ ∃ r75, rf s a0 12 r75 ∧ ∃ n76, sh s r75 10 n76 ∧ vp_in (nI 1) n76 ∧ sh s a0 6 15 ∧ ∃ r77, rf s a0 12 r77 ∧ ∃ n78, sh s r77 10 n78 ∧ vp_in (nI 2) n78 ∧ sh s a0 6 15 ∧ cI E 112 [.ref a0, .int (gI s r73 0), .int (gI s r75 1), .int (gI s r77 2)] s (fun x80 s79 =>
    Q (some (.int x80)) s79)) ∧
  (¬ (gI s a0 11) = (nI 98) →
   ((gI s a0 11) = (nI 99) →
    sh s a0 6 15 ∧ ∃ r69, rf s a0 12 r69 ∧ ∃ n70, sh s r69 10 n70 ∧ vp_in (nI 0) n70 ∧ sh s a0 6 15 ∧ cI E 121 [.ref a0, .int (gI s r69 0)] s (fun x72 s71 =>
    Q (some (.int x72)) s71)) ∧
  (¬ (gI s a0 11) = (nI 99) →
   ((gI s a0 11) = (nI 100) →
    sh s a0 6 15 ∧ ∃ r65, rf s a0 12 r65 ∧ ∃ n66, sh s r65 10 n66 ∧ vp_in (nI 0) n66 ∧ sh s a0 6 15 ∧ cI E 121 [.ref a0, .int (gI s r65 0)] s (fun x68 s67 =>
    Q (some (.int x68)) s67)) ∧
  (¬ (gI s a0 11) = (nI 100) →
   ((gI s a0 11) = (nI 101) →
    sh s a0 6 15 ∧ ∃ r61, rf s a0 12 r61 ∧ ∃ n62, sh s r61 10 n62 ∧ vp_in (nI 0) n62 ∧ sh s a0 6 15 ∧ cI E 121 [.ref a0, .int (gI s r61 0)] s (fun x64 s63 =>
    Q (some (.int x64)) s63)) ∧
  (¬ (gI s a0 11) = (nI 101) →
   ((gI s a0 11) = (nI 102) →
    sh s a0 6 15 ∧ ∃ r57, rf s a0 12 r57 ∧ ∃ n58, sh s r57 10 n58 ∧ vp_in (nI 0) n58 ∧ sh s a0 6 15 ∧ cI E 113 [.ref a0, .int (gI s r57 0)] s (fun x60 s59 =>
    Q (some (.int x60)) s59)) ∧
  (¬ (gI s a0 11) = (nI 102) →
   ((gI s a0 11) = (nI 103) →
    sh s a0 6 15 ∧ ∃ r53, rf s a0 12 r53 ∧ ∃ n54, sh s r53 10 n54 ∧ vp_in (nI 0) n54 ∧ sh s a0 6 15 ∧ cI E 121 [.ref a0, .int (gI s r53 0)] s (fun x56 s55 =>
    Q (some (.int x56)) s55)) ∧
  (¬ (gI s a0 11) = (nI 103) →
   ((gI s a0 11) = (nI 104) →
    sh s a0 6 15 ∧ ∃ r49, rf s a0 12 r49 ∧ ∃ n50, sh s r49 10 n50 ∧ vp_in (nI 0) n50 ∧ sh s a0 6 15 ∧ cI E 121 [.ref a0, .int (gI s r49 0)] s (fun x52 s51 =>
    Q (some (.int x52)) s51)) ∧
  (¬ (gI s a0 11) = (nI 104) →
   ((gI s a0 11) = (nI 105) →
    sh s a0 6 15 ∧ ∃ r45, rf s a0 12 r45 ∧ ∃ n46, sh s r45 10 n46 ∧ vp_in (nI 0) n46 ∧ sh s a0 6 15 ∧ cI E 111 [.ref a0, .int (gI s r45 0)] s (fun x48 s47 =>
    Q (some (.int x48)) s47)) ∧
  (¬ (gI s a0 11) = (nI 105) →
   ((gI s a0 11) = (nI 106) →
    sh s a0 6 15 ∧ ∃ r41, rf s a0 12 r41 ∧ ∃ n42, sh s r41 10 n42 ∧ vp_in (nI 0) n42 ∧ sh s a0 6 15 ∧ cI E 121 [.ref a0, .int (gI s r41 0)] s (fun x44 s43 =>
    Q (some (.int x44)) s43)) ∧
  (¬ (gI s a0 11) = (nI 106) →
   ((gI s a0 11) = (nI 107) →
    sh s a0 6 15 ∧ ∃ r37, rf s a0 12 r37 ∧ ∃ n38, sh s r37 10 n38 ∧ vp_in (nI 0) n38 ∧ sh s a0 6 15 ∧ cI E 121 [.ref a0, .int (gI s r37 0)] s (fun x40 s39 =>
    Q (some (.int x40)) s39)) ∧
  (¬ (gI s a0 11) = (nI 107) →
   ((gI s a0 11) = (nI 108) →
    sh s a0 6 15 ∧ ∃ r33, rf s a0 12 r33 ∧ ∃ n34, sh s r33 10 n34 ∧ vp_in (nI 0) n34 ∧ sh s a0 6 15 ∧ cI E 121 [.ref a0, .int (gI s r33 0)] s (fun x36 s35 =>
    Q (some (.int x36)) s35)) ∧
  (¬ (gI s a0 11) = (nI 108) →
   ((gI s a0 11) = (nI 109) →
    sh s a0 6 15 ∧ ∃ r29, rf s a0 12 r29 ∧ ∃ n30, sh s r29 10 n30 ∧ vp_in (nI 0) n30 ∧ sh s a0 6 15 ∧ cI E 121 [.ref a0, .int (gI s r29 0)] s (fun x32 s31 =>
    Q (some (.int x32)) s31)) ∧
  (¬ (gI s a0 11) = (nI 109) →
   ((gI s a0 11) = (nI 110) →
    sh s a0 6 15 ∧ ∃ r25, rf s a0 12 r25 ∧ ∃ n26, sh s r25 10 n26 ∧ vp_in (nI 0) n26 ∧ sh s a0 6 15 ∧ cI E 121 [.ref a0, .int (gI s r25 0)] s (fun x28 s27 =>
    Q (some (.int x28)) s27)) ∧
  (¬ (gI s a0 11) = (nI 110) →
   ((gI s a0 11) = (nI 111) →
    sh s a0 6 15 ∧ ∃ r21, rf s a0 12 r21 ∧ ∃ n22, sh s r21 10 n22 ∧ vp_in (nI 0) n22 ∧ sh s a0 6 15 ∧ cI E 121 [.ref a0, .int (gI s r21 0)] s (fun x24 s23 =>
    Q (some (.int x24)) s23)) ∧
  (¬ (gI s a0 11) = (nI 111) →
   ((gI s a0 11) = (nI 112) →
    sh s a0 6 15 ∧ ∃ r17, rf s a0 12 r17 ∧ ∃ n18, sh s r17 10 n18 ∧ vp_in (nI 0) n18 ∧ sh s a0 6 15 ∧ cI E 115 [.ref a0, .int (gI s r17 0)] s (fun x20 s19 =>
    Q (some (.int x20)) s19)) ∧
  (¬ (gI s a0 11) = (nI 112) →
   ((gI s a0 11) = (nI 113) →
    sh s a0 6 15 ∧ ∃ r13, rf s a0 12 r13 ∧ ∃ n14, sh s r13 10 n14 ∧ vp_in (nI 0) n14 ∧ sh s a0 6 15 ∧ cI E 121 [.ref a0, .int (gI s r13 0)] s (fun x16 s15 =>
    Q (some (.int x16)) s15)) ∧
  (¬ (gI s a0 11) = (nI 113) →
   ((gI s a0 11) = (nI 114) →
    sh s a0 6 15 ∧ ∃ r9, rf s a0 12 r9 ∧ ∃ n10, sh s r9 10 n10 ∧ vp_in (nI 0) n10 ∧ sh s a0 6 15 ∧ cI E 114 [.ref a0, .int (gI s r9 0)] s (fun x12 s11 =>
    Q (some (.int x12)) s11)) ∧
  (¬ (gI s a0 11) = (nI 114) →
   ((gI s a0 11) = (nI 115) →
    sh s a0 6 15 ∧ ∃ r5, rf s a0 12 r5 ∧ ∃ n6, sh s r5 10 n6 ∧ vp_in (nI 0) n6 ∧ sh s a0 6 15 ∧ cI E 113 [.ref a0, .int (gI s r5 0)] s (fun x8 s7 =>
    Q (some (.int x8)) s7)) ∧
  (¬ (gI s a0 11) = (nI 115) →
   sh s a0 6 15 ∧ ∃ r1, rf s a0 12 r1 ∧ ∃ n2, sh s r1 10 n2 ∧ vp_in (nI 0) n2 ∧ sh s a0 6 15 ∧ cI E 121 [.ref a0, .int (gI s r1 0)] s (fun x4 s3 =>
    Q (some (.int x4)) s3)))))))))))))))))))) : wp E 163 0 [.ref a0] [] s Q := vc_ok E 163 [] Q 19 false 0 _ _ _ h
-- 164 CoatedBridgesModel.doesAll()I
theorem sg164_0 {E : AEnv} {a0 : Nat} {s : ASt} {Q : Option Value → ASt → Prop} (h :
  sh s a0 6 15 ∧ nw (wrI s a0 13 (nI 0)) (fun s1 =>
  sh s1 a0 6 15 ∧ nw (wrI s1 a0 8 (nI 0)) (fun s2 =>
  wp E 164 12 [.ref a0, .int (nI 0)] [] s2 Q))) : wp E 164 0 [.ref a0] [] s Q := vc_ok E 164 [12] Q 10 false 0 _ _ _ h
theorem sg164_12 {E : AEnv} {a0 : Nat} {a1 : Int32} {s : ASt} {Q : Option Value → ASt → Prop} (h :
  sh s a0 6 15 ∧ ((gI s a0 13) ≠ (nI 0) →
    Q (some (.int a1)) s) ∧
  (¬ (gI s a0 13) ≠ (nI 0) →
    sh s a0 6 15 ∧ sh s a0 6 15 ∧ ((gI s a0 6) ≤ (gI s a0 8) →
      Q (some (.int a1)) s) ∧
    (¬ (gI s a0 6) ≤ (gI s a0 8) →
      sh s a0 6 15 ∧ cV E 161 [.ref a0] s (fun s1 =>
      sh s1 a0 6 15 ∧ ((gI s1 a0 10) = (nI 0) →
        sh s1 a0 6 15 ∧ ((gI s1 a0 10) = (nI 0) →
          sh s1 a0 6 15 ∧ ((gI s1 a0 10) = (nI 0) →
            sh s1 a0 6 15 ∧ nw (wrI s1 a0 13 (nI 1)) (fun s2 =>
            sh s2 a0 6 15 ∧ ((gI s2 a0 10) = (nI 0) →
              sh s2 a0 6 15 ∧ sh s2 a0 6 15 ∧ sh s2 a0 6 15 ∧ nw (wrI s2 a0 14 ((gI s2 a0 8) - (gI s2 a0 9))) (fun s3 =>
              wp E 164 12 [.ref a0, .int a1] [] s3 Q)) ∧
            (¬ (gI s2 a0 10) = (nI 0) →
              sh s2 a0 6 15 ∧ nw (wrI s2 a0 14 (nI 0)) (fun s4 =>
              wp E 164 12 [.ref a0, .int a1] [] s4 Q)))) ∧
          (¬ (gI s1 a0 10) = (nI 0) →
            sh s1 a0 6 15 ∧ nw (wrI s1 a0 13 (nI 2)) (fun s5 =>
            sh s5 a0 6 15 ∧ ((gI s5 a0 10) = (nI 0) →
              sh s5 a0 6 15 ∧ sh s5 a0 6 15 ∧ sh s5 a0 6 15 ∧ nw (wrI s5 a0 14 ((gI s5 a0 8) - (gI s5 a0 9))) (fun s6 =>
              wp E 164 12 [.ref a0, .int a1] [] s6 Q)) ∧
            (¬ (gI s5 a0 10) = (nI 0) →
              sh s5 a0 6 15 ∧ nw (wrI s5 a0 14 (nI 0)) (fun s7 =>
              wp E 164 12 [.ref a0, .int a1] [] s7 Q))))) ∧
        (¬ (gI s1 a0 10) = (nI 0) →
          ((nI 0) ≤ (nI 0) →
            sh s1 a0 6 15 ∧ cI E 163 [.ref a0] s1 (fun x9 s8 =>
            wp E 164 12 [.ref a0, .int (a1 + (nI 1))] [] s8 Q)) ∧
          (¬ (nI 0) ≤ (nI 0) →
            sh s1 a0 6 15 ∧ ((gI s1 a0 10) = (nI 0) →
              sh s1 a0 6 15 ∧ nw (wrI s1 a0 13 (nI 1)) (fun s10 =>
              sh s10 a0 6 15 ∧ ((gI s10 a0 10) = (nI 0) →
                sh s10 a0 6 15 ∧ sh s10 a0 6 15 ∧ sh s10 a0 6 15 ∧ nw (wrI s10 a0 14 ((gI s10 a0 8) - (gI s10 a0 9))) (fun s11 =>
                wp E 164 12 [.ref a0, .int a1] [] s11 Q)) ∧
              (¬ (gI s10 a0 10) = (nI 0) →
                sh s10 a0 6 15 ∧ nw (wrI s10 a0 14 (nI 0)) (fun s12 =>
                wp E 164 12 [.ref a0, .int a1] [] s12 Q)))) ∧
            (¬ (gI s1 a0 10) = (nI 0) →
              sh s1 a0 6 15 ∧ nw (wrI s1 a0 13 (nI 2)) (fun s13 =>
              sh s13 a0 6 15 ∧ ((gI s13 a0 10) = (nI 0) →
                sh s13 a0 6 15 ∧ sh s13 a0 6 15 ∧ sh s13 a0 6 15 ∧ nw (wrI s13 a0 14 ((gI s13 a0 8) - (gI s13 a0 9))) (fun s14 =>
                wp E 164 12 [.ref a0, .int a1] [] s14 Q)) ∧
              (¬ (gI s13 a0 10) = (nI 0) →
                sh s13 a0 6 15 ∧ nw (wrI s13 a0 14 (nI 0)) (fun s15 =>
                wp E 164 12 [.ref a0, .int a1] [] s15 Q))))))) ∧
      (¬ (gI s1 a0 10) = (nI 0) →
        sh s1 a0 6 15 ∧ cI E 162 [.ref a0] s1 (fun x17 s16 =>
        sh s16 a0 6 15 ∧ ((gI s16 a0 10) = (nI 0) →
          sh s16 a0 6 15 ∧ ((gI s16 a0 10) = (nI 0) →
            sh s16 a0 6 15 ∧ nw (wrI s16 a0 13 (nI 1)) (fun s18 =>
            sh s18 a0 6 15 ∧ ((gI s18 a0 10) = (nI 0) →
              sh s18 a0 6 15 ∧ sh s18 a0 6 15 ∧ sh s18 a0 6 15 ∧ nw (wrI s18 a0 14 ((gI s18 a0 8) - (gI s18 a0 9))) (fun s19 =>
              wp E 164 12 [.ref a0, .int a1] [] s19 Q)) ∧
            (¬ (gI s18 a0 10) = (nI 0) →
              sh s18 a0 6 15 ∧ nw (wrI s18 a0 14 x17) (fun s20 =>
              wp E 164 12 [.ref a0, .int a1] [] s20 Q)))) ∧
          (¬ (gI s16 a0 10) = (nI 0) →
            sh s16 a0 6 15 ∧ nw (wrI s16 a0 13 (nI 2)) (fun s21 =>
            sh s21 a0 6 15 ∧ ((gI s21 a0 10) = (nI 0) →
              sh s21 a0 6 15 ∧ sh s21 a0 6 15 ∧ sh s21 a0 6 15 ∧ nw (wrI s21 a0 14 ((gI s21 a0 8) - (gI s21 a0 9))) (fun s22 =>
              wp E 164 12 [.ref a0, .int a1] [] s22 Q)) ∧
            (¬ (gI s21 a0 10) = (nI 0) →
              sh s21 a0 6 15 ∧ nw (wrI s21 a0 14 x17) (fun s23 =>
              wp E 164 12 [.ref a0, .int a1] [] s23 Q))))) ∧
        (¬ (gI s16 a0 10) = (nI 0) →
          ((nI 0) ≤ x17 →
            sh s16 a0 6 15 ∧ cI E 163 [.ref a0] s16 (fun x25 s24 =>
            wp E 164 12 [.ref a0, .int (a1 + (nI 1))] [] s24 Q)) ∧
          (¬ (nI 0) ≤ x17 →
            sh s16 a0 6 15 ∧ ((gI s16 a0 10) = (nI 0) →
              sh s16 a0 6 15 ∧ nw (wrI s16 a0 13 (nI 1)) (fun s26 =>
              sh s26 a0 6 15 ∧ ((gI s26 a0 10) = (nI 0) →
                sh s26 a0 6 15 ∧ sh s26 a0 6 15 ∧ sh s26 a0 6 15 ∧ nw (wrI s26 a0 14 ((gI s26 a0 8) - (gI s26 a0 9))) (fun s27 =>
                wp E 164 12 [.ref a0, .int a1] [] s27 Q)) ∧
              (¬ (gI s26 a0 10) = (nI 0) →
                sh s26 a0 6 15 ∧ nw (wrI s26 a0 14 x17) (fun s28 =>
                wp E 164 12 [.ref a0, .int a1] [] s28 Q)))) ∧
            (¬ (gI s16 a0 10) = (nI 0) →
              sh s16 a0 6 15 ∧ nw (wrI s16 a0 13 (nI 2)) (fun s29 =>
              sh s29 a0 6 15 ∧ ((gI s29 a0 10) = (nI 0) →
                sh s29 a0 6 15 ∧ sh s29 a0 6 15 ∧ sh s29 a0 6 15 ∧ nw (wrI s29 a0 14 ((gI s29 a0 8) - (gI s29 a0 9))) (fun s30 =>
                wp E 164 12 [.ref a0, .int a1] [] s30 Q)) ∧
              (¬ (gI s29 a0 10) = (nI 0) →
                sh s29 a0 6 15 ∧ nw (wrI s29 a0 14 x17) (fun s31 =>
                wp E 164 12 [.ref a0, .int a1] [] s31 Q)))))))))))) : wp E 164 12 [.ref a0, .int a1] [] s Q := vc_ok E 164 [12] Q 43 false 12 _ _ _ h
-- 165 CoatedBridgesModel.fault(I)I
theorem sg165_0 {E : AEnv} {a0 : Nat} {a1 : Int32} {s : ASt} {Q : Option Value → ASt → Prop} (h :
  cI E 92 [.int a1, .int (nI 0), .int (nI 2)] s (fun x2 s1 =>
  (x2 ≠ (nI 0) →
    sh s1 a0 6 15 ∧ ∃ r3, rf s1 a0 0 r3 ∧ sh s1 a0 6 15 ∧ ∃ r4, rf s1 a0 2 r4 ∧ cV E 93 [.ref r3, .int (nI 0), .ref r4, .int (nI 0)] s1 (fun s5 =>
    sh s5 a0 6 15 ∧ cI E 164 [.ref a0] s5 (fun x7 s6 =>
    sh s6 a0 6 15 ∧ ∃ r8, rf s6 a0 2 r8 ∧ sh s6 a0 6 15 ∧ ∃ r9, rf s6 a0 0 r9 ∧ cV E 93 [.ref r8, .int (nI 0), .ref r9, .int (nI 0)] s6 (fun s10 =>
    sh s10 a0 6 15 ∧ ((gI s10 a0 13) ≠ (nI 0) →
      (a1 ≠ (nI 0) →
        (a1 ≠ (nI 1) →
          sh s10 a0 6 15 ∧ Q (some (.int (gI s10 a0 14))) s10) ∧
        (¬ a1 ≠ (nI 1) →
          sh s10 a0 6 15 ∧ Q (some (.int (gI s10 a0 13))) s10)) ∧
      (¬ a1 ≠ (nI 0) →
        sh s10 a0 6 15 ∧ Q (some (.int (gI s10 a0 9))) s10)) ∧
    (¬ (gI s10 a0 13) ≠ (nI 0) →
      Q (some (.int (-1000004 : Int32))) s10))))) ∧
  (¬ x2 ≠ (nI 0) →
    Q (some (.int (-1000001 : Int32))) s1))) : wp E 165 0 [.ref a0, .int a1] [] s Q := vc_ok E 165 [] Q 35 false 0 _ _ _ h
-- 166 CoatedBridgesModel.play()I
theorem sg166_0 {E : AEnv} {a0 : Nat} {s : ASt} {Q : Option Value → ASt → Prop} (h :
  sh s a0 6 15 ∧ ∃ r1, rf s a0 0 r1 ∧ sh s a0 6 15 ∧ ∃ r2, rf s a0 2 r2 ∧ cV E 93 [.ref r1, .int (nI 0), .ref r2, .int (nI 0)] s (fun s3 =>
  sh s3 a0 6 15 ∧ cI E 164 [.ref a0] s3 (fun x5 s4 =>
  sh s4 a0 6 15 ∧ ∃ r6, rf s4 a0 2 r6 ∧ sh s4 a0 6 15 ∧ ∃ r7, rf s4 a0 0 r7 ∧ cV E 93 [.ref r6, .int (nI 0), .ref r7, .int (nI 0)] s4 (fun s8 =>
  sh s8 a0 6 15 ∧ ((gI s8 a0 13) ≤ (nI 0) →
    sh s8 a0 6 15 ∧ cV E 94 [.ref a0] s8 (fun s9 =>
    sh s9 a0 6 15 ∧ cI E 164 [.ref a0] s9 (fun x11 s10 =>
    Q (some (.int x11)) s10))) ∧
  (¬ (gI s8 a0 13) ≤ (nI 0) →
    Q (some (.int (-1000002 : Int32))) s8))))) : wp E 166 0 [.ref a0] [] s Q := vc_ok E 166 [] Q 28 false 0 _ _ _ h
-- 167 java/lang/Float.isNaN(F)Z
theorem sg167_0 {E : AEnv} {a0 : UInt32} {s : ASt} {Q : Option Value → ASt → Prop} (h :
  ((Op.cmpValue (FP.fcmp a0 a0) .l) = (nI 0) →
    fN .boolean (nI 0) = true ∧ Q (some (.int (nI 0))) s) ∧
  (¬ (Op.cmpValue (FP.fcmp a0 a0) .l) = (nI 0) →
    fN .boolean (nI 1) = true ∧ Q (some (.int (nI 1))) s)) : wp E 167 0 [.float a0] [] s Q := vc_ok E 167 [] Q 8 false 0 _ _ _ h
-- 168 java/lang/Float.floatToIntBits(F)I
theorem sg168_0 {E : AEnv} {a0 : UInt32} {s : ASt} {Q : Option Value → ASt → Prop} (h :
  cI E 167 [.float a0] s (fun x2 s1 =>
  (x2 ≠ (nI 0) →
    Q (some (.int (nI 2143289344))) s1) ∧
  (¬ x2 ≠ (nI 0) →
    Q (some (.int (a0).toInt32)) s1))) : wp E 168 0 [.float a0] [] s Q := vc_ok E 168 [] Q 7 false 0 _ _ _ h
-- 169 java/lang/Integer.numberOfTrailingZeros(I)I
theorem sg169_0 {E : AEnv} {a0 : Int32} {s : ASt} {Q : Option Value → ASt → Prop} (h :
  ((nI 0) < ((a0 ^^^ (-1 : Int32)) &&& (a0 - (nI 1))) →
    (((a0 ^^^ (-1 : Int32)) &&& (a0 - (nI 1))) ≤ (nI 65536) →
      (((a0 ^^^ (-1 : Int32)) &&& (a0 - (nI 1))) ≤ (nI 256) →
        (((a0 ^^^ (-1 : Int32)) &&& (a0 - (nI 1))) ≤ (nI 16) →
          (((a0 ^^^ (-1 : Int32)) &&& (a0 - (nI 1))) ≤ (nI 4) →
            Q (some (.int ((nI 1) + ((((a0 ^^^ (-1 : Int32)) &&& (a0 - (nI 1)))).toUInt32 >>> (((nI 1)).toUInt32 &&& Int32.toUInt32 31)).toInt32))) s) ∧
          (¬ ((a0 ^^^ (-1 : Int32)) &&& (a0 - (nI 1))) ≤ (nI 4) →
            Q (some (.int (((nI 1) + (nI 2)) + ((((((a0 ^^^ (-1 : Int32)) &&& (a0 - (nI 1)))).toUInt32 >>> (((nI 2)).toUInt32 &&& Int32.toUInt32 31)).toInt32).toUInt32 >>> (((nI 1)).toUInt32 &&& Int32.toUInt32 31)).toInt32))) s)) ∧
        (¬ ((a0 ^^^ (-1 : Int32)) &&& (a0 - (nI 1))) ≤ (nI 16) →
          (((((a0 ^^^ (-1 : Int32)) &&& (a0 - (nI 1)))).toUInt32 >>> (((nI 4)).toUInt32 &&& Int32.toUInt32 31)).toInt32 ≤ (nI 4) →
            Q (some (.int (((nI 1) + (nI 4)) + ((((((a0 ^^^ (-1 : Int32)) &&& (a0 - (nI 1)))).toUInt32 >>> (((nI 4)).toUInt32 &&& Int32.toUInt32 31)).toInt32).toUInt32 >>> (((nI 1)).toUInt32 &&& Int32.toUInt32 31)).toInt32))) s) ∧
          (¬ ((((a0 ^^^ (-1 : Int32)) &&& (a0 - (nI 1)))).toUInt32 >>> (((nI 4)).toUInt32 &&& Int32.toUInt32 31)).toInt32 ≤ (nI 4) →
            Q (some (.int ((((nI 1) + (nI 4)) + (nI 2)) + ((((((((a0 ^^^ (-1 : Int32)) &&& (a0 - (nI 1)))).toUInt32 >>> (((nI 4)).toUInt32 &&& Int32.toUInt32 31)).toInt32).toUInt32 >>> (((nI 2)).toUInt32 &&& Int32.toUInt32 31)).toInt32).toUInt32 >>> (((nI 1)).toUInt32 &&& Int32.toUInt32 31)).toInt32))) s))) ∧
      (¬ ((a0 ^^^ (-1 : Int32)) &&& (a0 - (nI 1))) ≤ (nI 256) →
        (((((a0 ^^^ (-1 : Int32)) &&& (a0 - (nI 1)))).toUInt32 >>> (((nI 8)).toUInt32 &&& Int32.toUInt32 31)).toInt32 ≤ (nI 16) →
          (((((a0 ^^^ (-1 : Int32)) &&& (a0 - (nI 1)))).toUInt32 >>> (((nI 8)).toUInt32 &&& Int32.toUInt32 31)).toInt32 ≤ (nI 4) →
            Q (some (.int (((nI 1) + (nI 8)) + ((((((a0 ^^^ (-1 : Int32)) &&& (a0 - (nI 1)))).toUInt32 >>> (((nI 8)).toUInt32 &&& Int32.toUInt32 31)).toInt32).toUInt32 >>> (((nI 1)).toUInt32 &&& Int32.toUInt32 31)).toInt32))) s) ∧
          (¬ ((((a0 ^^^ (-1 : Int32)) &&& (a0 - (nI 1)))).toUInt32 >>> (((nI 8)).toUInt32 &&& Int32.toUInt32 31)).toInt32 ≤ (nI 4) →
            Q (some (.int ((((nI 1) + (nI 8)) + (nI 2)) + ((((((((a0 ^^^ (-1 : Int32)) &&& (a0 - (nI 1)))).toUInt32 >>> (((nI 8)).toUInt32 &&& Int32.toUInt32 31)).toInt32).toUInt32 >>> (((nI 2)).toUInt32 &&& Int32.toUInt32 31)).toInt32).toUInt32 >>> (((nI 1)).toUInt32 &&& Int32.toUInt32 31)).toInt32))) s)) ∧
        (¬ ((((a0 ^^^ (-1 : Int32)) &&& (a0 - (nI 1)))).toUInt32 >>> (((nI 8)).toUInt32 &&& Int32.toUInt32 31)).toInt32 ≤ (nI 16) →
          (((((((a0 ^^^ (-1 : Int32)) &&& (a0 - (nI 1)))).toUInt32 >>> (((nI 8)).toUInt32 &&& Int32.toUInt32 31)).toInt32).toUInt32 >>> (((nI 4)).toUInt32 &&& Int32.toUInt32 31)).toInt32 ≤ (nI 4) →
            Q (some (.int ((((nI 1) + (nI 8)) + (nI 4)) + ((((((((a0 ^^^ (-1 : Int32)) &&& (a0 - (nI 1)))).toUInt32 >>> (((nI 8)).toUInt32 &&& Int32.toUInt32 31)).toInt32).toUInt32 >>> (((nI 4)).toUInt32 &&& Int32.toUInt32 31)).toInt32).toUInt32 >>> (((nI 1)).toUInt32 &&& Int32.toUInt32 31)).toInt32))) s) ∧
          (¬ ((((((a0 ^^^ (-1 : Int32)) &&& (a0 - (nI 1)))).toUInt32 >>> (((nI 8)).toUInt32 &&& Int32.toUInt32 31)).toInt32).toUInt32 >>> (((nI 4)).toUInt32 &&& Int32.toUInt32 31)).toInt32 ≤ (nI 4) →
            Q (some (.int (((((nI 1) + (nI 8)) + (nI 4)) + (nI 2)) + ((((((((((a0 ^^^ (-1 : Int32)) &&& (a0 - (nI 1)))).toUInt32 >>> (((nI 8)).toUInt32 &&& Int32.toUInt32 31)).toInt32).toUInt32 >>> (((nI 4)).toUInt32 &&& Int32.toUInt32 31)).toInt32).toUInt32 >>> (((nI 2)).toUInt32 &&& Int32.toUInt32 31)).toInt32).toUInt32 >>> (((nI 1)).toUInt32 &&& Int32.toUInt32 31)).toInt32))) s)))) ∧
    (¬ ((a0 ^^^ (-1 : Int32)) &&& (a0 - (nI 1))) ≤ (nI 65536) →
      (((((a0 ^^^ (-1 : Int32)) &&& (a0 - (nI 1)))).toUInt32 >>> (((nI 16)).toUInt32 &&& Int32.toUInt32 31)).toInt32 ≤ (nI 256) →
        (((((a0 ^^^ (-1 : Int32)) &&& (a0 - (nI 1)))).toUInt32 >>> (((nI 16)).toUInt32 &&& Int32.toUInt32 31)).toInt32 ≤ (nI 16) →
          (((((a0 ^^^ (-1 : Int32)) &&& (a0 - (nI 1)))).toUInt32 >>> (((nI 16)).toUInt32 &&& Int32.toUInt32 31)).toInt32 ≤ (nI 4) →
            Q (some (.int (((nI 1) + (nI 16)) + ((((((a0 ^^^ (-1 : Int32)) &&& (a0 - (nI 1)))).toUInt32 >>> (((nI 16)).toUInt32 &&& Int32.toUInt32 31)).toInt32).toUInt32 >>> (((nI 1)).toUInt32 &&& Int32.toUInt32 31)).toInt32))) s) ∧
          (¬ ((((a0 ^^^ (-1 : Int32)) &&& (a0 - (nI 1)))).toUInt32 >>> (((nI 16)).toUInt32 &&& Int32.toUInt32 31)).toInt32 ≤ (nI 4) →
            Q (some (.int ((((nI 1) + (nI 16)) + (nI 2)) + ((((((((a0 ^^^ (-1 : Int32)) &&& (a0 - (nI 1)))).toUInt32 >>> (((nI 16)).toUInt32 &&& Int32.toUInt32 31)).toInt32).toUInt32 >>> (((nI 2)).toUInt32 &&& Int32.toUInt32 31)).toInt32).toUInt32 >>> (((nI 1)).toUInt32 &&& Int32.toUInt32 31)).toInt32))) s)) ∧
        (¬ ((((a0 ^^^ (-1 : Int32)) &&& (a0 - (nI 1)))).toUInt32 >>> (((nI 16)).toUInt32 &&& Int32.toUInt32 31)).toInt32 ≤ (nI 16) →
          (((((((a0 ^^^ (-1 : Int32)) &&& (a0 - (nI 1)))).toUInt32 >>> (((nI 16)).toUInt32 &&& Int32.toUInt32 31)).toInt32).toUInt32 >>> (((nI 4)).toUInt32 &&& Int32.toUInt32 31)).toInt32 ≤ (nI 4) →
            Q (some (.int ((((nI 1) + (nI 16)) + (nI 4)) + ((((((((a0 ^^^ (-1 : Int32)) &&& (a0 - (nI 1)))).toUInt32 >>> (((nI 16)).toUInt32 &&& Int32.toUInt32 31)).toInt32).toUInt32 >>> (((nI 4)).toUInt32 &&& Int32.toUInt32 31)).toInt32).toUInt32 >>> (((nI 1)).toUInt32 &&& Int32.toUInt32 31)).toInt32))) s) ∧
          (¬ ((((((a0 ^^^ (-1 : Int32)) &&& (a0 - (nI 1)))).toUInt32 >>> (((nI 16)).toUInt32 &&& Int32.toUInt32 31)).toInt32).toUInt32 >>> (((nI 4)).toUInt32 &&& Int32.toUInt32 31)).toInt32 ≤ (nI 4) →
            Q (some (.int (((((nI 1) + (nI 16)) + (nI 4)) + (nI 2)) + ((((((((((a0 ^^^ (-1 : Int32)) &&& (a0 - (nI 1)))).toUInt32 >>> (((nI 16)).toUInt32 &&& Int32.toUInt32 31)).toInt32).toUInt32 >>> (((nI 4)).toUInt32 &&& Int32.toUInt32 31)).toInt32).toUInt32 >>> (((nI 2)).toUInt32 &&& Int32.toUInt32 31)).toInt32).toUInt32 >>> (((nI 1)).toUInt32 &&& Int32.toUInt32 31)).toInt32))) s))) ∧
      (¬ ((((a0 ^^^ (-1 : Int32)) &&& (a0 - (nI 1)))).toUInt32 >>> (((nI 16)).toUInt32 &&& Int32.toUInt32 31)).toInt32 ≤ (nI 256) →
        (((((((a0 ^^^ (-1 : Int32)) &&& (a0 - (nI 1)))).toUInt32 >>> (((nI 16)).toUInt32 &&& Int32.toUInt32 31)).toInt32).toUInt32 >>> (((nI 8)).toUInt32 &&& Int32.toUInt32 31)).toInt32 ≤ (nI 16) →
          (((((((a0 ^^^ (-1 : Int32)) &&& (a0 - (nI 1)))).toUInt32 >>> (((nI 16)).toUInt32 &&& Int32.toUInt32 31)).toInt32).toUInt32 >>> (((nI 8)).toUInt32 &&& Int32.toUInt32 31)).toInt32 ≤ (nI 4) →
            Q (some (.int ((((nI 1) + (nI 16)) + (nI 8)) + ((((((((a0 ^^^ (-1 : Int32)) &&& (a0 - (nI 1)))).toUInt32 >>> (((nI 16)).toUInt32 &&& Int32.toUInt32 31)).toInt32).toUInt32 >>> (((nI 8)).toUInt32 &&& Int32.toUInt32 31)).toInt32).toUInt32 >>> (((nI 1)).toUInt32 &&& Int32.toUInt32 31)).toInt32))) s) ∧
          (¬ ((((((a0 ^^^ (-1 : Int32)) &&& (a0 - (nI 1)))).toUInt32 >>> (((nI 16)).toUInt32 &&& Int32.toUInt32 31)).toInt32).toUInt32 >>> (((nI 8)).toUInt32 &&& Int32.toUInt32 31)).toInt32 ≤ (nI 4) →
            Q (some (.int (((((nI 1) + (nI 16)) + (nI 8)) + (nI 2)) + ((((((((((a0 ^^^ (-1 : Int32)) &&& (a0 - (nI 1)))).toUInt32 >>> (((nI 16)).toUInt32 &&& Int32.toUInt32 31)).toInt32).toUInt32 >>> (((nI 8)).toUInt32 &&& Int32.toUInt32 31)).toInt32).toUInt32 >>> (((nI 2)).toUInt32 &&& Int32.toUInt32 31)).toInt32).toUInt32 >>> (((nI 1)).toUInt32 &&& Int32.toUInt32 31)).toInt32))) s)) ∧
        (¬ ((((((a0 ^^^ (-1 : Int32)) &&& (a0 - (nI 1)))).toUInt32 >>> (((nI 16)).toUInt32 &&& Int32.toUInt32 31)).toInt32).toUInt32 >>> (((nI 8)).toUInt32 &&& Int32.toUInt32 31)).toInt32 ≤ (nI 16) →
          (((((((((a0 ^^^ (-1 : Int32)) &&& (a0 - (nI 1)))).toUInt32 >>> (((nI 16)).toUInt32 &&& Int32.toUInt32 31)).toInt32).toUInt32 >>> (((nI 8)).toUInt32 &&& Int32.toUInt32 31)).toInt32).toUInt32 >>> (((nI 4)).toUInt32 &&& Int32.toUInt32 31)).toInt32 ≤ (nI 4) →
            Q (some (.int (((((nI 1) + (nI 16)) + (nI 8)) + (nI 4)) + ((((((((((a0 ^^^ (-1 : Int32)) &&& (a0 - (nI 1)))).toUInt32 >>> (((nI 16)).toUInt32 &&& Int32.toUInt32 31)).toInt32).toUInt32 >>> (((nI 8)).toUInt32 &&& Int32.toUInt32 31)).toInt32).toUInt32 >>> (((nI 4)).toUInt32 &&& Int32.toUInt32 31)).toInt32).toUInt32 >>> (((nI 1)).toUInt32 &&& Int32.toUInt32 31)).toInt32))) s) ∧
          (¬ ((((((((a0 ^^^ (-1 : Int32)) &&& (a0 - (nI 1)))).toUInt32 >>> (((nI 16)).toUInt32 &&& Int32.toUInt32 31)).toInt32).toUInt32 >>> (((nI 8)).toUInt32 &&& Int32.toUInt32 31)).toInt32).toUInt32 >>> (((nI 4)).toUInt32 &&& Int32.toUInt32 31)).toInt32 ≤ (nI 4) →
            Q (some (.int ((((((nI 1) + (nI 16)) + (nI 8)) + (nI 4)) + (nI 2)) + ((((((((((((a0 ^^^ (-1 : Int32)) &&& (a0 - (nI 1)))).toUInt32 >>> (((nI 16)).toUInt32 &&& Int32.toUInt32 31)).toInt32).toUInt32 >>> (((nI 8)).toUInt32 &&& Int32.toUInt32 31)).toInt32).toUInt32 >>> (((nI 4)).toUInt32 &&& Int32.toUInt32 31)).toInt32).toUInt32 >>> (((nI 2)).toUInt32 &&& Int32.toUInt32 31)).toInt32).toUInt32 >>> (((nI 1)).toUInt32 &&& Int32.toUInt32 31)).toInt32))) s))))) ∧
  (¬ (nI 0) < ((a0 ^^^ (-1 : Int32)) &&& (a0 - (nI 1))) →
    Q (some (.int (((a0 ^^^ (-1 : Int32)) &&& (a0 - (nI 1))) &&& (nI 32)))) s)) : wp E 169 0 [.int a0] [] s Q := vc_ok E 169 [] Q 51 false 0 _ _ _ h
-- 170 java/lang/Integer.bitCount(I)I
theorem sg170_0 {E : AEnv} {a0 : Int32} {s : ASt} {Q : Option Value → ASt → Prop} (h :
  Q (some (.int ((((((((a0 - (((a0).toUInt32 >>> (((nI 1)).toUInt32 &&& Int32.toUInt32 31)).toInt32 &&& (nI 1431655765))) &&& (nI 858993459)) + ((((a0 - (((a0).toUInt32 >>> (((nI 1)).toUInt32 &&& Int32.toUInt32 31)).toInt32 &&& (nI 1431655765)))).toUInt32 >>> (((nI 2)).toUInt32 &&& Int32.toUInt32 31)).toInt32 &&& (nI 858993459))) + (((((a0 - (((a0).toUInt32 >>> (((nI 1)).toUInt32 &&& Int32.toUInt32 31)).toInt32 &&& (nI 1431655765))) &&& (nI 858993459)) + ((((a0 - (((a0).toUInt32 >>> (((nI 1)).toUInt32 &&& Int32.toUInt32 31)).toInt32 &&& (nI 1431655765)))).toUInt32 >>> (((nI 2)).toUInt32 &&& Int32.toUInt32 31)).toInt32 &&& (nI 858993459)))).toUInt32 >>> (((nI 4)).toUInt32 &&& Int32.toUInt32 31)).toInt32) &&& (nI 252645135)) + (((((((a0 - (((a0).toUInt32 >>> (((nI 1)).toUInt32 &&& Int32.toUInt32 31)).toInt32 &&& (nI 1431655765))) &&& (nI 858993459)) + ((((a0 - (((a0).toUInt32 >>> (((nI 1)).toUInt32 &&& Int32.toUInt32 31)).toInt32 &&& (nI 1431655765)))).toUInt32 >>> (((nI 2)).toUInt32 &&& Int32.toUInt32 31)).toInt32 &&& (nI 858993459))) + (((((a0 - (((a0).toUInt32 >>> (((nI 1)).toUInt32 &&& Int32.toUInt32 31)).toInt32 &&& (nI 1431655765))) &&& (nI 858993459)) + ((((a0 - (((a0).toUInt32 >>> (((nI 1)).toUInt32 &&& Int32.toUInt32 31)).toInt32 &&& (nI 1431655765)))).toUInt32 >>> (((nI 2)).toUInt32 &&& Int32.toUInt32 31)).toInt32 &&& (nI 858993459)))).toUInt32 >>> (((nI 4)).toUInt32 &&& Int32.toUInt32 31)).toInt32) &&& (nI 252645135))).toUInt32 >>> (((nI 8)).toUInt32 &&& Int32.toUInt32 31)).toInt32) + ((((((((a0 - (((a0).toUInt32 >>> (((nI 1)).toUInt32 &&& Int32.toUInt32 31)).toInt32 &&& (nI 1431655765))) &&& (nI 858993459)) + ((((a0 - (((a0).toUInt32 >>> (((nI 1)).toUInt32 &&& Int32.toUInt32 31)).toInt32 &&& (nI 1431655765)))).toUInt32 >>> (((nI 2)).toUInt32 &&& Int32.toUInt32 31)).toInt32 &&& (nI 858993459))) + (((((a0 - (((a0).toUInt32 >>> (((nI 1)).toUInt32 &&& Int32.toUInt32 31)).toInt32 &&& (nI 1431655765))) &&& (nI 858993459)) + ((((a0 - (((a0).toUInt32 >>> (((nI 1)).toUInt32 &&& Int32.toUInt32 31)).toInt32 &&& (nI 1431655765)))).toUInt32 >>> (((nI 2)).toUInt32 &&& Int32.toUInt32 31)).toInt32 &&& (nI 858993459)))).toUInt32 >>> (((nI 4)).toUInt32 &&& Int32.toUInt32 31)).toInt32) &&& (nI 252645135)) + (((((((a0 - (((a0).toUInt32 >>> (((nI 1)).toUInt32 &&& Int32.toUInt32 31)).toInt32 &&& (nI 1431655765))) &&& (nI 858993459)) + ((((a0 - (((a0).toUInt32 >>> (((nI 1)).toUInt32 &&& Int32.toUInt32 31)).toInt32 &&& (nI 1431655765)))).toUInt32 >>> (((nI 2)).toUInt32 &&& Int32.toUInt32 31)).toInt32 &&& (nI 858993459))) + (((((a0 - (((a0).toUInt32 >>> (((nI 1)).toUInt32 &&& Int32.toUInt32 31)).toInt32 &&& (nI 1431655765))) &&& (nI 858993459)) + ((((a0 - (((a0).toUInt32 >>> (((nI 1)).toUInt32 &&& Int32.toUInt32 31)).toInt32 &&& (nI 1431655765)))).toUInt32 >>> (((nI 2)).toUInt32 &&& Int32.toUInt32 31)).toInt32 &&& (nI 858993459)))).toUInt32 >>> (((nI 4)).toUInt32 &&& Int32.toUInt32 31)).toInt32) &&& (nI 252645135))).toUInt32 >>> (((nI 8)).toUInt32 &&& Int32.toUInt32 31)).toInt32)).toUInt32 >>> (((nI 16)).toUInt32 &&& Int32.toUInt32 31)).toInt32) &&& (nI 63)))) s) : wp E 170 0 [.int a0] [] s Q := vc_ok E 170 [] Q 43 false 0 _ _ _ h
-- 171 java/lang/Math.max(II)I
theorem sg171_0 {E : AEnv} {a0 : Int32} {a1 : Int32} {s : ASt} {Q : Option Value → ASt → Prop} (h :
  (a0 < a1 →
    Q (some (.int a1)) s) ∧
  (¬ a0 < a1 →
    Q (some (.int a0)) s)) : wp E 171 0 [.int a0, .int a1] [] s Q := vc_ok E 171 [] Q 7 false 0 _ _ _ h
-- 172 java/lang/Math.min(II)I
theorem sg172_0 {E : AEnv} {a0 : Int32} {a1 : Int32} {s : ASt} {Q : Option Value → ASt → Prop} (h :
  (a1 < a0 →
    Q (some (.int a1)) s) ∧
  (¬ a1 < a0 →
    Q (some (.int a0)) s)) : wp E 172 0 [.int a0, .int a1] [] s Q := vc_ok E 172 [] Q 7 false 0 _ _ _ h
