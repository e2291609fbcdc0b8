-- 55 CoatedBridges$Text.readNumber(I)Z
theorem sg55_0 {E : AEnv} {a0 : Nat} {a1 : Int32} {s : ASt} {Q : Option Value → ASt → Prop} (h :
  wp E 55 4 [.ref a0, .int a1, .int (nI 0), .int (nI 0)] [] s Q) : wp E 55 0 [.ref a0, .int a1] [] s Q := vc_ok E 55 [4] Q 6 false 0 _ _ _ h
theorem sg55_4 {E : AEnv} {a0 : Nat} {a1 : Int32} {a2 : Int32} {a3 : Int32} {s : ASt} {Q : Option Value → ASt → Prop} (h :
  ((nI 3) ≤ a3 →
    sh s a0 4 5 ∧ ∃ r1, rf s a0 2 r1 ∧ ∃ n2, sh s r1 10 n2 ∧ vp_in a1 n2 ∧ nw (wrI s r1 (a1).toNatClampNeg a2) (fun s3 =>
    (a3 ≤ (nI 0) →
      fN .boolean (nI 0) = true ∧ Q (some (.int (nI 0))) s3) ∧
    (¬ a3 ≤ (nI 0) →
      fN .boolean (nI 1) = true ∧ Q (some (.int (nI 1))) s3))) ∧
  (¬ (nI 3) ≤ a3 →
    sh s a0 4 5 ∧ cI E 56 [.ref a0] s (fun x5 s4 =>
    (x5 = (nI 0) →
      sh s4 a0 4 5 ∧ ∃ r6, rf s4 a0 2 r6 ∧ ∃ n7, sh s4 r6 10 n7 ∧ vp_in a1 n7 ∧ nw (wrI s4 r6 (a1).toNatClampNeg a2) (fun s8 =>
      (a3 ≤ (nI 0) →
        fN .boolean (nI 0) = true ∧ Q (some (.int (nI 0))) s8) ∧
      (¬ a3 ≤ (nI 0) →
        fN .boolean (nI 1) = true ∧ Q (some (.int (nI 1))) s8))) ∧
    (¬ x5 = (nI 0) →
      sh s4 a0 4 5 ∧ ∃ r9, rf s4 a0 0 r9 ∧ sh s4 a0 4 5 ∧ ∃ n10, sh s4 r9 11 n10 ∧ vp_in (gI s4 a0 4) n10 ∧ sh s4 a0 4 5 ∧ sh s4 a0 4 5 ∧ nw (wrI s4 a0 4 ((gI s4 a0 4) + (nI 1))) (fun s11 =>
      wp E 55 4 [.ref a0, .int a1, .int ((a2 * (nI 10)) + ((gI s4 r9 ((gI s4 a0 4)).toNatClampNeg) - (nI 48))), .int (a3 + (nI 1))] [] s11 Q))))) : wp E 55 4 [.ref a0, .int a1, .int a2, .int a3] [] s Q := vc_ok E 55 [4] Q 28 false 4 _ _ _ h
-- 56 CoatedBridges$Text.atDigit()Z
theorem sg56_0 {E : AEnv} {a0 : Nat} {s : ASt} {Q : Option Value → ASt → Prop} (h :
  sh s a0 4 5 ∧ sh s a0 4 5 ∧ ((gI s a0 1) ≤ (gI s a0 4) →
    fN .boolean (nI 0) = true ∧ Q (some (.int (nI 0))) s) ∧
  (¬ (gI s a0 1) ≤ (gI s a0 4) →
    sh s a0 4 5 ∧ ∃ r1, rf s a0 0 r1 ∧ sh s a0 4 5 ∧ ∃ n2, sh s r1 11 n2 ∧ vp_in (gI s a0 4) n2 ∧ ((gI s r1 ((gI s a0 4)).toNatClampNeg) < (nI 48) →
      fN .boolean (nI 0) = true ∧ Q (some (.int (nI 0))) s) ∧
    (¬ (gI s r1 ((gI s a0 4)).toNatClampNeg) < (nI 48) →
      sh s a0 4 5 ∧ ∃ r3, rf s a0 0 r3 ∧ sh s a0 4 5 ∧ ∃ n4, sh s r3 11 n4 ∧ vp_in (gI s a0 4) n4 ∧ ((nI 57) < (gI s r3 ((gI s a0 4)).toNatClampNeg) →
        fN .boolean (nI 0) = true ∧ Q (some (.int (nI 0))) s) ∧
      (¬ (nI 57) < (gI s r3 ((gI s a0 4)).toNatClampNeg) →
        fN .boolean (nI 1) = true ∧ Q (some (.int (nI 1))) s)))) : wp E 56 0 [.ref a0] [] s Q := vc_ok E 56 [] Q 23 false 0 _ _ _ h
-- 58 CoatedBridges.island(I)I
theorem sg58_0 {E : AEnv} {a0 : Nat} {a1 : Int32} {s : ASt} {Q : Option Value → ASt → Prop} (h :
  sh s a0 5 8 ∧ cR E 82 [.ref a0] s (fun r2 s1 =>
  sh s1 r2 3 11 ∧ cI E 22 [.ref r2, .int a1] s1 (fun x4 s3 =>
  sh s3 a0 5 8 ∧ cI E 83 [.ref a0, .int x4] s3 (fun x6 s5 =>
  Q (some (.int x6)) s5)))) : wp E 58 0 [.ref a0, .int a1] [] s Q := vc_ok E 58 [] Q 8 false 0 _ _ _ h
-- 59 CoatedBridges.bridge(III)I
theorem sg59_0 {E : AEnv} {a0 : Nat} {a1 : Int32} {a2 : Int32} {a3 : Int32} {s : ASt} {Q : Option Value → ASt → Prop} (h :
  sh s a0 5 8 ∧ cR E 82 [.ref a0] s (fun r2 s1 =>
  sh s1 r2 3 11 ∧ cI E 23 [.ref r2, .int a1, .int a2, .int a3] s1 (fun x4 s3 =>
  sh s3 a0 5 8 ∧ cI E 83 [.ref a0, .int x4] s3 (fun x6 s5 =>
  Q (some (.int x6)) s5)))) : wp E 59 0 [.ref a0, .int a1, .int a2, .int a3] [] s Q := vc_ok E 59 [] Q 10 false 0 _ _ _ h
-- 60 CoatedBridges.send(II)I
theorem sg60_0 {E : AEnv} {a0 : Nat} {a1 : Int32} {a2 : Int32} {s : ASt} {Q : Option Value → ASt → Prop} (h :
  sh s a0 5 8 ∧ cR E 82 [.ref a0] s (fun r2 s1 =>
  sh s1 r2 3 11 ∧ cI E 24 [.ref r2, .int a1, .int a2] s1 (fun x4 s3 =>
  sh s3 a0 5 8 ∧ cI E 83 [.ref a0, .int x4] s3 (fun x6 s5 =>
  Q (some (.int x6)) s5)))) : wp E 60 0 [.ref a0, .int a1, .int a2] [] s Q := vc_ok E 60 [] Q 9 false 0 _ _ _ h
-- 61 CoatedBridges.recall(I)I
theorem sg61_0 {E : AEnv} {a0 : Nat} {a1 : Int32} {s : ASt} {Q : Option Value → ASt → Prop} (h :
  sh s a0 5 8 ∧ cR E 82 [.ref a0] s (fun r2 s1 =>
  sh s1 r2 3 11 ∧ cI E 25 [.ref r2, .int a1] s1 (fun x4 s3 =>
  sh s3 a0 5 8 ∧ cI E 83 [.ref a0, .int x4] s3 (fun x6 s5 =>
  Q (some (.int x6)) s5)))) : wp E 61 0 [.ref a0, .int a1] [] s Q := vc_ok E 61 [] Q 8 false 0 _ _ _ h
-- 62 CoatedBridges.pay(I)I
theorem sg62_0 {E : AEnv} {a0 : Nat} {a1 : Int32} {s : ASt} {Q : Option Value → ASt → Prop} (h :
  sh s a0 5 8 ∧ cR E 82 [.ref a0] s (fun r2 s1 =>
  sh s1 r2 3 11 ∧ cI E 26 [.ref r2, .int a1] s1 (fun x4 s3 =>
  sh s3 a0 5 8 ∧ cI E 83 [.ref a0, .int x4] s3 (fun x6 s5 =>
  Q (some (.int x6)) s5)))) : wp E 62 0 [.ref a0, .int a1] [] s Q := vc_ok E 62 [] Q 8 false 0 _ _ _ h
-- 63 CoatedBridges.days(I)I
theorem sg63_0 {E : AEnv} {a0 : Nat} {a1 : Int32} {s : ASt} {Q : Option Value → ASt → Prop} (h :
  sh s a0 5 8 ∧ cR E 82 [.ref a0] s (fun r2 s1 =>
  sh s1 r2 3 11 ∧ cI E 28 [.ref r2, .int a1] s1 (fun x4 s3 =>
  sh s3 a0 5 8 ∧ cI E 83 [.ref a0, .int x4] s3 (fun x6 s5 =>
  Q (some (.int x6)) s5)))) : wp E 63 0 [.ref a0, .int a1] [] s Q := vc_ok E 63 [] Q 8 false 0 _ _ _ h
-- 64 CoatedBridges.set(II)I
theorem sg64_0 {E : AEnv} {a0 : Nat} {a1 : Int32} {a2 : Int32} {s : ASt} {Q : Option Value → ASt → Prop} (h :
  sh s a0 5 8 ∧ cR E 82 [.ref a0] s (fun r2 s1 =>
  sh s1 r2 3 11 ∧ cI E 27 [.ref r2, .int a1, .int a2] s1 (fun x4 s3 =>
  sh s3 a0 5 8 ∧ cI E 83 [.ref a0, .int x4] s3 (fun x6 s5 =>
  Q (some (.int x6)) s5)))) : wp E 64 0 [.ref a0, .int a1, .int a2] [] s Q := vc_ok E 64 [] Q 9 false 0 _ _ _ h
-- 65 CoatedBridges.bridgeOf(II)I
theorem sg65_0 {E : AEnv} {a0 : Nat} {a1 : Int32} {a2 : Int32} {s : ASt} {Q : Option Value → ASt → Prop} (h :
  sh s a0 5 8 ∧ ∃ r1, rf s a0 0 r1 ∧ sh s r1 3 11 ∧ cI E 21 [.ref r1, .int a1] s (fun x3 s2 =>
  (x3 ≠ (nI 0) →
    sh s2 a0 5 8 ∧ ∃ r4, rf s2 a0 0 r4 ∧ sh s2 r4 3 11 ∧ ∃ r5, rf s2 r4 1 r5 ∧ ∃ n6 r7, sh s2 r5 14 n6 ∧ vp_in a1 n6 ∧ rf s2 r5 (a1).toNatClampNeg r7 ∧ (a2 = (nI 0) →
      sh s2 r7 1 9 ∧ Q (some (.int (gI s2 r7 0))) s2) ∧
    (¬ a2 = (nI 0) →
     (a2 = (nI 1) →
      sh s2 r7 1 9 ∧ Q (some (.int (gI s2 r7 1))) s2) ∧
    (¬ a2 = (nI 1) →
     (a2 = (nI 2) →
      sh s2 r7 1 9 ∧ Q (some (.int (gI s2 r7 3))) s2) ∧
    (¬ a2 = (nI 2) →
     (a2 = (nI 3) →
      sh s2 r7 1 9 ∧ Q (some (.int (gI s2 r7 4))) s2) ∧
    (¬ a2 = (nI 3) →
     (a2 = (nI 4) →
      sh s2 r7 1 9 ∧ Q (some (.int (gI s2 r7 5))) s2) ∧
    (¬ a2 = (nI 4) →
     (a2 = (nI 5) →
      sh s2 r7 1 9 ∧ Q (some (.int (gI s2 r7 6))) s2) ∧
    (¬ a2 = (nI 5) →
     (a2 = (nI 6) →
      sh s2 r7 1 9 ∧ Q (some (.int (gI s2 r7 7))) s2) ∧
    (¬ a2 = (nI 6) →
     (a2 = (nI 7) →
      sh s2 r7 1 9 ∧ Q (some (.int (gI s2 r7 8))) s2) ∧
    (¬ a2 = (nI 7) →
     (a2 = (nI 8) →
      sh s2 a0 5 8 ∧ ∃ r8, rf s2 a0 0 r8 ∧ sh s2 r8 3 11 ∧ cI E 42 [.ref r8] s2 (fun x10 s9 =>
      cI E 88 [.int x10, .int a1] s9 (fun x12 s11 =>
      (x12 = (nI 0) →
        Q (some (.int (nI 0))) s11) ∧
      (¬ x12 = (nI 0) →
        Q (some (.int (nI 1))) s11)))) ∧
    (¬ a2 = (nI 8) →
     Q (some (.int (-1000001 : Int32))) s2)))))))))) ∧
  (¬ x3 ≠ (nI 0) →
    Q (some (.int (-1000001 : Int32))) s2))) : wp E 65 0 [.ref a0, .int a1, .int a2] [] s Q := vc_ok E 65 [] Q 23 false 0 _ _ _ h
-- 66 CoatedBridges.islandOf(II)I
theorem sg66_0 {E : AEnv} {a0 : Nat} {a1 : Int32} {a2 : Int32} {s : ASt} {Q : Option Value → ASt → Prop} (h :
  sh s a0 5 8 ∧ ∃ r1, rf s a0 0 r1 ∧ sh s r1 3 11 ∧ cI E 20 [.ref r1, .int a1] s (fun x3 s2 =>
  (x3 ≠ (nI 0) →
    sh s2 a0 5 8 ∧ ∃ r4, rf s2 a0 0 r4 ∧ sh s2 r4 3 11 ∧ ∃ r5, rf s2 r4 0 r5 ∧ ∃ n6 r7, sh s2 r5 13 n6 ∧ vp_in a1 n6 ∧ rf s2 r5 (a1).toNatClampNeg r7 ∧ (a2 = (nI 0) →
      sh s2 a0 5 8 ∧ ∃ r14, rf s2 a0 0 r14 ∧ sh s2 r14 3 11 ∧ cI E 39 [.ref r14, .int (nI 0), .int (-1 : Int32)] s2 (fun x16 s15 =>
      cI E 88 [.int x16, .int a1] s15 (fun x18 s17 =>
      (x18 = (nI 0) →
        Q (some (.int (nI 0))) s17) ∧
      (¬ x18 = (nI 0) →
        Q (some (.int (nI 1))) s17)))) ∧
    (¬ a2 = (nI 0) →
     (a2 = (nI 1) →
      sh s2 r7 2 5 ∧ Q (some (.int (gI s2 r7 1))) s2) ∧
    (¬ a2 = (nI 1) →
     (a2 = (nI 2) →
      sh s2 r7 2 5 ∧ Q (some (.int (gI s2 r7 0))) s2) ∧
    (¬ a2 = (nI 2) →
     (a2 = (nI 3) →
      sh s2 r7 2 5 ∧ Q (some (.int (gI s2 r7 3))) s2) ∧
    (¬ a2 = (nI 3) →
     (a2 = (nI 4) →
      sh s2 r7 2 5 ∧ Q (some (.int (gI s2 r7 2))) s2) ∧
    (¬ a2 = (nI 4) →
     (a2 = (nI 5) →
      sh s2 r7 2 5 ∧ Q (some (.int (gI s2 r7 4))) s2) ∧
    (¬ a2 = (nI 5) →
     (a2 = (nI 6) →
      sh s2 a0 5 8 ∧ ∃ r11, rf s2 a0 0 r11 ∧ sh s2 r11 3 11 ∧ cI E 44 [.ref r11, .int a1] s2 (fun x13 s12 =>
      Q (some (.int x13)) s12)) ∧
    (¬ a2 = (nI 6) →
     (a2 = (nI 7) →
      sh s2 a0 5 8 ∧ ∃ r8, rf s2 a0 0 r8 ∧ sh s2 r8 3 11 ∧ cI E 43 [.ref r8, .int a1] s2 (fun x10 s9 =>
      Q (some (.int x10)) s9)) ∧
    (¬ a2 = (nI 7) →
     Q (some (.int (-1000001 : Int32))) s2))))))))) ∧
  (¬ x3 ≠ (nI 0) →
    Q (some (.int (-1000001 : Int32))) s2))) : wp E 66 0 [.ref a0, .int a1, .int a2] [] s Q := vc_ok E 66 [] Q 25 false 0 _ _ _ h
-- 67 CoatedBridges.reach(I)I
theorem sg67_0 {E : AEnv} {a0 : Nat} {a1 : Int32} {s : ASt} {Q : Option Value → ASt → Prop} (h :
  sh s a0 5 8 ∧ ∃ r1, rf s a0 0 r1 ∧ sh s r1 3 11 ∧ cI E 20 [.ref r1, .int a1] s (fun x3 s2 =>
  (x3 = (nI 0) →
    Q (some (.int (-1000001 : Int32))) s2) ∧
  (¬ x3 = (nI 0) →
    sh s2 a0 5 8 ∧ ∃ r4, rf s2 a0 0 r4 ∧ sh s2 r4 3 11 ∧ cI E 39 [.ref r4, .int a1, .int (-1 : Int32)] s2 (fun x6 s5 =>
    Q (some (.int x6)) s5)))) : wp E 67 0 [.ref a0, .int a1] [] s Q := vc_ok E 67 [] Q 13 false 0 _ _ _ h
-- 68 CoatedBridges.book(II)I
theorem sg68_0 {E : AEnv} {a0 : Nat} {a1 : Int32} {a2 : Int32} {s : ASt} {Q : Option Value → ASt → Prop} (h :
  (a1 < (nI 0) →
    Q (some (.int (-1000001 : Int32))) s) ∧
  (¬ a1 < (nI 0) →
    (a2 < (nI 0) →
      Q (some (.int (-1000001 : Int32))) s) ∧
    (¬ a2 < (nI 0) →
      (a2 ≤ (nI 1) →
        (a2 ≠ (nI 0) →
          sh s a0 5 8 ∧ ∃ r1, rf s a0 0 r1 ∧ sh s r1 3 11 ∧ ∃ r2, rf s r1 3 r2 ∧ sh s r2 0 3 ∧ cI E 5 [.ref r2, .int a1] s (fun x4 s3 =>
          Q (some (.int x4)) s3)) ∧
        (¬ a2 ≠ (nI 0) →
          sh s a0 5 8 ∧ ∃ r5, rf s a0 0 r5 ∧ sh s r5 3 11 ∧ ∃ r6, rf s r5 3 r6 ∧ sh s r6 0 3 ∧ cI E 4 [.ref r6, .int a1] s (fun x8 s7 =>
          Q (some (.int x8)) s7))) ∧
      (¬ a2 ≤ (nI 1) →
        Q (some (.int (-1000001 : Int32))) s)))) : wp E 68 0 [.ref a0, .int a1, .int a2] [] s Q := vc_ok E 68 [] Q 17 false 0 _ _ _ h
-- 69 CoatedBridges.why(II)I
theorem sg69_0 {E : AEnv} {a0 : Nat} {a1 : Int32} {a2 : Int32} {s : ASt} {Q : Option Value → ASt → Prop} (h :
  sh s a0 5 8 ∧ ∃ r1, rf s a0 0 r1 ∧ sh s r1 3 11 ∧ cI E 21 [.ref r1, .int a1] s (fun x3 s2 =>
  (x3 = (nI 0) →
    Q (some (.int (-1000001 : Int32))) s2) ∧
  (¬ x3 = (nI 0) →
    (a2 < (nI 0) →
      Q (some (.int (-1000001 : Int32))) s2) ∧
    (¬ a2 < (nI 0) →
      (a2 ≤ (nI 1) →
        sh s2 a0 5 8 ∧ ∃ r4, rf s2 a0 0 r4 ∧ sh s2 r4 3 11 ∧ cI E 36 [.ref r4, .int a1] s2 (fun x6 s5 =>
        (a2 ≠ (nI 0) →
          (x6 ≠ (nI 4) →
            Q (some (.int (-1000004 : Int32))) s5) ∧
          (¬ x6 ≠ (nI 4) →
            sh s5 a0 5 8 ∧ ∃ r7, rf s5 a0 0 r7 ∧ sh s5 r7 3 11 ∧ cI E 41 [.ref r7, .int a1] s5 (fun x9 s8 =>
            cI E 89 [.int x9] s8 (fun x11 s10 =>
            Q (some (.int x11)) s10)))) ∧
        (¬ a2 ≠ (nI 0) →
          Q (some (.int x6)) s5))) ∧
      (¬ a2 ≤ (nI 1) →
        Q (some (.int (-1000001 : Int32))) s2))))) : wp E 69 0 [.ref a0, .int a1, .int a2] [] s Q := vc_ok E 69 [] Q 28 false 0 _ _ _ h
-- 70 CoatedBridges.best()I
theorem sg70_0 {E : AEnv} {a0 : Nat} {s : ASt} {Q : Option Value → ASt → Prop} (h :
  sh s a0 5 8 ∧ ∃ r1, rf s a0 0 r1 ∧ sh s r1 3 11 ∧ cI E 37 [.ref r1] s (fun x3 s2 =>
  Q (some (.int x3)) s2)) : wp E 70 0 [.ref a0] [] s Q := vc_ok E 70 [] Q 5 false 0 _ _ _ h
-- 71 CoatedBridges.rustsIn(I)I
theorem sg71_0 {E : AEnv} {a0 : Nat} {a1 : Int32} {s : ASt} {Q : Option Value → ASt → Prop} (h :
  sh s a0 5 8 ∧ ∃ r1, rf s a0 0 r1 ∧ sh s r1 3 11 ∧ cI E 21 [.ref r1, .int a1] s (fun x3 s2 =>
  (x3 ≠ (nI 0) →
    sh s2 a0 5 8 ∧ ∃ r4, rf s2 a0 0 r4 ∧ sh s2 r4 3 11 ∧ ∃ r5, rf s2 r4 1 r5 ∧ ∃ n6 r7, sh s2 r5 14 n6 ∧ vp_in a1 n6 ∧ rf s2 r5 (a1).toNatClampNeg r7 ∧ sh s2 r7 1 9 ∧ ((gI s2 r7 5) ≠ (nI 1) →
      sh s2 r7 1 9 ∧ cI E 13 [.ref r7] s2 (fun x9 s8 =>
      Q (some (.int x9)) s8)) ∧
    (¬ (gI s2 r7 5) ≠ (nI 1) →
      Q (some (.int (-1000002 : Int32))) s2)) ∧
  (¬ x3 ≠ (nI 0) →
    Q (some (.int (-1000001 : Int32))) s2))) : wp E 71 0 [.ref a0, .int a1] [] s Q := vc_ok E 71 [] Q 19 false 0 _ _ _ h
-- 72 CoatedBridges.paintedIn(I)I
theorem sg72_0 {E : AEnv} {a0 : Nat} {a1 : Int32} {s : ASt} {Q : Option Value → ASt → Prop} (h :
  sh s a0 5 8 ∧ ∃ r1, rf s a0 0 r1 ∧ sh s r1 3 11 ∧ cI E 21 [.ref r1, .int a1] s (fun x3 s2 =>
  (x3 ≠ (nI 0) →
    sh s2 a0 5 8 ∧ ∃ r4, rf s2 a0 0 r4 ∧ sh s2 r4 3 11 ∧ ∃ r5, rf s2 r4 1 r5 ∧ ∃ n6 r7, sh s2 r5 14 n6 ∧ vp_in a1 n6 ∧ rf s2 r5 (a1).toNatClampNeg r7 ∧ sh s2 r7 1 9 ∧ ((gI s2 r7 5) = (nI 1) →
      sh s2 a0 5 8 ∧ cR E 82 [.ref a0] s2 (fun r9 s8 =>
      wp E 72 40 [.ref a0, .int a1, .ref r9, .int (nI 1)] [] s8 Q)) ∧
    (¬ (gI s2 r7 5) = (nI 1) →
      Q (some (.int (-1000002 : Int32))) s2)) ∧
  (¬ x3 ≠ (nI 0) →
    Q (some (.int (-1000001 : Int32))) s2))) : wp E 72 0 [.ref a0, .int a1] [] s Q := vc_ok E 72 [40] Q 20 false 0 _ _ _ h
theorem sg72_40 {E : AEnv} {a0 : Nat} {a1 : Int32} {a2 : Nat} {a3 : Int32} {s : ASt} {Q : Option Value → ASt → Prop} (h :
  ((nI 200) < a3 →
    Q (some (.int (-1000004 : Int32))) s) ∧
  (¬ (nI 200) < a3 →
    sh s a2 3 11 ∧ cI E 29 [.ref a2] s (fun x2 s1 =>
    sh s1 a2 3 11 ∧ ∃ r3, rf s1 a2 1 r3 ∧ ∃ n4 r5, sh s1 r3 14 n4 ∧ vp_in a1 n4 ∧ rf s1 r3 (a1).toNatClampNeg r5 ∧ sh s1 r5 1 9 ∧ ((gI s1 r5 5) ≠ (nI 0) →
      wp E 72 40 [.ref a0, .int a1, .ref a2, .int (a3 + (nI 1))] [] s1 Q) ∧
    (¬ (gI s1 r5 5) ≠ (nI 0) →
      Q (some (.int a3)) s1)))) : wp E 72 40 [.ref a0, .int a1, .ref a2, .int a3] [] s Q := vc_ok E 72 [40] Q 16 false 40 _ _ _ h
-- 73 CoatedBridges.aloneIn()I
theorem sg73_0 {E : AEnv} {a0 : Nat} {s : ASt} {Q : Option Value → ASt → Prop} (h :
  sh s a0 5 8 ∧ ∃ r1, rf s a0 0 r1 ∧ sh s r1 3 11 ∧ cI E 39 [.ref r1, .int (nI 0), .int (-1 : Int32)] s (fun x3 s2 =>
  sh s2 a0 5 8 ∧ cR E 82 [.ref a0] s2 (fun r5 s4 =>
  wp E 73 17 [.ref a0, .int x3, .ref r5, .int (nI 1)] [] s4 Q))) : wp E 73 0 [.ref a0] [] s Q := vc_ok E 73 [17] Q 13 false 0 _ _ _ h
theorem sg73_17 {E : AEnv} {a0 : Nat} {a1 : Int32} {a2 : Nat} {a3 : Int32} {s : ASt} {Q : Option Value → ASt → Prop} (h :
  ((nI 200) < a3 →
    Q (some (.int (-1000004 : Int32))) s) ∧
  (¬ (nI 200) < a3 →
    sh s a2 3 11 ∧ cI E 29 [.ref a2] s (fun x2 s1 =>
    sh s1 a2 3 11 ∧ cI E 39 [.ref a2, .int (nI 0), .int (-1 : Int32)] s1 (fun x4 s3 =>
    ((a1 &&& (x4 ^^^ (-1 : Int32))) = (nI 0) →
      wp E 73 17 [.ref a0, .int a1, .ref a2, .int (a3 + (nI 1))] [] s3 Q) ∧
    (¬ (a1 &&& (x4 ^^^ (-1 : Int32))) = (nI 0) →
      Q (some (.int a3)) s3))))) : wp E 73 17 [.ref a0, .int a1, .ref a2, .int a3] [] s Q := vc_ok E 73 [17] Q 19 false 17 _ _ _ h
-- 74 CoatedBridges.ifDays(I)I
theorem sg74_0 {E : AEnv} {a0 : Nat} {a1 : Int32} {s : ASt} {Q : Option Value → ASt → Prop} (h :
  (a1 < (nI 1) →
    Q (some (.int (-1000001 : Int32))) s) ∧
  (¬ a1 < (nI 1) →
    (a1 ≤ (nI 99) →
      sh s a0 5 8 ∧ cR E 82 [.ref a0] s (fun r2 s1 =>
      wp E 74 24 [.ref a0, .int a1, .ref r2, .int (nI 0), .int (nI 0)] [] s1 Q)) ∧
    (¬ a1 ≤ (nI 99) →
      Q (some (.int (-1000001 : Int32))) s))) : wp E 74 0 [.ref a0, .int a1] [] s Q := vc_ok E 74 [24] Q 15 false 0 _ _ _ h
theorem sg74_24 {E : AEnv} {a0 : Nat} {a1 : Int32} {a2 : Nat} {a3 : Int32} {a4 : Int32} {s : ASt} {Q : Option Value → ASt → Prop} (h :
  (a1 ≤ a4 →
    Q (some (.int a3)) s) ∧
  (¬ a1 ≤ a4 →
    sh s a2 3 11 ∧ cI E 29 [.ref a2] s (fun x2 s1 =>
    wp E 74 24 [.ref a0, .int a1, .ref a2, .int (a3 + x2), .int (a4 + (nI 1))] [] s1 Q))) : wp E 74 24 [.ref a0, .int a1, .ref a2, .int a3, .int a4] [] s Q := vc_ok E 74 [24] Q 12 false 24 _ _ _ h
-- 75 CoatedBridges.mean()I
theorem sg75_0 {E : AEnv} {a0 : Nat} {s : ASt} {Q : Option Value → ASt → Prop} (h :
  sh s a0 5 8 ∧ ∃ r1, rf s a0 0 r1 ∧ sh s r1 3 11 ∧ ((gI s r1 5) ≠ (nI 0) →
    sh s a0 5 8 ∧ ∃ r2, rf s a0 0 r2 ∧ sh s r2 3 11 ∧ cI E 47 [.ref r2] s (fun x4 s3 =>
    sh s3 a0 5 8 ∧ ∃ r5, rf s3 a0 0 r5 ∧ sh s3 r5 3 11 ∧ ((FP.fdiv (FP.i2f x4) (FP.i2f (gI s3 r5 5))) &&& 0x7fffffff ≤ 0x7f800000) ∧ cI E 90 [.float (FP.fdiv (FP.i2f x4) (FP.i2f (gI s3 r5 5)))] s3 (fun x7 s6 =>
    Q (some (.int x7)) s6))) ∧
  (¬ (gI s r1 5) ≠ (nI 0) →
    Q (some (.int (-1000004 : Int32))) s)) : wp E 75 0 [.ref a0] [] s Q := vc_ok E 75 [] Q 16 false 0 _ _ _ h
-- 76 CoatedBridges.count(I)I
theorem sg76_0 {E : AEnv} {a0 : Nat} {a1 : Int32} {s : ASt} {Q : Option Value → ASt → Prop} (h :
  (a1 < (nI 0) →
    Q (some (.int (-1000001 : Int32))) s) ∧
  (¬ a1 < (nI 0) →
    (a1 < (nI 28) →
      (a1 < (nI 20) →
        (a1 = (nI 0) →
          sh s a0 5 8 ∧ ∃ r40, rf s a0 0 r40 ∧ sh s r40 3 11 ∧ Q (some (.int (gI s r40 6))) s) ∧
        (¬ a1 = (nI 0) →
         (a1 = (nI 1) →
          sh s a0 5 8 ∧ ∃ r39, rf s a0 0 r39 ∧ sh s r39 3 11 ∧ Q (some (.int (gI s r39 4))) s) ∧
        (¬ a1 = (nI 1) →
         (a1 = (nI 2) →
          sh s a0 5 8 ∧ ∃ r38, rf s a0 0 r38 ∧ sh s r38 3 11 ∧ Q (some (.int (gI s r38 5))) s) ∧
        (¬ a1 = (nI 2) →
         (a1 = (nI 3) →
          sh s a0 5 8 ∧ ∃ r35, rf s a0 0 r35 ∧ sh s r35 3 11 ∧ cI E 39 [.ref r35, .int (nI 0), .int (-1 : Int32)] s (fun x37 s36 =>
          Q (some (.int x37)) s36)) ∧
        (¬ a1 = (nI 3) →
         (a1 = (nI 4) →
          sh s a0 5 8 ∧ ∃ r32, rf s a0 0 r32 ∧ sh s r32 3 11 ∧ cI E 38 [.ref r32, .int (nI 0)] s (fun x34 s33 =>
          Q (some (.int x34)) s33)) ∧
        (¬ a1 = (nI 4) →
         (a1 = (nI 5) →
          sh s a0 5 8 ∧ ∃ r29, rf s a0 0 r29 ∧ sh s r29 3 11 ∧ cI E 38 [.ref r29, .int (nI 1)] s (fun x31 s30 =>
          Q (some (.int x31)) s30)) ∧
        (¬ a1 = (nI 5) →
         (a1 = (nI 6) →
          sh s a0 5 8 ∧ ∃ r26, rf s a0 0 r26 ∧ sh s r26 3 11 ∧ cI E 38 [.ref r26, .int (nI 2)] s (fun x28 s27 =>
          Q (some (.int x28)) s27)) ∧
        (¬ a1 = (nI 6) →
         (a1 = (nI 7) →
          sh s a0 5 8 ∧ ∃ r23, rf s a0 0 r23 ∧ sh s r23 3 11 ∧ cI E 42 [.ref r23] s (fun x25 s24 =>
          Q (some (.int x25)) s24)) ∧
        (¬ a1 = (nI 7) →
         (a1 = (nI 8) →
          sh s a0 5 8 ∧ ∃ r20, rf s a0 0 r20 ∧ sh s r20 3 11 ∧ cI E 45 [.ref r20] s (fun x22 s21 =>
          Q (some (.int x22)) s21)) ∧
        (¬ a1 = (nI 8) →
         (a1 = (nI 9) →
          sh s a0 5 8 ∧ ∃ r17, rf s a0 0 r17 ∧ sh s r17 3 11 ∧ cI E 46 [.ref r17] s (fun x19 s18 =>
          Q (some (.int x19)) s18)) ∧
        (¬ a1 = (nI 9) →
         (a1 = (nI 10) →
          sh s a0 5 8 ∧ ∃ r14, rf s a0 0 r14 ∧ sh s r14 3 11 ∧ cI E 35 [.ref r14] s (fun x16 s15 =>
          Q (some (.int x16)) s15)) ∧
        (¬ a1 = (nI 10) →
         (a1 = (nI 11) →
          sh s a0 5 8 ∧ ∃ r11, rf s a0 0 r11 ∧ sh s r11 3 11 ∧ cI E 48 [.ref r11] s (fun x13 s12 =>
          Q (some (.int x13)) s12)) ∧
        (¬ a1 = (nI 11) →
         (a1 = (nI 12) →
          sh s a0 5 8 ∧ ∃ r8, rf s a0 0 r8 ∧ sh s r8 3 11 ∧ cI E 49 [.ref r8] s (fun x10 s9 =>
          Q (some (.int x10)) s9)) ∧
        (¬ a1 = (nI 12) →
         (a1 = (nI 13) →
          sh s a0 5 8 ∧ ∃ r7, rf s a0 0 r7 ∧ sh s r7 3 11 ∧ Q (some (.int (gI s r7 7))) s) ∧
        (¬ a1 = (nI 13) →
         (a1 = (nI 14) →
          sh s a0 5 8 ∧ ∃ r6, rf s a0 0 r6 ∧ sh s r6 3 11 ∧ Q (some (.int (gI s r6 8))) s) ∧
        (¬ a1 = (nI 14) →
         (a1 = (nI 15) →
          sh s a0 5 8 ∧ ∃ r5, rf s a0 0 r5 ∧ sh s r5 3 11 ∧ Q (some (.int (gI s r5 9))) s) ∧
        (¬ a1 = (nI 15) →
         (a1 = (nI 16) →
          sh s a0 5 8 ∧ ∃ r4, rf s a0 0 r4 ∧ sh s r4 3 11 ∧ Q (some (.int (gI s r4 10))) s) ∧
        (¬ a1 = (nI 16) →
         (a1 = (nI 17) →
          sh s a0 5 8 ∧ ∃ r2, rf s a0 0 r2 ∧ sh s r2 3 11 ∧ ∃ r3, rf s r2 3 r3 ∧ sh s r3 0 3 ∧ Q (some (.int (gI s r3 2))) s) ∧
        (¬ a1 = (nI 17) →
         (a1 = (nI 18) →
          sh s a0 5 8 ∧ Q (some (.int (gI s a0 3))) s) ∧
        (¬ a1 = (nI 18) →
         sh s a0 5 8 ∧ ∃ r1, rf s a0 4 r1 ∧ sh s r1 4 5 ∧ Q (some (.int (gI s r1 1))) s)))))))))))))))))))) ∧
      (¬ a1 < (nI 20) →
        sh s a0 5 8 ∧ ∃ r41, rf s a0 0 r41 ∧ sh s r41 3 11 ∧ ∃ r42, rf s r41 2 r42 ∧ ∃ n43, sh s r42 10 n43 ∧ vp_in (a1 - (nI 20)) n43 ∧ Q (some (.int (gI s r42 ((a1 - (nI 20))).toNatClampNeg))) s)) ∧
    (¬ a1 < (nI 28) →
      Q (some (.int (-1000001 : Int32))) s))) : wp E 76 0 [.ref a0, .int a1] [] s Q := vc_ok E 76 [] Q 17 false 0 _ _ _ h
-- 77 CoatedBridges.undo()I
theorem sg77_0 {E : AEnv} {a0 : Nat} {s : ASt} {Q : Option Value → ASt → Prop} (h :
  sh s a0 5 8 ∧ ((gI s a0 3) ≠ (nI 0) →
    sh s a0 5 8 ∧ sh s a0 5 8 ∧ nw (wrI s a0 3 ((gI s a0 3) - (nI 1))) (fun s1 =>
    sh s1 a0 5 8 ∧ ∃ r2, rf s1 a0 0 r2 ∧ sh s1 a0 5 8 ∧ ∃ r3, rf s1 a0 2 r3 ∧ sh s1 a0 5 8 ∧ ∃ n4 r5, sh s1 r3 15 n4 ∧ vp_in (gI s1 a0 3) n4 ∧ rf s1 r3 ((gI s1 a0 3)).toNatClampNeg r5 ∧ sh s1 a0 5 8 ∧ nw (wrR s1 a0 0 r5) (fun s6 =>
    sh s6 a0 5 8 ∧ ∃ r7, rf s6 a0 2 r7 ∧ sh s6 a0 5 8 ∧ ∃ n8, sh s6 r7 15 n8 ∧ vp_in (gI s6 a0 3) n8 ∧ sh s6 r2 3 11 ∧ nw (wrR s6 r7 ((gI s6 a0 3)).toNatClampNeg r2) (fun s9 =>
    sh s9 a0 5 8 ∧ Q (some (.int (gI s9 a0 3))) s9)))) ∧
  (¬ (gI s a0 3) ≠ (nI 0) →
    Q (some (.int (-1000002 : Int32))) s)) : wp E 77 0 [.ref a0] [] s Q := vc_ok E 77 [] Q 29 false 0 _ _ _ h
-- 78 CoatedBridges.type(I)I
theorem sg78_0 {E : AEnv} {a0 : Nat} {a1 : Int32} {s : ASt} {Q : Option Value → ASt → Prop} (h :
  (a1 < (nI 32) →
    Q (some (.int (-1000001 : Int32))) s) ∧
  (¬ a1 < (nI 32) →
    (a1 ≤ (nI 126) →
      sh s a0 5 8 ∧ ∃ r1, rf s a0 4 r1 ∧ sh s r1 4 5 ∧ cI E 51 [.ref r1, .int (a1.toUInt32 % 65536).toInt32] s (fun x3 s2 =>
      (x3 = (nI 0) →
        Q (some (.int (-1000003 : Int32))) s2) ∧
      (¬ x3 = (nI 0) →
        sh s2 a0 5 8 ∧ ∃ r4, rf s2 a0 4 r4 ∧ sh s2 r4 4 5 ∧ Q (some (.int (gI s2 r4 1))) s2))) ∧
    (¬ a1 ≤ (nI 126) →
      Q (some (.int (-1000001 : Int32))) s))) : wp E 78 0 [.ref a0, .int a1] [] s Q := vc_ok E 78 [] Q 18 false 0 _ _ _ h
-- 79 CoatedBridges.clearText()I
theorem sg79_0 {E : AEnv} {a0 : Nat} {s : ASt} {Q : Option Value → ASt → Prop} (h :
  sh s a0 5 8 ∧ ∃ r1, rf s a0 4 r1 ∧ sh s r1 4 5 ∧ sh s a0 5 8 ∧ ∃ r2, rf s a0 4 r2 ∧ sh s r2 4 5 ∧ nw (wrI s r2 1 (nI 0)) (fun s3 =>
  Q (some (.int (gI s r1 1))) s3)) : wp E 79 0 [.ref a0] [] s Q := vc_ok E 79 [] Q 11 false 0 _ _ _ h
-- 80 CoatedBridges.fault(I)I
theorem sg80_0 {E : AEnv} {a0 : Nat} {a1 : Int32} {s : ASt} {Q : Option Value → ASt → Prop} (h :
  (a1 < (nI 0) →
    Q (some (.int (-1000001 : Int32))) s) ∧
  (¬ a1 < (nI 0) →
    (a1 ≤ (nI 2) →
      sh s a0 5 8 ∧ cR E 82 [.ref a0] s (fun r2 s1 =>
      sh s1 a0 5 8 ∧ cI E 85 [.ref a0, .ref r2] s1 (fun x4 s3 =>
      (x4 < (nI 0) →
        (a1 = (nI 0) →
          sh s3 a0 5 8 ∧ Q (some (.int (gI s3 a0 5))) s3) ∧
        (¬ a1 = (nI 0) →
         (a1 = (nI 1) →
          sh s3 a0 5 8 ∧ Q (some (.int (gI s3 a0 6))) s3) ∧
        (¬ a1 = (nI 1) →
         sh s3 a0 5 8 ∧ Q (some (.int (gI s3 a0 7))) s3))) ∧
      (¬ x4 < (nI 0) →
        Q (some (.int (-1000004 : Int32))) s3)))) ∧
    (¬ a1 ≤ (nI 2) →
      Q (some (.int (-1000001 : Int32))) s))) : wp E 80 0 [.ref a0, .int a1] [] s Q := vc_ok E 80 [] Q 16 false 0 _ _ _ h
-- 81 CoatedBridges.play()I
theorem sg81_0 {E : AEnv} {a0 : Nat} {s : ASt} {Q : Option Value → ASt → Prop} (h :
  sh s a0 5 8 ∧ cR E 82 [.ref a0] s (fun r2 s1 =>
  sh s1 a0 5 8 ∧ cI E 85 [.ref a0, .ref r2] s1 (fun x4 s3 =>
  sh s3 a0 5 8 ∧ cI E 83 [.ref a0, .int x4] s3 (fun x6 s5 =>
  Q (some (.int x6)) s5)))) : wp E 81 0 [.ref a0] [] s Q := vc_ok E 81 [] Q 8 false 0 _ _ _ h
-- 82 CoatedBridges.startTrial()LCoatedBridges$State;
theorem sg82_0 {E : AEnv} {a0 : Nat} {s : ASt} {Q : Option Value → ASt → Prop} (h :
  sh s a0 5 8 ∧ ∃ r1, rf s a0 1 r1 ∧ sh s a0 5 8 ∧ ∃ r2, rf s a0 0 r2 ∧ sh s r1 3 11 ∧ cV E 19 [.ref r1, .ref r2] s (fun s3 =>
  sh s3 a0 5 8 ∧ ∃ r4, rf s3 a0 1 r4 ∧ Q (some (.ref r4)) s3)) : wp E 82 0 [.ref a0] [] s Q := vc_ok E 82 [] Q 9 false 0 _ _ _ h
-- 83 CoatedBridges.settle(I)I
theorem sg83_0 {E : AEnv} {a0 : Nat} {a1 : Int32} {s : ASt} {Q : Option Value → ASt → Prop} (h :
  ((nI 0) ≤ a1 →
    sh s a0 5 8 ∧ ((gI s a0 3) < (nI 4) →
      sh s a0 5 8 ∧ ∃ r1, rf s a0 2 r1 ∧ sh s a0 5 8 ∧ ∃ n2 r3, sh s r1 15 n2 ∧ vp_in (gI s a0 3) n2 ∧ rf s r1 ((gI s a0 3)).toNatClampNeg r3 ∧ sh s a0 5 8 ∧ ∃ r4, rf s a0 2 r4 ∧ sh s a0 5 8 ∧ sh s a0 5 8 ∧ ∃ r5, rf s a0 0 r5 ∧ ∃ n6, sh s r4 15 n6 ∧ vp_in (gI s a0 3) n6 ∧ sh s r5 3 11 ∧ nw (wrR s r4 ((gI s a0 3)).toNatClampNeg r5) (fun s7 =>
      sh s7 a0 5 8 ∧ sh s7 a0 5 8 ∧ nw (wrI s7 a0 3 ((gI s7 a0 3) + (nI 1))) (fun s8 =>
      sh s8 a0 5 8 ∧ ∃ r9, rf s8 a0 1 r9 ∧ sh s8 a0 5 8 ∧ nw (wrR s8 a0 0 r9) (fun s10 =>
      sh s10 a0 5 8 ∧ nw (wrR s10 a0 1 r3) (fun s11 =>
      Q (some (.int a1)) s11))))) ∧
    (¬ (gI s a0 3) < (nI 4) →
      sh s a0 5 8 ∧ cV E 84 [.ref a0] s (fun s12 =>
      sh s12 a0 5 8 ∧ ∃ r13, rf s12 a0 2 r13 ∧ sh s12 a0 5 8 ∧ ∃ n14 r15, sh s12 r13 15 n14 ∧ vp_in (gI s12 a0 3) n14 ∧ rf s12 r13 ((gI s12 a0 3)).toNatClampNeg r15 ∧ sh s12 a0 5 8 ∧ ∃ r16, rf s12 a0 2 r16 ∧ sh s12 a0 5 8 ∧ sh s12 a0 5 8 ∧ ∃ r17, rf s12 a0 0 r17 ∧ ∃ n18, sh s12 r16 15 n18 ∧ vp_in (gI s12 a0 3) n18 ∧ sh s12 r17 3 11 ∧ nw (wrR s12 r16 ((gI s12 a0 3)).toNatClampNeg r17) (fun s19 =>
      sh s19 a0 5 8 ∧ sh s19 a0 5 8 ∧ nw (wrI s19 a0 3 ((gI s19 a0 3) + (nI 1))) (fun s20 =>
      sh s20 a0 5 8 ∧ ∃ r21, rf s20 a0 1 r21 ∧ sh s20 a0 5 8 ∧ nw (wrR s20 a0 0 r21) (fun s22 =>
      sh s22 a0 5 8 ∧ nw (wrR s22 a0 1 r15) (fun s23 =>
      Q (some (.int a1)) s23))))))) ∧
  (¬ (nI 0) ≤ a1 →
    Q (some (.int a1)) s)) : wp E 83 0 [.ref a0, .int a1] [] s Q := vc_ok E 83 [] Q 37 false 0 _ _ _ h
-- 84 CoatedBridges.dropOldest()V
theorem sg84_0 {E : AEnv} {a0 : Nat} {s : ASt} {Q : Option Value → ASt → Prop} (h :
  sh s a0 5 8 ∧ ∃ r1, rf s a0 2 r1 ∧ ∃ n2 r3, sh s r1 15 n2 ∧ vp_in (nI 0) n2 ∧ rf s r1 0 r3 ∧ wp E 84 9 [.ref a0, .ref r3, .int (nI 1)] [] s Q) : wp E 84 0 [.ref a0] [] s Q := vc_ok E 84 [9] Q 9 false 0 _ _ _ h
theorem sg84_9 {E : AEnv} {a0 : Nat} {a1 : Nat} {a2 : Int32} {s : ASt} {Q : Option Value → ASt → Prop} (h :
  ((nI 4) ≤ a2 →
    sh s a0 5 8 ∧ ∃ r1, rf s a0 2 r1 ∧ ∃ n2, sh s r1 15 n2 ∧ vp_in (nI 3) n2 ∧ sh s a1 3 11 ∧ nw (wrR s r1 3 a1) (fun s3 =>
    sh s3 a0 5 8 ∧ nw (wrI s3 a0 3 (nI 3)) (fun s4 =>
    Q none s4))) ∧
  (¬ (nI 4) ≤ a2 →
    sh s a0 5 8 ∧ ∃ r5, rf s a0 2 r5 ∧ sh s a0 5 8 ∧ ∃ r6, rf s a0 2 r6 ∧ ∃ n7 r8, sh s r6 15 n7 ∧ vp_in a2 n7 ∧ rf s r6 (a2).toNatClampNeg r8 ∧ ∃ n9, sh s r5 15 n9 ∧ vp_in (a2 - (nI 1)) n9 ∧ sh s r8 3 11 ∧ nw (wrR s r5 ((a2 - (nI 1))).toNatClampNeg r8) (fun s10 =>
    wp E 84 9 [.ref a0, .ref a1, .int (a2 + (nI 1))] [] s10 Q))) : wp E 84 9 [.ref a0, .ref a1, .int a2] [] s Q := vc_ok E 84 [9] Q 17 false 9 _ _ _ h
-- 85 CoatedBridges.obeyText(LCoatedBridges$State;)I
theorem sg85_0 {E : AEnv} {a0 : Nat} {a1 : Nat} {s : ASt} {Q : Option Value → ASt → Prop} (h :
  wp E 85 4 [.ref a0, .ref a1, .int (nI 0), .int (nI 0)] [] s Q) : wp E 85 0 [.ref a0, .ref a1] [] s Q := vc_ok E 85 [4] Q 6 false 0 _ _ _ h
theorem sg85_4 {E : AEnv} {a0 : Nat} {a1 : Nat} {a2 : Int32} {a3 : Int32} {s : ASt} {Q : Option Value → ASt → Prop} (h :
  ((nI 60) ≤ a3 →
    Q (some (.int a3)) s) ∧
  (¬ (nI 60) ≤ a3 →
    sh s a0 5 8 ∧ ∃ r1, rf s a0 4 r1 ∧ sh s r1 4 5 ∧ ((gI s r1 1) ≤ a2 →
      Q (some (.int a3)) s) ∧
    (¬ (gI s r1 1) ≤ a2 →
      sh s a0 5 8 ∧ ∃ r2, rf s a0 4 r2 ∧ sh s r2 4 5 ∧ cI E 52 [.ref r2, .int a2] s (fun x4 s3 =>
      (x4 ≠ (nI 0) →
        sh s3 a0 5 8 ∧ cI E 87 [.ref a0, .ref a1] s3 (fun x6 s5 =>
        ((nI 0) ≤ x6 →
          sh s5 a0 5 8 ∧ ∃ r7, rf s5 a0 4 r7 ∧ sh s5 r7 4 5 ∧ wp E 85 4 [.ref a0, .ref a1, .int (gI s5 r7 4), .int (a3 + (nI 1))] [] s5 Q) ∧
        (¬ (nI 0) ≤ x6 →
          sh s5 a0 5 8 ∧ cV E 86 [.ref a0, .int a2, .int (nI 2), .int x6] s5 (fun s8 =>
          Q (some (.int (-1000002 : Int32))) s8)))) ∧
      (¬ x4 ≠ (nI 0) →
        sh s3 a0 5 8 ∧ ∃ r9, rf s3 a0 4 r9 ∧ sh s3 r9 4 5 ∧ sh s3 a0 5 8 ∧ cV E 86 [.ref a0, .int a2, .int (nI 1), .int ((gI s3 r9 4) - a2)] s3 (fun s10 =>
        Q (some (.int (-1000002 : Int32))) s10)))))) : wp E 85 4 [.ref a0, .ref a1, .int a2, .int a3] [] s Q := vc_ok E 85 [4] Q 27 false 4 _ _ _ h
-- 86 CoatedBridges.noteFault(III)V
theorem sg86_0 {E : AEnv} {a0 : Nat} {a1 : Int32} {a2 : Int32} {a3 : Int32} {s : ASt} {Q : Option Value → ASt → Prop} (h :
  sh s a0 5 8 ∧ nw (wrI s a0 5 a1) (fun s1 =>
  sh s1 a0 5 8 ∧ nw (wrI s1 a0 6 a2) (fun s2 =>
  sh s2 a0 5 8 ∧ nw (wrI s2 a0 7 a3) (fun s3 =>
  Q none s3)))) : wp E 86 0 [.ref a0, .int a1, .int a2, .int a3] [] s Q := vc_ok E 86 [] Q 11 false 0 _ _ _ h
-- 87 CoatedBridges.obeyOrder(LCoatedBridges$State;)I
theorem sg87_0 {E : AEnv} {a0 : Nat} {a1 : Nat} {s : ASt} {Q : Option Value → ASt → Prop} (h :
  sh s a0 5 8 ∧ ∃ r1, rf s a0 4 r1 ∧ sh s r1 4 5 ∧ ∃ r2, rf s r1 2 r2 ∧ ∃ n3, sh s r2 10 n3 ∧ vp_in (nI 0) n3 ∧ sh s a0 5 8 ∧ ∃ r4, rf s a0 4 r4 ∧ sh s r4 4 5 ∧ ((gI s r4 3) = (nI 98) →
    sh s a0 5 8 ∧ ∃ r17, rf s a0 4 r17 ∧ sh s r17 4 5 ∧ ∃ r18, rf s r17 2 r18 ∧ ∃ n19, sh s r18 10 n19 ∧ vp_in (nI 1) n19 ∧ sh s a0 5 8 ∧ ∃ r20, rf s a0 4 r20 ∧ sh s r20 4 5 ∧ ∃ r21, rf s r20 2 r21 ∧ ∃ n22, sh s r21 10 n22 ∧ vp_in (nI 2) n22 ∧ sh s a1 3 11 ∧ cI E 23 [.ref a1, .int (gI s r2 0), .int (gI s r18 1), .int (gI s r21 2)] s (fun x24 s23 =>
    Q (some (.int x24)) s23)) ∧
  (¬ (gI s r4 3) = (nI 98) →
   ((gI s r4 3) = (nI 99) →
    Q (some (.int (-1000001 : Int32))) s) ∧
  (¬ (gI s r4 3) = (nI 99) →
   ((gI s r4 3) = (nI 100) →
    sh s a1 3 11 ∧ cI E 28 [.ref a1, .int (gI s r2 0)] s (fun x16 s15 =>
    Q (some (.int x16)) s15)) ∧
  (¬ (gI s r4 3) = (nI 100) →
   ((gI s r4 3) = (nI 101) →
    Q (some (.int (-1000001 : Int32))) s) ∧
  (¬ (gI s r4 3) = (nI 101) →
   ((gI s r4 3) = (nI 102) →
    sh s a1 3 11 ∧ cI E 24 [.ref a1, .int (gI s r2 0), .int (nI 1)] s (fun x14 s13 =>
    Q (some (.int x14)) s13)) ∧
  (¬ (gI s r4 3) = (nI 102) →
   ((gI s r4 3) = (nI 103) →
    Q (some (.int (-1000001 : Int32))) s) ∧
  (¬ (gI s r4 3) = (nI 103) →
   ((gI s r4 3) = (nI 104) →
    Q (some (.int (-1000001 : Int32))) s) ∧
  (¬ (gI s r4 3) = (nI 104) →
   ((gI s r4 3) = (nI 105) →
    sh s a1 3 11 ∧ cI E 22 [.ref a1, .int (gI s r2 0)] s (fun x12 s11 =>
    Q (some (.int x12)) s11)) ∧
  (¬ (gI s r4 3) = (nI 105) →
   ((gI s r4 3) = (nI 106) →
    Q (some (.int (-1000001 : Int32))) s) ∧
  (¬ (gI s r4 3) = (nI 106) →
   ((gI s r4 3) = (nI 107) →
    Q (some (.int (-1000001 : Int32))) s) ∧
  (¬ (gI s r4 3) = (nI 107) →
   ((gI s r4 3) = (nI 108) →
    Q (some (.int (-1000001 : Int32))) s) ∧
  (¬ (gI s r4 3) = (nI 108) →
   ((gI s r4 3) = (nI 109) →
    Q (some (.int (-1000001 : Int32))) s) ∧
  (¬ (gI s r4 3) = (nI 109) →
   ((gI s r4 3) = (nI 110) →
    Q (some (.int (-1000001 : Int32))) s) ∧
  (¬ (gI s r4 3) = (nI 110) →
   ((gI s r4 3) = (nI 111) →
    Q (some (.int (-1000001 : Int32))) s) ∧
  (¬ (gI s r4 3) = (nI 111) →
   ((gI s r4 3) = (nI 112) →
    sh s a1 3 11 ∧ cI E 26 [.ref a1, .int (gI s r2 0)] s (fun x10 s9 =>
    Q (some (.int x10)) s9)) ∧
  (¬ (gI s r4 3) = (nI 112) →
   ((gI s r4 3) = (nI 113) →
    Q (some (.int (-1000001 : Int32))) s) ∧
  (¬ (gI s r4 3) = (nI 113) →
   ((gI s r4 3) = (nI 114) →
    sh s a1 3 11 ∧ cI E 25 [.ref a1, .int (gI s r2 0)] s (fun x8 s7 =>
    Q (some (.int x8)) s7)) ∧
  (¬ (gI s r4 3) = (nI 114) →
   ((gI s r4 3) = (nI 115) →
    sh s a1 3 11 ∧ cI E 24 [.ref a1, .int (gI s r2 0), .int (nI 0)] s (fun x6 s5 =>
    Q (some (.int x6)) s5)) ∧
  (¬ (gI s r4 3) = (nI 115) →
   Q (some (.int (-1000001 : Int32))) s))))))))))))))))))) : wp E 87 0 [.ref a0, .ref a1] [] s Q := vc_ok E 87 [] Q 25 false 0 _ _ _ h
-- 88 CoatedBridges.holds(II)Z
theorem sg88_0 {E : AEnv} {a0 : Int32} {a1 : Int32} {s : ASt} {Q : Option Value → ASt → Prop} (h :
  (((a0 >>> (a1 &&& 31)) &&& (nI 1)) ≠ (nI 1) →
    fN .boolean (nI 0) = true ∧ Q (some (.int (nI 0))) s) ∧
  (¬ ((a0 >>> (a1 &&& 31)) &&& (nI 1)) ≠ (nI 1) →
    fN .boolean (nI 1) = true ∧ Q (some (.int (nI 1))) s)) : wp E 88 0 [.int a0, .int a1] [] s Q := vc_ok E 88 [] Q 11 false 0 _ _ _ h
-- 89 CoatedBridges.lowestIn(I)I
theorem sg89_0 {E : AEnv} {a0 : Int32} {s : ASt} {Q : Option Value → ASt → Prop} (h :
  cI E 91 [.int a0] s (fun x2 s1 =>
  Q (some (.int x2)) s1)) : wp E 89 0 [.int a0] [] s Q := vc_ok E 89 [] Q 4 false 0 _ _ _ h
-- 90 CoatedBridges.bitsOf(F)I
theorem sg90_0 {E : AEnv} {a0 : UInt32} {s : ASt} {Q : Option Value → ASt → Prop} (h :
  ((nI 0) < (Op.cmpValue (FP.fcmp a0 (0 : UInt32)) .l) →
    wp E 90 15 [.float a0, .int (nI 127), .float a0, .int (nI 0)] [] s Q) ∧
  (¬ (nI 0) < (Op.cmpValue (FP.fcmp a0 (0 : UInt32)) .l) →
    Q (some (.int (nI 0))) s)) : wp E 90 0 [.float a0] [] s Q := vc_ok E 90 [15, 42] Q 12 false 0 _ _ _ h
theorem sg90_15 {E : AEnv} {a0 : UInt32} {a1 : Int32} {a2 : UInt32} {a3 : Int32} {s : ASt} {Q : Option Value → ASt → Prop} (h :
  ((nI 127) ≤ a3 →
    wp E 90 42 [.float a0, .int a1, .float a2, .int (nI 0)] [] s Q) ∧
  (¬ (nI 127) ≤ a3 →
    ((Op.cmpValue (FP.fcmp a2 (1073741824 : UInt32)) .l) < (nI 0) →
      wp E 90 42 [.float a0, .int a1, .float a2, .int (nI 0)] [] s Q) ∧
    (¬ (Op.cmpValue (FP.fcmp a2 (1073741824 : UInt32)) .l) < (nI 0) →
      ((FP.fdiv a2 (1073741824 : UInt32)) &&& 0x7fffffff ≤ 0x7f800000) ∧ wp E 90 15 [.float a0, .int (a1 + (nI 1)), .float (FP.fdiv a2 (1073741824 : UInt32)), .int (a3 + (nI 1))] [] s Q))) : wp E 90 15 [.float a0, .int a1, .float a2, .int a3] [] s Q := vc_ok E 90 [15, 42] Q 16 false 15 _ _ _ h
theorem sg90_42 {E : AEnv} {a0 : UInt32} {a1 : Int32} {a2 : UInt32} {a3 : Int32} {s : ASt} {Q : Option Value → ASt → Prop} (h :
  ((nI 126) ≤ a3 →
    ((FP.fsub a2 (1065353216 : UInt32)) &&& 0x7fffffff ≤ 0x7f800000) ∧ ((FP.fmul (FP.fsub a2 (1065353216 : UInt32)) (1258291200 : UInt32)) &&& 0x7fffffff ≤ 0x7f800000) ∧ Q (some (.int ((a1 <<< ((nI 23) &&& 31)) ||| (FP.f2i (FP.fmul (FP.fsub a2 (1065353216 : UInt32)) (1258291200 : UInt32)))))) s) ∧
  (¬ (nI 126) ≤ a3 →
    ((nI 0) ≤ (Op.cmpValue (FP.fcmp a2 (1065353216 : UInt32)) .g) →
      ((FP.fsub a2 (1065353216 : UInt32)) &&& 0x7fffffff ≤ 0x7f800000) ∧ ((FP.fmul (FP.fsub a2 (1065353216 : UInt32)) (1258291200 : UInt32)) &&& 0x7fffffff ≤ 0x7f800000) ∧ Q (some (.int ((a1 <<< ((nI 23) &&& 31)) ||| (FP.f2i (FP.fmul (FP.fsub a2 (1065353216 : UInt32)) (1258291200 : UInt32)))))) s) ∧
    (¬ (nI 0) ≤ (Op.cmpValue (FP.fcmp a2 (1065353216 : UInt32)) .g) →
      ((FP.fmul a2 (1073741824 : UInt32)) &&& 0x7fffffff ≤ 0x7f800000) ∧ wp E 90 42 [.float a0, .int (a1 + (-1 : Int32)), .float (FP.fmul a2 (1073741824 : UInt32)), .int (a3 + (nI 1))] [] s Q))) : wp E 90 42 [.float a0, .int a1, .float a2, .int a3] [] s Q := vc_ok E 90 [15, 42] Q 19 false 42 _ _ _ h
-- 91 java/lang/Integer.numberOfTrailingZeros(I)I
theorem sg91_0 {E : AEnv} {a0 : Int32} {s : ASt} {Q : Option Value → ASt → Prop} (h :
  ((nI 0) < ((a0 ^^^ (-1 : Int32)) &&& (a0 - (nI 1))) →
    (((a0 ^^^ (-1 : Int32)) &&& (a0 - (nI 1))) ≤ (nI 65536) →
      (((a0 ^^^ (-1 : Int32)) &&& (a0 - (nI 1))) ≤ (nI 256) →
        (((a0 ^^^ (-1 : Int32)) &&& (a0 - (nI 1))) ≤ (nI 16) →
          (((a0 ^^^ (-1 : Int32)) &&& (a0 - (nI 1))) ≤ (nI 4) →
            Q (some (.int ((nI 1) + ((((a0 ^^^ (-1 : Int32)) &&& (a0 - (nI 1)))).toUInt32 >>> (((nI 1)).toUInt32 &&& Int32.toUInt32 31)).toInt32))) s) ∧
          (¬ ((a0 ^^^ (-1 : Int32)) &&& (a0 - (nI 1))) ≤ (nI 4) →
            Q (some (.int (((nI 1) + (nI 2)) + ((((((a0 ^^^ (-1 : Int32)) &&& (a0 - (nI 1)))).toUInt32 >>> (((nI 2)).toUInt32 &&& Int32.toUInt32 31)).toInt32).toUInt32 >>> (((nI 1)).toUInt32 &&& Int32.toUInt32 31)).toInt32))) s)) ∧
        (¬ ((a0 ^^^ (-1 : Int32)) &&& (a0 - (nI 1))) ≤ (nI 16) →
          (((((a0 ^^^ (-1 : Int32)) &&& (a0 - (nI 1)))).toUInt32 >>> (((nI 4)).toUInt32 &&& Int32.toUInt32 31)).toInt32 ≤ (nI 4) →
            Q (some (.int (((nI 1) + (nI 4)) + ((((((a0 ^^^ (-1 : Int32)) &&& (a0 - (nI 1)))).toUInt32 >>> (((nI 4)).toUInt32 &&& Int32.toUInt32 31)).toInt32).toUInt32 >>> (((nI 1)).toUInt32 &&& Int32.toUInt32 31)).toInt32))) s) ∧
          (¬ ((((a0 ^^^ (-1 : Int32)) &&& (a0 - (nI 1)))).toUInt32 >>> (((nI 4)).toUInt32 &&& Int32.toUInt32 31)).toInt32 ≤ (nI 4) →
            Q (some (.int ((((nI 1) + (nI 4)) + (nI 2)) + ((((((((a0 ^^^ (-1 : Int32)) &&& (a0 - (nI 1)))).toUInt32 >>> (((nI 4)).toUInt32 &&& Int32.toUInt32 31)).toInt32).toUInt32 >>> (((nI 2)).toUInt32 &&& Int32.toUInt32 31)).toInt32).toUInt32 >>> (((nI 1)).toUInt32 &&& Int32.toUInt32 31)).toInt32))) s))) ∧
      (¬ ((a0 ^^^ (-1 : Int32)) &&& (a0 - (nI 1))) ≤ (nI 256) →
        (((((a0 ^^^ (-1 : Int32)) &&& (a0 - (nI 1)))).toUInt32 >>> (((nI 8)).toUInt32 &&& Int32.toUInt32 31)).toInt32 ≤ (nI 16) →
          (((((a0 ^^^ (-1 : Int32)) &&& (a0 - (nI 1)))).toUInt32 >>> (((nI 8)).toUInt32 &&& Int32.toUInt32 31)).toInt32 ≤ (nI 4) →
            Q (some (.int (((nI 1) + (nI 8)) + ((((((a0 ^^^ (-1 : Int32)) &&& (a0 - (nI 1)))).toUInt32 >>> (((nI 8)).toUInt32 &&& Int32.toUInt32 31)).toInt32).toUInt32 >>> (((nI 1)).toUInt32 &&& Int32.toUInt32 31)).toInt32))) s) ∧
          (¬ ((((a0 ^^^ (-1 : Int32)) &&& (a0 - (nI 1)))).toUInt32 >>> (((nI 8)).toUInt32 &&& Int32.toUInt32 31)).toInt32 ≤ (nI 4) →
            Q (some (.int ((((nI 1) + (nI 8)) + (nI 2)) + ((((((((a0 ^^^ (-1 : Int32)) &&& (a0 - (nI 1)))).toUInt32 >>> (((nI 8)).toUInt32 &&& Int32.toUInt32 31)).toInt32).toUInt32 >>> (((nI 2)).toUInt32 &&& Int32.toUInt32 31)).toInt32).toUInt32 >>> (((nI 1)).toUInt32 &&& Int32.toUInt32 31)).toInt32))) s)) ∧
        (¬ ((((a0 ^^^ (-1 : Int32)) &&& (a0 - (nI 1)))).toUInt32 >>> (((nI 8)).toUInt32 &&& Int32.toUInt32 31)).toInt32 ≤ (nI 16) →
          (((((((a0 ^^^ (-1 : Int32)) &&& (a0 - (nI 1)))).toUInt32 >>> (((nI 8)).toUInt32 &&& Int32.toUInt32 31)).toInt32).toUInt32 >>> (((nI 4)).toUInt32 &&& Int32.toUInt32 31)).toInt32 ≤ (nI 4) →
            Q (some (.int ((((nI 1) + (nI 8)) + (nI 4)) + ((((((((a0 ^^^ (-1 : Int32)) &&& (a0 - (nI 1)))).toUInt32 >>> (((nI 8)).toUInt32 &&& Int32.toUInt32 31)).toInt32).toUInt32 >>> (((nI 4)).toUInt32 &&& Int32.toUInt32 31)).toInt32).toUInt32 >>> (((nI 1)).toUInt32 &&& Int32.toUInt32 31)).toInt32))) s) ∧
          (¬ ((((((a0 ^^^ (-1 : Int32)) &&& (a0 - (nI 1)))).toUInt32 >>> (((nI 8)).toUInt32 &&& Int32.toUInt32 31)).toInt32).toUInt32 >>> (((nI 4)).toUInt32 &&& Int32.toUInt32 31)).toInt32 ≤ (nI 4) →
            Q (some (.int (((((nI 1) + (nI 8)) + (nI 4)) + (nI 2)) + ((((((((((a0 ^^^ (-1 : Int32)) &&& (a0 - (nI 1)))).toUInt32 >>> (((nI 8)).toUInt32 &&& Int32.toUInt32 31)).toInt32).toUInt32 >>> (((nI 4)).toUInt32 &&& Int32.toUInt32 31)).toInt32).toUInt32 >>> (((nI 2)).toUInt32 &&& Int32.toUInt32 31)).toInt32).toUInt32 >>> (((nI 1)).toUInt32 &&& Int32.toUInt32 31)).toInt32))) s)))) ∧
    (¬ ((a0 ^^^ (-1 : Int32)) &&& (a0 - (nI 1))) ≤ (nI 65536) →
      (((((a0 ^^^ (-1 : Int32)) &&& (a0 - (nI 1)))).toUInt32 >>> (((nI 16)).toUInt32 &&& Int32.toUInt32 31)).toInt32 ≤ (nI 256) →
        (((((a0 ^^^ (-1 : Int32)) &&& (a0 - (nI 1)))).toUInt32 >>> (((nI 16)).toUInt32 &&& Int32.toUInt32 31)).toInt32 ≤ (nI 16) →
          (((((a0 ^^^ (-1 : Int32)) &&& (a0 - (nI 1)))).toUInt32 >>> (((nI 16)).toUInt32 &&& Int32.toUInt32 31)).toInt32 ≤ (nI 4) →
            Q (some (.int (((nI 1) + (nI 16)) + ((((((a0 ^^^ (-1 : Int32)) &&& (a0 - (nI 1)))).toUInt32 >>> (((nI 16)).toUInt32 &&& Int32.toUInt32 31)).toInt32).toUInt32 >>> (((nI 1)).toUInt32 &&& Int32.toUInt32 31)).toInt32))) s) ∧
          (¬ ((((a0 ^^^ (-1 : Int32)) &&& (a0 - (nI 1)))).toUInt32 >>> (((nI 16)).toUInt32 &&& Int32.toUInt32 31)).toInt32 ≤ (nI 4) →
            Q (some (.int ((((nI 1) + (nI 16)) + (nI 2)) + ((((((((a0 ^^^ (-1 : Int32)) &&& (a0 - (nI 1)))).toUInt32 >>> (((nI 16)).toUInt32 &&& Int32.toUInt32 31)).toInt32).toUInt32 >>> (((nI 2)).toUInt32 &&& Int32.toUInt32 31)).toInt32).toUInt32 >>> (((nI 1)).toUInt32 &&& Int32.toUInt32 31)).toInt32))) s)) ∧
        (¬ ((((a0 ^^^ (-1 : Int32)) &&& (a0 - (nI 1)))).toUInt32 >>> (((nI 16)).toUInt32 &&& Int32.toUInt32 31)).toInt32 ≤ (nI 16) →
          (((((((a0 ^^^ (-1 : Int32)) &&& (a0 - (nI 1)))).toUInt32 >>> (((nI 16)).toUInt32 &&& Int32.toUInt32 31)).toInt32).toUInt32 >>> (((nI 4)).toUInt32 &&& Int32.toUInt32 31)).toInt32 ≤ (nI 4) →
            Q (some (.int ((((nI 1) + (nI 16)) + (nI 4)) + ((((((((a0 ^^^ (-1 : Int32)) &&& (a0 - (nI 1)))).toUInt32 >>> (((nI 16)).toUInt32 &&& Int32.toUInt32 31)).toInt32).toUInt32 >>> (((nI 4)).toUInt32 &&& Int32.toUInt32 31)).toInt32).toUInt32 >>> (((nI 1)).toUInt32 &&& Int32.toUInt32 31)).toInt32))) s) ∧
          (¬ ((((((a0 ^^^ (-1 : Int32)) &&& (a0 - (nI 1)))).toUInt32 >>> (((nI 16)).toUInt32 &&& Int32.toUInt32 31)).toInt32).toUInt32 >>> (((nI 4)).toUInt32 &&& Int32.toUInt32 31)).toInt32 ≤ (nI 4) →
            Q (some (.int (((((nI 1) + (nI 16)) + (nI 4)) + (nI 2)) + ((((((((((a0 ^^^ (-1 : Int32)) &&& (a0 - (nI 1)))).toUInt32 >>> (((nI 16)).toUInt32 &&& Int32.toUInt32 31)).toInt32).toUInt32 >>> (((nI 4)).toUInt32 &&& Int32.toUInt32 31)).toInt32).toUInt32 >>> (((nI 2)).toUInt32 &&& Int32.toUInt32 31)).toInt32).toUInt32 >>> (((nI 1)).toUInt32 &&& Int32.toUInt32 31)).toInt32))) s))) ∧
      (¬ ((((a0 ^^^ (-1 : Int32)) &&& (a0 - (nI 1)))).toUInt32 >>> (((nI 16)).toUInt32 &&& Int32.toUInt32 31)).toInt32 ≤ (nI 256) →
        (((((((a0 ^^^ (-1 : Int32)) &&& (a0 - (nI 1)))).toUInt32 >>> (((nI 16)).toUInt32 &&& Int32.toUInt32 31)).toInt32).toUInt32 >>> (((nI 8)).toUInt32 &&& Int32.toUInt32 31)).toInt32 ≤ (nI 16) →
          (((((((a0 ^^^ (-1 : Int32)) &&& (a0 - (nI 1)))).toUInt32 >>> (((nI 16)).toUInt32 &&& Int32.toUInt32 31)).toInt32).toUInt32 >>> (((nI 8)).toUInt32 &&& Int32.toUInt32 31)).toInt32 ≤ (nI 4) →
            Q (some (.int ((((nI 1) + (nI 16)) + (nI 8)) + ((((((((a0 ^^^ (-1 : Int32)) &&& (a0 - (nI 1)))).toUInt32 >>> (((nI 16)).toUInt32 &&& Int32.toUInt32 31)).toInt32).toUInt32 >>> (((nI 8)).toUInt32 &&& Int32.toUInt32 31)).toInt32).toUInt32 >>> (((nI 1)).toUInt32 &&& Int32.toUInt32 31)).toInt32))) s) ∧
          (¬ ((((((a0 ^^^ (-1 : Int32)) &&& (a0 - (nI 1)))).toUInt32 >>> (((nI 16)).toUInt32 &&& Int32.toUInt32 31)).toInt32).toUInt32 >>> (((nI 8)).toUInt32 &&& Int32.toUInt32 31)).toInt32 ≤ (nI 4) →
            Q (some (.int (((((nI 1) + (nI 16)) + (nI 8)) + (nI 2)) + ((((((((((a0 ^^^ (-1 : Int32)) &&& (a0 - (nI 1)))).toUInt32 >>> (((nI 16)).toUInt32 &&& Int32.toUInt32 31)).toInt32).toUInt32 >>> (((nI 8)).toUInt32 &&& Int32.toUInt32 31)).toInt32).toUInt32 >>> (((nI 2)).toUInt32 &&& Int32.toUInt32 31)).toInt32).toUInt32 >>> (((nI 1)).toUInt32 &&& Int32.toUInt32 31)).toInt32))) s)) ∧
        (¬ ((((((a0 ^^^ (-1 : Int32)) &&& (a0 - (nI 1)))).toUInt32 >>> (((nI 16)).toUInt32 &&& Int32.toUInt32 31)).toInt32).toUInt32 >>> (((nI 8)).toUInt32 &&& Int32.toUInt32 31)).toInt32 ≤ (nI 16) →
          (((((((((a0 ^^^ (-1 : Int32)) &&& (a0 - (nI 1)))).toUInt32 >>> (((nI 16)).toUInt32 &&& Int32.toUInt32 31)).toInt32).toUInt32 >>> (((nI 8)).toUInt32 &&& Int32.toUInt32 31)).toInt32).toUInt32 >>> (((nI 4)).toUInt32 &&& Int32.toUInt32 31)).toInt32 ≤ (nI 4) →
            Q (some (.int (((((nI 1) + (nI 16)) + (nI 8)) + (nI 4)) + ((((((((((a0 ^^^ (-1 : Int32)) &&& (a0 - (nI 1)))).toUInt32 >>> (((nI 16)).toUInt32 &&& Int32.toUInt32 31)).toInt32).toUInt32 >>> (((nI 8)).toUInt32 &&& Int32.toUInt32 31)).toInt32).toUInt32 >>> (((nI 4)).toUInt32 &&& Int32.toUInt32 31)).toInt32).toUInt32 >>> (((nI 1)).toUInt32 &&& Int32.toUInt32 31)).toInt32))) s) ∧
          (¬ ((((((((a0 ^^^ (-1 : Int32)) &&& (a0 - (nI 1)))).toUInt32 >>> (((nI 16)).toUInt32 &&& Int32.toUInt32 31)).toInt32).toUInt32 >>> (((nI 8)).toUInt32 &&& Int32.toUInt32 31)).toInt32).toUInt32 >>> (((nI 4)).toUInt32 &&& Int32.toUInt32 31)).toInt32 ≤ (nI 4) →
            Q (some (.int ((((((nI 1) + (nI 16)) + (nI 8)) + (nI 4)) + (nI 2)) + ((((((((((((a0 ^^^ (-1 : Int32)) &&& (a0 - (nI 1)))).toUInt32 >>> (((nI 16)).toUInt32 &&& Int32.toUInt32 31)).toInt32).toUInt32 >>> (((nI 8)).toUInt32 &&& Int32.toUInt32 31)).toInt32).toUInt32 >>> (((nI 4)).toUInt32 &&& Int32.toUInt32 31)).toInt32).toUInt32 >>> (((nI 2)).toUInt32 &&& Int32.toUInt32 31)).toInt32).toUInt32 >>> (((nI 1)).toUInt32 &&& Int32.toUInt32 31)).toInt32))) s))))) ∧
  (¬ (nI 0) < ((a0 ^^^ (-1 : Int32)) &&& (a0 - (nI 1))) →
    Q (some (.int (((a0 ^^^ (-1 : Int32)) &&& (a0 - (nI 1))) &&& (nI 32)))) s)) : wp E 91 0 [.int a0] [] s Q := vc_ok E 91 [] Q 51 false 0 _ _ _ h
-- 92 java/lang/Integer.bitCount(I)I
theorem sg92_0 {E : AEnv} {a0 : Int32} {s : ASt} {Q : Option Value → ASt → Prop} (h :
  Q (some (.int ((((((((a0 - (((a0).toUInt32 >>> (((nI 1)).toUInt32 &&& Int32.toUInt32 31)).toInt32 &&& (nI 1431655765))) &&& (nI 858993459)) + ((((a0 - (((a0).toUInt32 >>> (((nI 1)).toUInt32 &&& Int32.toUInt32 31)).toInt32 &&& (nI 1431655765)))).toUInt32 >>> (((nI 2)).toUInt32 &&& Int32.toUInt32 31)).toInt32 &&& (nI 858993459))) + (((((a0 - (((a0).toUInt32 >>> (((nI 1)).toUInt32 &&& Int32.toUInt32 31)).toInt32 &&& (nI 1431655765))) &&& (nI 858993459)) + ((((a0 - (((a0).toUInt32 >>> (((nI 1)).toUInt32 &&& Int32.toUInt32 31)).toInt32 &&& (nI 1431655765)))).toUInt32 >>> (((nI 2)).toUInt32 &&& Int32.toUInt32 31)).toInt32 &&& (nI 858993459)))).toUInt32 >>> (((nI 4)).toUInt32 &&& Int32.toUInt32 31)).toInt32) &&& (nI 252645135)) + (((((((a0 - (((a0).toUInt32 >>> (((nI 1)).toUInt32 &&& Int32.toUInt32 31)).toInt32 &&& (nI 1431655765))) &&& (nI 858993459)) + ((((a0 - (((a0).toUInt32 >>> (((nI 1)).toUInt32 &&& Int32.toUInt32 31)).toInt32 &&& (nI 1431655765)))).toUInt32 >>> (((nI 2)).toUInt32 &&& Int32.toUInt32 31)).toInt32 &&& (nI 858993459))) + (((((a0 - (((a0).toUInt32 >>> (((nI 1)).toUInt32 &&& Int32.toUInt32 31)).toInt32 &&& (nI 1431655765))) &&& (nI 858993459)) + ((((a0 - (((a0).toUInt32 >>> (((nI 1)).toUInt32 &&& Int32.toUInt32 31)).toInt32 &&& (nI 1431655765)))).toUInt32 >>> (((nI 2)).toUInt32 &&& Int32.toUInt32 31)).toInt32 &&& (nI 858993459)))).toUInt32 >>> (((nI 4)).toUInt32 &&& Int32.toUInt32 31)).toInt32) &&& (nI 252645135))).toUInt32 >>> (((nI 8)).toUInt32 &&& Int32.toUInt32 31)).toInt32) + ((((((((a0 - (((a0).toUInt32 >>> (((nI 1)).toUInt32 &&& Int32.toUInt32 31)).toInt32 &&& (nI 1431655765))) &&& (nI 858993459)) + ((((a0 - (((a0).toUInt32 >>> (((nI 1)).toUInt32 &&& Int32.toUInt32 31)).toInt32 &&& (nI 1431655765)))).toUInt32 >>> (((nI 2)).toUInt32 &&& Int32.toUInt32 31)).toInt32 &&& (nI 858993459))) + (((((a0 - (((a0).toUInt32 >>> (((nI 1)).toUInt32 &&& Int32.toUInt32 31)).toInt32 &&& (nI 1431655765))) &&& (nI 858993459)) + ((((a0 - (((a0).toUInt32 >>> (((nI 1)).toUInt32 &&& Int32.toUInt32 31)).toInt32 &&& (nI 1431655765)))).toUInt32 >>> (((nI 2)).toUInt32 &&& Int32.toUInt32 31)).toInt32 &&& (nI 858993459)))).toUInt32 >>> (((nI 4)).toUInt32 &&& Int32.toUInt32 31)).toInt32) &&& (nI 252645135)) + (((((((a0 - (((a0).toUInt32 >>> (((nI 1)).toUInt32 &&& Int32.toUInt32 31)).toInt32 &&& (nI 1431655765))) &&& (nI 858993459)) + ((((a0 - (((a0).toUInt32 >>> (((nI 1)).toUInt32 &&& Int32.toUInt32 31)).toInt32 &&& (nI 1431655765)))).toUInt32 >>> (((nI 2)).toUInt32 &&& Int32.toUInt32 31)).toInt32 &&& (nI 858993459))) + (((((a0 - (((a0).toUInt32 >>> (((nI 1)).toUInt32 &&& Int32.toUInt32 31)).toInt32 &&& (nI 1431655765))) &&& (nI 858993459)) + ((((a0 - (((a0).toUInt32 >>> (((nI 1)).toUInt32 &&& Int32.toUInt32 31)).toInt32 &&& (nI 1431655765)))).toUInt32 >>> (((nI 2)).toUInt32 &&& Int32.toUInt32 31)).toInt32 &&& (nI 858993459)))).toUInt32 >>> (((nI 4)).toUInt32 &&& Int32.toUInt32 31)).toInt32) &&& (nI 252645135))).toUInt32 >>> (((nI 8)).toUInt32 &&& Int32.toUInt32 31)).toInt32)).toUInt32 >>> (((nI 16)).toUInt32 &&& Int32.toUInt32 31)).toInt32) &&& (nI 63)))) s) : wp E 92 0 [.int a0] [] s Q := vc_ok E 92 [] Q 43 false 0 _ _ _ h
-- 93 java/lang/Math.max(II)I
theorem sg93_0 {E : AEnv} {a0 : Int32} {a1 : Int32} {s : ASt} {Q : Option Value → ASt → Prop} (h :
  (a0 < a1 →
    Q (some (.int a1)) s) ∧
  (¬ a0 < a1 →
    Q (some (.int a0)) s)) : wp E 93 0 [.int a0, .int a1] [] s Q := vc_ok E 93 [] Q 7 false 0 _ _ _ h
-- 94 java/lang/Math.min(II)I
theorem sg94_0 {E : AEnv} {a0 : Int32} {a1 : Int32} {s : ASt} {Q : Option Value → ASt → Prop} (h :
  (a1 < a0 →
    Q (some (.int a1)) s) ∧
  (¬ a1 < a0 →
    Q (some (.int a0)) s)) : wp E 94 0 [.int a0, .int a1] [] s Q := vc_ok E 94 [] Q 7 false 0 _ _ _ h
-- 95 CoatedBridgesLaw.lot([II)I
def dc95 : List (Nat × Bool) := []
set_option maxRecDepth 100000 in
theorem sg95_0 {E : AEnv} {a1 : Int32} {s : ASt} {Q : Option Value → ASt → Prop} (h :
  ((Int32.ofNat (E 3).1) ≤ a1 →
    Q (some (.int (((-169810581 : Int32) * (a1 + (nI 4327))) + (nI 4091)))) s) ∧
  (¬ (Int32.ofNat (E 3).1) ≤ a1 →
    vp_in a1 (E 3).1 ∧ Q (some (.int ((E 3).2 (a1).toNatClampNeg))) s)) : wp E 95 0 [.ref 1003, .int a1] [] s Q := vcD_ok E 95 [] Q dc95 13 false 0 _ _ _ h
-- 96 CoatedBridgesLaw.low(II)I
def dc96 : List (Nat × Bool) := []
set_option maxRecDepth 100000 in
theorem sg96_0 {E : AEnv} {a0 : Int32} {a1 : Int32} {s : ASt} {Q : Option Value → ASt → Prop} (h :
  ¬ a1 = 0 ∧ Q (some (.int ((a0 &&& (nI 2147483647)) - (a0 &&& (nI 2147483647)) / a1 * a1))) s) : wp E 96 0 [.int a0, .int a1] [] s Q := vcD_ok E 96 [] Q dc96 7 false 0 _ _ _ h
-- 97 CoatedBridgesLaw.look(LCoatedBridges;)J
def dc97 : List (Nat × Bool) := []
set_option maxRecDepth 100000 in
theorem sg97_0 {E : AEnv} {a0 : Nat} {s : ASt} {Q : Option Value → ASt → Prop} (h :
  wp E 97 6 [.ref a0, .long (367 : Int64), .double 0, .int (nI 0)] [] s Q) : wp E 97 0 [.ref a0] [] s Q := vcD_ok E 97 [6, 34, 61, 73, 109, 121, 157] Q dc97 6 false 0 _ _ _ h
set_option maxRecDepth 100000 in
theorem sg97_6 {E : AEnv} {a0 : Nat} {a1 : Int64} {a3 : Int32} {s : ASt} {Q : Option Value → ASt → Prop} (h :
  ((nI 18) ≤ a3 →
    wp E 97 34 [.ref a0, .long a1, .double 0, .int (nI 20)] [] s Q) ∧
  (¬ (nI 18) ≤ a3 →
    sh s a0 5 8 ∧ cI E 76 [.ref a0, .int a3] s (fun x2 s1 =>
    wp E 97 6 [.ref a0, .long (((31 : Int64) * a1) + (x2).toInt64), .double 0, .int (a3 + (nI 1))] [] s1 Q))) : wp E 97 6 [.ref a0, .long a1, .double 0, .int a3] [] s Q := vcD_ok E 97 [6, 34, 61, 73, 109, 121, 157] Q dc97 16 false 6 _ _ _ h
set_option maxRecDepth 100000 in
theorem sg97_34 {E : AEnv} {a0 : Nat} {a1 : Int64} {a3 : Int32} {s : ASt} {Q : Option Value → ASt → Prop} (h :
  ((nI 28) ≤ a3 →
    wp E 97 61 [.ref a0, .long a1, .double 0, .int (nI 0)] [] s Q) ∧
  (¬ (nI 28) ≤ a3 →
    sh s a0 5 8 ∧ cI E 76 [.ref a0, .int a3] s (fun x2 s1 =>
    wp E 97 34 [.ref a0, .long (((31 : Int64) * a1) + (x2).toInt64), .double 0, .int (a3 + (nI 1))] [] s1 Q))) : wp E 97 34 [.ref a0, .long a1, .double 0, .int a3] [] s Q := vcD_ok E 97 [6, 34, 61, 73, 109, 121, 157] Q dc97 16 false 34 _ _ _ h
set_option maxRecDepth 100000 in
theorem sg97_61 {E : AEnv} {a0 : Nat} {a1 : Int64} {a3 : Int32} {s : ASt} {Q : Option Value → ASt → Prop} (h :
  sh s a0 5 8 ∧ cI E 76 [.ref a0, .int (nI 2)] s (fun x2 s1 =>
  (x2 ≤ a3 →
    wp E 97 109 [.ref a0, .long a1, .double 0, .int (nI 0)] [] s1 Q) ∧
  (¬ x2 ≤ a3 →
    wp E 97 73 [.ref a0, .long a1, .double 0, .int a3, .int (nI 0)] [] s1 Q))) : wp E 97 61 [.ref a0, .long a1, .double 0, .int a3] [] s Q := vcD_ok E 97 [6, 34, 61, 73, 109, 121, 157] Q dc97 9 false 61 _ _ _ h
set_option maxRecDepth 100000 in
theorem sg97_73 {E : AEnv} {a0 : Nat} {a1 : Int64} {a3 : Int32} {a4 : Int32} {s : ASt} {Q : Option Value → ASt → Prop} (h :
  ((nI 8) ≤ a4 →
    wp E 97 61 [.ref a0, .long a1, .double 0, .int (a3 + (nI 1))] [] s Q) ∧
  (¬ (nI 8) ≤ a4 →
    sh s a0 5 8 ∧ cI E 65 [.ref a0, .int a3, .int a4] s (fun x2 s1 =>
    wp E 97 73 [.ref a0, .long (((31 : Int64) * a1) + (x2).toInt64), .double 0, .int a3, .int (a4 + (nI 1))] [] s1 Q))) : wp E 97 73 [.ref a0, .long a1, .double 0, .int a3, .int a4] [] s Q := vcD_ok E 97 [6, 34, 61, 73, 109, 121, 157] Q dc97 17 false 73 _ _ _ h
set_option maxRecDepth 100000 in
theorem sg97_109 {E : AEnv} {a0 : Nat} {a1 : Int64} {a3 : Int32} {s : ASt} {Q : Option Value → ASt → Prop} (h :
  sh s a0 5 8 ∧ cI E 76 [.ref a0, .int (nI 1)] s (fun x2 s1 =>
  (x2 ≤ a3 →
    wp E 97 157 [.ref a0, .long a1, .double 0, .int (nI 0)] [] s1 Q) ∧
  (¬ x2 ≤ a3 →
    wp E 97 121 [.ref a0, .long a1, .double 0, .int a3, .int (nI 1)] [] s1 Q))) : wp E 97 109 [.ref a0, .long a1, .double 0, .int a3] [] s Q := vcD_ok E 97 [6, 34, 61, 73, 109, 121, 157] Q dc97 9 false 109 _ _ _ h
set_option maxRecDepth 100000 in
theorem sg97_121 {E : AEnv} {a0 : Nat} {a1 : Int64} {a3 : Int32} {a4 : Int32} {s : ASt} {Q : Option Value → ASt → Prop} (h :
  ((nI 6) ≤ a4 →
    wp E 97 109 [.ref a0, .long a1, .double 0, .int (a3 + (nI 1))] [] s Q) ∧
  (¬ (nI 6) ≤ a4 →
    sh s a0 5 8 ∧ cI E 66 [.ref a0, .int a3, .int a4] s (fun x2 s1 =>
    wp E 97 121 [.ref a0, .long (((31 : Int64) * a1) + (x2).toInt64), .double 0, .int a3, .int (a4 + (nI 1))] [] s1 Q))) : wp E 97 121 [.ref a0, .long a1, .double 0, .int a3, .int a4] [] s Q := vcD_ok E 97 [6, 34, 61, 73, 109, 121, 157] Q dc97 17 false 121 _ _ _ h
set_option maxRecDepth 100000 in
theorem sg97_157 {E : AEnv} {a0 : Nat} {a1 : Int64} {a3 : Int32} {s : ASt} {Q : Option Value → ASt → Prop} (h :
  sh s a0 5 8 ∧ cI E 76 [.ref a0, .int (nI 17)] s (fun x2 s1 =>
  (x2 ≤ a3 →
    Q (some (.long a1)) s1) ∧
  (¬ x2 ≤ a3 →
    sh s1 a0 5 8 ∧ cI E 68 [.ref a0, .int a3, .int (nI 0)] s1 (fun x4 s3 =>
    sh s3 a0 5 8 ∧ cI E 68 [.ref a0, .int a3, .int (nI 1)] s3 (fun x6 s5 =>
    wp E 97 157 [.ref a0, .long (((31 : Int64) * (((31 : Int64) * a1) + (x4).toInt64)) + (x6).toInt64), .double 0, .int (a3 + (nI 1))] [] s5 Q))))) : wp E 97 157 [.ref a0, .long a1, .double 0, .int a3] [] s Q := vcD_ok E 97 [6, 34, 61, 73, 109, 121, 157] Q dc97 27 false 157 _ _ _ h
