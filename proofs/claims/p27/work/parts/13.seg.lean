-- 104 CoatedBridgesLaw.acts(LCoatedBridges;II)Z
def dc104 : List (Nat × Bool) := [(85, false), (114, false), (264, false), (281, false), (293, false), (305, false), (317, false), (327, false), (342, false), (453, false), (581, false), (591, false), (606, false), (619, false), (633, false), (799, false), (830, false)]
set_option maxRecDepth 100000 in
theorem sg104_0 {E : AEnv} {a0 : Nat} {a1 : Int32} {a2 : Int32} {s : ASt} {Q : Option Value → ASt → Prop} (h :
  cI E 96 [.int a1, .int (nI 24)] s (fun x2 s1 =>
  sh s1 a0 5 8 ∧ cI E 76 [.ref a0, .int (nI 1)] s1 (fun x4 s3 =>
  sh s3 a0 5 8 ∧ cI E 76 [.ref a0, .int (nI 2)] s3 (fun x6 s5 =>
  ((nI 2) ≤ x2 →
    wp E 104 123 [.ref a0, .int a1, .int a2, .int x2, .int x4, .int x6] [] s5 Q) ∧
  (¬ (nI 2) ≤ x2 →
    cI E 96 [.int a2, .int (nI 102)] s5 (fun x8 s7 =>
    ((x8 - (nI 1)) < (nI 0) →
      wp E 104 53 [.ref a0, .int a1, .int a2, .int x2, .int x4, .int x6, .int (x8 - (nI 1))] [.int (nI 1)] s7 Q) ∧
    (¬ (x8 - (nI 1)) < (nI 0) →
      ((x8 - (nI 1)) ≠ (nI 100) →
        wp E 104 53 [.ref a0, .int a1, .int a2, .int x2, .int x4, .int x6, .int (x8 - (nI 1))] [.int (nI 0)] s7 Q) ∧
      (¬ (x8 - (nI 1)) ≠ (nI 100) →
        wp E 104 53 [.ref a0, .int a1, .int a2, .int x2, .int x4, .int x6, .int (x8 - (nI 1))] [.int (nI 1)] s7 Q)))))))) : wp E 104 0 [.ref a0, .int a1, .int a2] [] s Q := vcD_ok E 104 [53, 114, 123, 171, 190, 224, 264, 351, 374, 407, 453, 462, 487, 509, 533, 581, 642, 718, 755, 777, 799, 839] Q dc104 30 false 0 _ _ _ h
set_option maxRecDepth 100000 in
theorem sg104_53 {E : AEnv} {a0 : Nat} {a1 : Int32} {a2 : Int32} {a3 : Int32} {a4 : Int32} {a5 : Int32} {a6 : Int32} {b0 : Int32} {s : ASt} {Q : Option Value → ASt → Prop} (h :
  sh s a0 5 8 ∧ cI E 58 [.ref a0, .int a6] s (fun x2 s1 =>
  (b0 = (nI 0) →
    (a4 ≠ (nI 8) →
      ¬ x2 ≠ a4 ∧ sh s1 a0 5 8 ∧ cI E 76 [.ref a0, .int (nI 1)] s1 (fun x4 s3 =>
      (b0 ≠ (nI 0) →
        wp E 104 114 [.ref a0, .int a1, .int a2, .int a3, .int a4, .int a5, .int a6, .int b0] [.int a4, .int x4] s3 Q) ∧
      (¬ b0 ≠ (nI 0) →
        (a4 ≠ (nI 8) →
          wp E 104 114 [.ref a0, .int a1, .int a2, .int a3, .int a4, .int a5, .int a6, .int b0] [.int (a4 + (nI 1)), .int x4] s3 Q) ∧
        (¬ a4 ≠ (nI 8) →
          wp E 104 114 [.ref a0, .int a1, .int a2, .int a3, .int a4, .int a5, .int a6, .int b0] [.int a4, .int x4] s3 Q)))) ∧
    (¬ a4 ≠ (nI 8) →
      ¬ x2 ≠ (-1000003 : Int32) ∧ sh s1 a0 5 8 ∧ cI E 76 [.ref a0, .int (nI 1)] s1 (fun x6 s5 =>
      (b0 ≠ (nI 0) →
        wp E 104 114 [.ref a0, .int a1, .int a2, .int a3, .int a4, .int a5, .int a6, .int b0] [.int a4, .int x6] s5 Q) ∧
      (¬ b0 ≠ (nI 0) →
        (a4 ≠ (nI 8) →
          wp E 104 114 [.ref a0, .int a1, .int a2, .int a3, .int a4, .int a5, .int a6, .int b0] [.int (a4 + (nI 1)), .int x6] s5 Q) ∧
        (¬ a4 ≠ (nI 8) →
          wp E 104 114 [.ref a0, .int a1, .int a2, .int a3, .int a4, .int a5, .int a6, .int b0] [.int a4, .int x6] s5 Q))))) ∧
  (¬ b0 = (nI 0) →
    ¬ x2 ≠ (-1000001 : Int32) ∧ sh s1 a0 5 8 ∧ cI E 76 [.ref a0, .int (nI 1)] s1 (fun x8 s7 =>
    (b0 ≠ (nI 0) →
      wp E 104 114 [.ref a0, .int a1, .int a2, .int a3, .int a4, .int a5, .int a6, .int b0] [.int a4, .int x8] s7 Q) ∧
    (¬ b0 ≠ (nI 0) →
      (a4 ≠ (nI 8) →
        wp E 104 114 [.ref a0, .int a1, .int a2, .int a3, .int a4, .int a5, .int a6, .int b0] [.int (a4 + (nI 1)), .int x8] s7 Q) ∧
      (¬ a4 ≠ (nI 8) →
        wp E 104 114 [.ref a0, .int a1, .int a2, .int a3, .int a4, .int a5, .int a6, .int b0] [.int a4, .int x8] s7 Q)))))) : wp E 104 53 [.ref a0, .int a1, .int a2, .int a3, .int a4, .int a5, .int a6] [.int b0] s Q := vcD_ok E 104 [53, 114, 123, 171, 190, 224, 264, 351, 374, 407, 453, 462, 487, 509, 533, 581, 642, 718, 755, 777, 799, 839] Q dc104 25 false 53 _ _ _ h
set_option maxRecDepth 100000 in
theorem sg104_114 {E : AEnv} {a0 : Nat} {a1 : Int32} {a2 : Int32} {a3 : Int32} {a4 : Int32} {a5 : Int32} {a6 : Int32} {a7 : Int32} {b0 : Int32} {b1 : Int32} {s : ASt} {Q : Option Value → ASt → Prop} (h :
  ¬ b1 ≠ b0 ∧ fN .boolean (nI 1) = true ∧ Q (some (.int (nI 1))) s) : wp E 104 114 [.ref a0, .int a1, .int a2, .int a3, .int a4, .int a5, .int a6, .int a7] [.int b0, .int b1] s Q := vcD_ok E 104 [53, 114, 123, 171, 190, 224, 264, 351, 374, 407, 453, 462, 487, 509, 533, 581, 642, 718, 755, 777, 799, 839] Q dc104 5 false 114 _ _ _ h
set_option maxRecDepth 100000 in
theorem sg104_123 {E : AEnv} {a0 : Nat} {a1 : Int32} {a2 : Int32} {a3 : Int32} {a4 : Int32} {a5 : Int32} {s : ASt} {Q : Option Value → ASt → Prop} (h :
  ((nI 6) ≤ a3 →
    wp E 104 351 [.ref a0, .int a1, .int a2, .int a3, .int a4, .int a5] [] s Q) ∧
  (¬ (nI 6) ≤ a3 →
    cI E 96 [.int a2, .int (a4 + (nI 1))] s (fun x2 s1 =>
    cI E 96 [.int (a2 >>> ((nI 4) &&& 31)), .int a4] s1 (fun x4 s3 =>
    cI E 96 [.int (a2 >>> ((nI 16) &&& 31)), .int (nI 4)] s3 (fun x6 s5 =>
    (x6 ≠ (nI 0) →
      wp E 104 171 [.ref a0, .int a1, .int a2, .int a3, .int a4, .int a5, .int x2, .int x4] [.int (nI 9), .int (a2 >>> ((nI 8) &&& 31))] s5 Q) ∧
    (¬ x6 ≠ (nI 0) →
      wp E 104 171 [.ref a0, .int a1, .int a2, .int a3, .int a4, .int a5, .int x2, .int x4] [.int (nI 11), .int (a2 >>> ((nI 8) &&& 31))] s5 Q)))))) : wp E 104 123 [.ref a0, .int a1, .int a2, .int a3, .int a4, .int a5] [] s Q := vcD_ok E 104 [53, 114, 123, 171, 190, 224, 264, 351, 374, 407, 453, 462, 487, 509, 533, 581, 642, 718, 755, 777, 799, 839] Q dc104 28 false 123 _ _ _ h
set_option maxRecDepth 100000 in
theorem sg104_171 {E : AEnv} {a0 : Nat} {a1 : Int32} {a2 : Int32} {a3 : Int32} {a4 : Int32} {a5 : Int32} {a6 : Int32} {a7 : Int32} {b0 : Int32} {b1 : Int32} {s : ASt} {Q : Option Value → ASt → Prop} (h :
  cI E 96 [.int b1, .int b0] s (fun x2 s1 =>
  cI E 96 [.int (a2 >>> ((nI 16) &&& 31)), .int (nI 4)] s1 (fun x4 s3 =>
  (x4 ≠ (nI 0) →
    wp E 104 190 [.ref a0, .int a1, .int a2, .int a3, .int a4, .int a5, .int a6, .int a7] [.int (nI 1), .int x2] s3 Q) ∧
  (¬ x4 ≠ (nI 0) →
    wp E 104 190 [.ref a0, .int a1, .int a2, .int a3, .int a4, .int a5, .int a6, .int a7] [.int (nI 0), .int x2] s3 Q)))) : wp E 104 171 [.ref a0, .int a1, .int a2, .int a3, .int a4, .int a5, .int a6, .int a7] [.int b0, .int b1] s Q := vcD_ok E 104 [53, 114, 123, 171, 190, 224, 264, 351, 374, 407, 453, 462, 487, 509, 533, 581, 642, 718, 755, 777, 799, 839] Q dc104 11 false 171 _ _ _ h
set_option maxRecDepth 100000 in
theorem sg104_190 {E : AEnv} {a0 : Nat} {a1 : Int32} {a2 : Int32} {a3 : Int32} {a4 : Int32} {a5 : Int32} {a6 : Int32} {a7 : Int32} {b0 : Int32} {b1 : Int32} {s : ASt} {Q : Option Value → ASt → Prop} (h :
  (a6 = a4 →
    wp E 104 224 [.ref a0, .int a1, .int a2, .int a3, .int a4, .int a5, .int a6, .int a7, .int (b1 + b0)] [.int (nI 1)] s Q) ∧
  (¬ a6 = a4 →
    (a6 = a7 →
      wp E 104 224 [.ref a0, .int a1, .int a2, .int a3, .int a4, .int a5, .int a6, .int a7, .int (b1 + b0)] [.int (nI 1)] s Q) ∧
    (¬ a6 = a7 →
      ((b1 + b0) = (nI 0) →
        wp E 104 224 [.ref a0, .int a1, .int a2, .int a3, .int a4, .int a5, .int a6, .int a7, .int (b1 + b0)] [.int (nI 1)] s Q) ∧
      (¬ (b1 + b0) = (nI 0) →
        ((b1 + b0) ≠ (nI 10) →
          wp E 104 224 [.ref a0, .int a1, .int a2, .int a3, .int a4, .int a5, .int a6, .int a7, .int (b1 + b0)] [.int (nI 0)] s Q) ∧
        (¬ (b1 + b0) ≠ (nI 10) →
          wp E 104 224 [.ref a0, .int a1, .int a2, .int a3, .int a4, .int a5, .int a6, .int a7, .int (b1 + b0)] [.int (nI 1)] s Q))))) : wp E 104 190 [.ref a0, .int a1, .int a2, .int a3, .int a4, .int a5, .int a6, .int a7] [.int b0, .int b1] s Q := vcD_ok E 104 [53, 114, 123, 171, 190, 224, 264, 351, 374, 407, 453, 462, 487, 509, 533, 581, 642, 718, 755, 777, 799, 839] Q dc104 17 false 190 _ _ _ h
set_option maxRecDepth 100000 in
theorem sg104_224 {E : AEnv} {a0 : Nat} {a1 : Int32} {a2 : Int32} {a3 : Int32} {a4 : Int32} {a5 : Int32} {a6 : Int32} {a7 : Int32} {a8 : Int32} {b0 : Int32} {s : ASt} {Q : Option Value → ASt → Prop} (h :
  sh s a0 5 8 ∧ cI E 59 [.ref a0, .int a6, .int a7, .int a8] s (fun x2 s1 =>
  (b0 = (nI 0) →
    (a5 ≠ (nI 14) →
      wp E 104 264 [.ref a0, .int a1, .int a2, .int a3, .int a4, .int a5, .int a6, .int a7, .int a8, .int b0, .int x2] [.int a5, .int x2] s1 Q) ∧
    (¬ a5 ≠ (nI 14) →
      wp E 104 264 [.ref a0, .int a1, .int a2, .int a3, .int a4, .int a5, .int a6, .int a7, .int a8, .int b0, .int x2] [.int (-1000003 : Int32), .int x2] s1 Q)) ∧
  (¬ b0 = (nI 0) →
    wp E 104 264 [.ref a0, .int a1, .int a2, .int a3, .int a4, .int a5, .int a6, .int a7, .int a8, .int b0, .int x2] [.int (-1000001 : Int32), .int x2] s1 Q))) : wp E 104 224 [.ref a0, .int a1, .int a2, .int a3, .int a4, .int a5, .int a6, .int a7, .int a8] [.int b0] s Q := vcD_ok E 104 [53, 114, 123, 171, 190, 224, 264, 351, 374, 407, 453, 462, 487, 509, 533, 581, 642, 718, 755, 777, 799, 839] Q dc104 17 false 224 _ _ _ h
set_option maxRecDepth 100000 in
theorem sg104_264 {E : AEnv} {a0 : Nat} {a1 : Int32} {a2 : Int32} {a3 : Int32} {a4 : Int32} {a5 : Int32} {a6 : Int32} {a7 : Int32} {a8 : Int32} {a9 : Int32} {a10 : Int32} {b0 : Int32} {b1 : Int32} {s : ASt} {Q : Option Value → ASt → Prop} (h :
  ¬ b1 ≠ b0 ∧ (a10 < (nI 0) →
    fN .boolean (nI 1) = true ∧ Q (some (.int (nI 1))) s) ∧
  (¬ a10 < (nI 0) →
    sh s a0 5 8 ∧ cI E 65 [.ref a0, .int a10, .int (nI 0)] s (fun x2 s1 =>
    ¬ x2 ≠ a6 ∧ sh s1 a0 5 8 ∧ cI E 65 [.ref a0, .int a10, .int (nI 1)] s1 (fun x4 s3 =>
    ¬ x4 ≠ a7 ∧ sh s3 a0 5 8 ∧ cI E 65 [.ref a0, .int a10, .int (nI 2)] s3 (fun x6 s5 =>
    ¬ x6 ≠ a8 ∧ sh s5 a0 5 8 ∧ cI E 65 [.ref a0, .int a10, .int (nI 3)] s5 (fun x8 s7 =>
    ¬ x8 ≠ (nI 100) ∧ sh s7 a0 5 8 ∧ cI E 65 [.ref a0, .int a10, .int (nI 4)] s7 (fun x10 s9 =>
    ¬ x10 ≠ (nI 0) ∧ sh s9 a0 5 8 ∧ cI E 67 [.ref a0, .int a6] s9 (fun x12 s11 =>
    sh s11 a0 5 8 ∧ cI E 67 [.ref a0, .int a7] s11 (fun x14 s13 =>
    ¬ x12 ≠ x14 ∧ fN .boolean (nI 1) = true ∧ Q (some (.int (nI 1))) s13))))))))) : wp E 104 264 [.ref a0, .int a1, .int a2, .int a3, .int a4, .int a5, .int a6, .int a7, .int a8, .int a9, .int a10] [.int b0, .int b1] s Q := vcD_ok E 104 [53, 114, 123, 171, 190, 224, 264, 351, 374, 407, 453, 462, 487, 509, 533, 581, 642, 718, 755, 777, 799, 839] Q dc104 43 false 264 _ _ _ h
set_option maxRecDepth 100000 in
theorem sg104_351 {E : AEnv} {a0 : Nat} {a1 : Int32} {a2 : Int32} {a3 : Int32} {a4 : Int32} {a5 : Int32} {s : ASt} {Q : Option Value → ASt → Prop} (h :
  ((nI 11) ≤ a3 →
    wp E 104 374 [.ref a0, .int a1, .int a2, .int a3, .int a4, .int a5] [] s Q) ∧
  (¬ (nI 11) ≤ a3 →
    ((nI 10) ≤ a3 →
      cI E 103 [.ref a0, .int (nI 1), .int a2] s (fun x2 s1 =>
      fN .boolean x2 = true ∧ Q (some (.int x2)) s1)) ∧
    (¬ (nI 10) ≤ a3 →
      cI E 103 [.ref a0, .int (nI 0), .int a2] s (fun x4 s3 =>
      fN .boolean x4 = true ∧ Q (some (.int x4)) s3)))) : wp E 104 351 [.ref a0, .int a1, .int a2, .int a3, .int a4, .int a5] [] s Q := vcD_ok E 104 [53, 114, 123, 171, 190, 224, 264, 351, 374, 407, 453, 462, 487, 509, 533, 581, 642, 718, 755, 777, 799, 839] Q dc104 13 false 351 _ _ _ h
set_option maxRecDepth 100000 in
theorem sg104_374 {E : AEnv} {a0 : Nat} {a1 : Int32} {a2 : Int32} {a3 : Int32} {a4 : Int32} {a5 : Int32} {s : ASt} {Q : Option Value → ASt → Prop} (h :
  (a3 ≠ (nI 11) →
    wp E 104 462 [.ref a0, .int a1, .int a2, .int a3, .int a4, .int a5] [] s Q) ∧
  (¬ a3 ≠ (nI 11) →
    cI E 96 [.int a2, .int (nI 1001)] s (fun x2 s1 =>
    (x2 = (nI 0) →
      wp E 104 407 [.ref a0, .int a1, .int a2, .int a3, .int a4, .int a5, .int x2] [.int (nI 1)] s1 Q) ∧
    (¬ x2 = (nI 0) →
      (x2 ≠ (nI 1000) →
        wp E 104 407 [.ref a0, .int a1, .int a2, .int a3, .int a4, .int a5, .int x2] [.int (nI 0)] s1 Q) ∧
      (¬ x2 ≠ (nI 1000) →
        wp E 104 407 [.ref a0, .int a1, .int a2, .int a3, .int a4, .int a5, .int x2] [.int (nI 1)] s1 Q))))) : wp E 104 374 [.ref a0, .int a1, .int a2, .int a3, .int a4, .int a5] [] s Q := vcD_ok E 104 [53, 114, 123, 171, 190, 224, 264, 351, 374, 407, 453, 462, 487, 509, 533, 581, 642, 718, 755, 777, 799, 839] Q dc104 16 false 374 _ _ _ h
set_option maxRecDepth 100000 in
theorem sg104_407 {E : AEnv} {a0 : Nat} {a1 : Int32} {a2 : Int32} {a3 : Int32} {a4 : Int32} {a5 : Int32} {a6 : Int32} {b0 : Int32} {s : ASt} {Q : Option Value → ASt → Prop} (h :
  sh s a0 5 8 ∧ cI E 76 [.ref a0, .int (nI 13)] s (fun x2 s1 =>
  sh s1 a0 5 8 ∧ cI E 62 [.ref a0, .int a6] s1 (fun x4 s3 =>
  (b0 = (nI 0) →
    ((x2 + a6) ≤ (nI 999999) →
      wp E 104 453 [.ref a0, .int a1, .int a2, .int a3, .int a4, .int a5, .int a6, .int b0, .int x2] [.int (x2 + a6), .int x4] s3 Q) ∧
    (¬ (x2 + a6) ≤ (nI 999999) →
      wp E 104 453 [.ref a0, .int a1, .int a2, .int a3, .int a4, .int a5, .int a6, .int b0, .int x2] [.int (-1000003 : Int32), .int x4] s3 Q)) ∧
  (¬ b0 = (nI 0) →
    wp E 104 453 [.ref a0, .int a1, .int a2, .int a3, .int a4, .int a5, .int a6, .int b0, .int x2] [.int (-1000001 : Int32), .int x4] s3 Q)))) : wp E 104 407 [.ref a0, .int a1, .int a2, .int a3, .int a4, .int a5, .int a6] [.int b0] s Q := vcD_ok E 104 [53, 114, 123, 171, 190, 224, 264, 351, 374, 407, 453, 462, 487, 509, 533, 581, 642, 718, 755, 777, 799, 839] Q dc104 20 false 407 _ _ _ h
set_option maxRecDepth 100000 in
theorem sg104_453 {E : AEnv} {a0 : Nat} {a1 : Int32} {a2 : Int32} {a3 : Int32} {a4 : Int32} {a5 : Int32} {a6 : Int32} {a7 : Int32} {a8 : Int32} {b0 : Int32} {b1 : Int32} {s : ASt} {Q : Option Value → ASt → Prop} (h :
  ¬ b1 ≠ b0 ∧ fN .boolean (nI 1) = true ∧ Q (some (.int (nI 1))) s) : wp E 104 453 [.ref a0, .int a1, .int a2, .int a3, .int a4, .int a5, .int a6, .int a7, .int a8] [.int b0, .int b1] s Q := vcD_ok E 104 [53, 114, 123, 171, 190, 224, 264, 351, 374, 407, 453, 462, 487, 509, 533, 581, 642, 718, 755, 777, 799, 839] Q dc104 5 false 453 _ _ _ h
set_option maxRecDepth 100000 in
theorem sg104_462 {E : AEnv} {a0 : Nat} {a1 : Int32} {a2 : Int32} {a3 : Int32} {a4 : Int32} {a5 : Int32} {s : ASt} {Q : Option Value → ASt → Prop} (h :
  ((nI 17) ≤ a3 →
    wp E 104 642 [.ref a0, .int a1, .int a2, .int a3, .int a4, .int a5] [] s Q) ∧
  (¬ (nI 17) ≤ a3 →
    cI E 96 [.int (a2 >>> ((nI 8) &&& 31)), .int (nI 5)] s (fun x2 s1 =>
    (x2 ≠ (nI 0) →
      wp E 104 487 [.ref a0, .int a1, .int a2, .int a3, .int a4, .int a5] [.int (nI 15), .int a2] s1 Q) ∧
    (¬ x2 ≠ (nI 0) →
      wp E 104 487 [.ref a0, .int a1, .int a2, .int a3, .int a4, .int a5] [.int (nI 101), .int a2] s1 Q)))) : wp E 104 462 [.ref a0, .int a1, .int a2, .int a3, .int a4, .int a5] [] s Q := vcD_ok E 104 [53, 114, 123, 171, 190, 224, 264, 351, 374, 407, 453, 462, 487, 509, 533, 581, 642, 718, 755, 777, 799, 839] Q dc104 14 false 462 _ _ _ h
set_option maxRecDepth 100000 in
theorem sg104_487 {E : AEnv} {a0 : Nat} {a1 : Int32} {a2 : Int32} {a3 : Int32} {a4 : Int32} {a5 : Int32} {b0 : Int32} {b1 : Int32} {s : ASt} {Q : Option Value → ASt → Prop} (h :
  cI E 96 [.int b1, .int b0] s (fun x2 s1 =>
  (x2 = (nI 0) →
    wp E 104 509 [.ref a0, .int a1, .int a2, .int a3, .int a4, .int a5, .int x2] [.int (nI 1)] s1 Q) ∧
  (¬ x2 = (nI 0) →
    (x2 ≠ (nI 100) →
      wp E 104 509 [.ref a0, .int a1, .int a2, .int a3, .int a4, .int a5, .int x2] [.int (nI 0)] s1 Q) ∧
    (¬ x2 ≠ (nI 100) →
      wp E 104 509 [.ref a0, .int a1, .int a2, .int a3, .int a4, .int a5, .int x2] [.int (nI 1)] s1 Q)))) : wp E 104 487 [.ref a0, .int a1, .int a2, .int a3, .int a4, .int a5] [.int b0, .int b1] s Q := vcD_ok E 104 [53, 114, 123, 171, 190, 224, 264, 351, 374, 407, 453, 462, 487, 509, 533, 581, 642, 718, 755, 777, 799, 839] Q dc104 11 false 487 _ _ _ h
set_option maxRecDepth 100000 in
theorem sg104_509 {E : AEnv} {a0 : Nat} {a1 : Int32} {a2 : Int32} {a3 : Int32} {a4 : Int32} {a5 : Int32} {a6 : Int32} {b0 : Int32} {s : ASt} {Q : Option Value → ASt → Prop} (h :
  sh s a0 5 8 ∧ cI E 76 [.ref a0, .int (nI 0)] s (fun x2 s1 =>
  (b0 = (nI 0) →
    sh s1 a0 5 8 ∧ cI E 74 [.ref a0, .int a6] s1 (fun x4 s3 =>
    wp E 104 533 [.ref a0, .int a1, .int a2, .int a3, .int a4, .int a5, .int a6, .int b0, .int x2] [.int x4] s3 Q)) ∧
  (¬ b0 = (nI 0) →
    wp E 104 533 [.ref a0, .int a1, .int a2, .int a3, .int a4, .int a5, .int a6, .int b0, .int x2] [.int (nI 0)] s1 Q))) : wp E 104 509 [.ref a0, .int a1, .int a2, .int a3, .int a4, .int a5, .int a6] [.int b0] s Q := vcD_ok E 104 [53, 114, 123, 171, 190, 224, 264, 351, 374, 407, 453, 462, 487, 509, 533, 581, 642, 718, 755, 777, 799, 839] Q dc104 12 false 509 _ _ _ h
set_option maxRecDepth 100000 in
theorem sg104_533 {E : AEnv} {a0 : Nat} {a1 : Int32} {a2 : Int32} {a3 : Int32} {a4 : Int32} {a5 : Int32} {a6 : Int32} {a7 : Int32} {a8 : Int32} {b0 : Int32} {s : ASt} {Q : Option Value → ASt → Prop} (h :
  sh s a0 5 8 ∧ cI E 76 [.ref a0, .int (nI 11)] s (fun x2 s1 =>
  sh s1 a0 5 8 ∧ cI E 63 [.ref a0, .int a6] s1 (fun x4 s3 =>
  (a7 ≠ (nI 0) →
    (a7 = (nI 0) →
      wp E 104 581 [.ref a0, .int a1, .int a2, .int a3, .int a4, .int a5, .int a6, .int a7, .int a8, .int b0, .int x2, .int x4] [.int (-1000003 : Int32), .int x4] s3 Q) ∧
    (¬ a7 = (nI 0) →
      wp E 104 581 [.ref a0, .int a1, .int a2, .int a3, .int a4, .int a5, .int a6, .int a7, .int a8, .int b0, .int x2, .int x4] [.int (-1000001 : Int32), .int x4] s3 Q)) ∧
  (¬ a7 ≠ (nI 0) →
    ((a8 + a6) ≤ (nI 9999) →
      ¬ x4 ≠ b0 ∧ sh s3 a0 5 8 ∧ cI E 76 [.ref a0, .int (nI 0)] s3 (fun x6 s5 =>
      ¬ x6 ≠ (a8 + a6) ∧ sh s5 a0 5 8 ∧ cI E 76 [.ref a0, .int (nI 11)] s5 (fun x8 s7 =>
      ¬ x8 ≠ (x2 + b0) ∧ fN .boolean (nI 1) = true ∧ Q (some (.int (nI 1))) s7))) ∧
    (¬ (a8 + a6) ≤ (nI 9999) →
      (a7 = (nI 0) →
        wp E 104 581 [.ref a0, .int a1, .int a2, .int a3, .int a4, .int a5, .int a6, .int a7, .int a8, .int b0, .int x2, .int x4] [.int (-1000003 : Int32), .int x4] s3 Q) ∧
      (¬ a7 = (nI 0) →
        wp E 104 581 [.ref a0, .int a1, .int a2, .int a3, .int a4, .int a5, .int a6, .int a7, .int a8, .int b0, .int x2, .int x4] [.int (-1000001 : Int32), .int x4] s3 Q)))))) : wp E 104 533 [.ref a0, .int a1, .int a2, .int a3, .int a4, .int a5, .int a6, .int a7, .int a8] [.int b0] s Q := vcD_ok E 104 [53, 114, 123, 171, 190, 224, 264, 351, 374, 407, 453, 462, 487, 509, 533, 581, 642, 718, 755, 777, 799, 839] Q dc104 37 false 533 _ _ _ h
set_option maxRecDepth 100000 in
theorem sg104_581 {E : AEnv} {a0 : Nat} {a1 : Int32} {a2 : Int32} {a3 : Int32} {a4 : Int32} {a5 : Int32} {a6 : Int32} {a7 : Int32} {a8 : Int32} {a9 : Int32} {a10 : Int32} {a11 : Int32} {b0 : Int32} {b1 : Int32} {s : ASt} {Q : Option Value → ASt → Prop} (h :
  ¬ b1 ≠ b0 ∧ sh s a0 5 8 ∧ cI E 76 [.ref a0, .int (nI 0)] s (fun x2 s1 =>
  ¬ x2 ≠ a8 ∧ fN .boolean (nI 1) = true ∧ Q (some (.int (nI 1))) s1)) : wp E 104 581 [.ref a0, .int a1, .int a2, .int a3, .int a4, .int a5, .int a6, .int a7, .int a8, .int a9, .int a10, .int a11] [.int b0, .int b1] s Q := vcD_ok E 104 [53, 114, 123, 171, 190, 224, 264, 351, 374, 407, 453, 462, 487, 509, 533, 581, 642, 718, 755, 777, 799, 839] Q dc104 10 false 581 _ _ _ h
set_option maxRecDepth 100000 in
theorem sg104_642 {E : AEnv} {a0 : Nat} {a1 : Int32} {a2 : Int32} {a3 : Int32} {a4 : Int32} {a5 : Int32} {s : ASt} {Q : Option Value → ASt → Prop} (h :
  ((nI 21) ≤ a3 →
    wp E 104 839 [.ref a0, .int a1, .int a2, .int a3, .int a4, .int a5] [] s Q) ∧
  (¬ (nI 21) ≤ a3 →
    cI E 96 [.int a2, .int (nI 9)] s (fun x2 s1 =>
    cI E 96 [.int (a2 >>> ((nI 4) &&& 31)), .int (nI 103)] s1 (fun x4 s3 =>
    (x2 ≠ (nI 0) →
      (x2 ≠ (nI 1) →
        (x2 = (nI 3) →
          wp E 104 718 [.ref a0, .int a1, .int a2, .int a3, .int a4, .int a5, .int x2, .int (x4 - (nI 1))] [.int (nI 1)] s3 Q) ∧
        (¬ x2 = (nI 3) →
          (x2 ≠ (nI 6) →
            (x2 ≠ (nI 4) →
              wp E 104 718 [.ref a0, .int a1, .int a2, .int a3, .int a4, .int a5, .int x2, .int (x4 - (nI 1))] [.int (nI 99)] s3 Q) ∧
            (¬ x2 ≠ (nI 4) →
              wp E 104 718 [.ref a0, .int a1, .int a2, .int a3, .int a4, .int a5, .int x2, .int (x4 - (nI 1))] [.int (nI 30)] s3 Q)) ∧
          (¬ x2 ≠ (nI 6) →
            wp E 104 718 [.ref a0, .int a1, .int a2, .int a3, .int a4, .int a5, .int x2, .int (x4 - (nI 1))] [.int (nI 1)] s3 Q))) ∧
      (¬ x2 ≠ (nI 1) →
        wp E 104 718 [.ref a0, .int a1, .int a2, .int a3, .int a4, .int a5, .int x2, .int (x4 - (nI 1))] [.int (nI 100)] s3 Q)) ∧
    (¬ x2 ≠ (nI 0) →
      wp E 104 718 [.ref a0, .int a1, .int a2, .int a3, .int a4, .int a5, .int x2, .int (x4 - (nI 1))] [.int (nI 4)] s3 Q))))) : wp E 104 642 [.ref a0, .int a1, .int a2, .int a3, .int a4, .int a5] [] s Q := vcD_ok E 104 [53, 114, 123, 171, 190, 224, 264, 351, 374, 407, 453, 462, 487, 509, 533, 581, 642, 718, 755, 777, 799, 839] Q dc104 33 false 642 _ _ _ h
set_option maxRecDepth 100000 in
theorem sg104_718 {E : AEnv} {a0 : Nat} {a1 : Int32} {a2 : Int32} {a3 : Int32} {a4 : Int32} {a5 : Int32} {a6 : Int32} {a7 : Int32} {b0 : Int32} {s : ASt} {Q : Option Value → ASt → Prop} (h :
  (a6 = (nI 8) →
    wp E 104 755 [.ref a0, .int a1, .int a2, .int a3, .int a4, .int a5, .int a6, .int a7, .int b0] [.int (nI 1)] s Q) ∧
  (¬ a6 = (nI 8) →
    (a6 ≠ (nI 1) →
      (a7 < (nI 0) →
        wp E 104 755 [.ref a0, .int a1, .int a2, .int a3, .int a4, .int a5, .int a6, .int a7, .int b0] [.int (nI 1)] s Q) ∧
      (¬ a7 < (nI 0) →
        (a7 ≤ b0 →
          wp E 104 755 [.ref a0, .int a1, .int a2, .int a3, .int a4, .int a5, .int a6, .int a7, .int b0] [.int (nI 0)] s Q) ∧
        (¬ a7 ≤ b0 →
          wp E 104 755 [.ref a0, .int a1, .int a2, .int a3, .int a4, .int a5, .int a6, .int a7, .int b0] [.int (nI 1)] s Q))) ∧
    (¬ a6 ≠ (nI 1) →
      (a7 < (nI 1) →
        wp E 104 755 [.ref a0, .int a1, .int a2, .int a3, .int a4, .int a5, .int a6, .int a7, .int b0] [.int (nI 1)] s Q) ∧
      (¬ a7 < (nI 1) →
        (a7 ≤ b0 →
          wp E 104 755 [.ref a0, .int a1, .int a2, .int a3, .int a4, .int a5, .int a6, .int a7, .int b0] [.int (nI 0)] s Q) ∧
        (¬ a7 ≤ b0 →
          wp E 104 755 [.ref a0, .int a1, .int a2, .int a3, .int a4, .int a5, .int a6, .int a7, .int b0] [.int (nI 1)] s Q))))) : wp E 104 718 [.ref a0, .int a1, .int a2, .int a3, .int a4, .int a5, .int a6, .int a7] [.int b0] s Q := vcD_ok E 104 [53, 114, 123, 171, 190, 224, 264, 351, 374, 407, 453, 462, 487, 509, 533, 581, 642, 718, 755, 777, 799, 839] Q dc104 18 false 718 _ _ _ h
set_option maxRecDepth 100000 in
theorem sg104_755 {E : AEnv} {a0 : Nat} {a1 : Int32} {a2 : Int32} {a3 : Int32} {a4 : Int32} {a5 : Int32} {a6 : Int32} {a7 : Int32} {a8 : Int32} {b0 : Int32} {s : ASt} {Q : Option Value → ASt → Prop} (h :
  (a6 ≠ (nI 8) →
    sh s a0 5 8 ∧ cI E 76 [.ref a0, .int ((nI 20) + a6)] s (fun x2 s1 =>
    wp E 104 777 [.ref a0, .int a1, .int a2, .int a3, .int a4, .int a5, .int a6, .int a7, .int a8, .int b0] [.int x2] s1 Q)) ∧
  (¬ a6 ≠ (nI 8) →
    wp E 104 777 [.ref a0, .int a1, .int a2, .int a3, .int a4, .int a5, .int a6, .int a7, .int a8, .int b0] [.int (nI 0)] s Q)) : wp E 104 755 [.ref a0, .int a1, .int a2, .int a3, .int a4, .int a5, .int a6, .int a7, .int a8] [.int b0] s Q := vcD_ok E 104 [53, 114, 123, 171, 190, 224, 264, 351, 374, 407, 453, 462, 487, 509, 533, 581, 642, 718, 755, 777, 799, 839] Q dc104 11 false 755 _ _ _ h
set_option maxRecDepth 100000 in
theorem sg104_777 {E : AEnv} {a0 : Nat} {a1 : Int32} {a2 : Int32} {a3 : Int32} {a4 : Int32} {a5 : Int32} {a6 : Int32} {a7 : Int32} {a8 : Int32} {a9 : Int32} {b0 : Int32} {s : ASt} {Q : Option Value → ASt → Prop} (h :
  sh s a0 5 8 ∧ cI E 64 [.ref a0, .int a6, .int a7] s (fun x2 s1 =>
  (a9 = (nI 0) →
    wp E 104 799 [.ref a0, .int a1, .int a2, .int a3, .int a4, .int a5, .int a6, .int a7, .int a8, .int a9, .int b0] [.int b0, .int x2] s1 Q) ∧
  (¬ a9 = (nI 0) →
    wp E 104 799 [.ref a0, .int a1, .int a2, .int a3, .int a4, .int a5, .int a6, .int a7, .int a8, .int a9, .int b0] [.int (-1000001 : Int32), .int x2] s1 Q))) : wp E 104 777 [.ref a0, .int a1, .int a2, .int a3, .int a4, .int a5, .int a6, .int a7, .int a8, .int a9] [.int b0] s Q := vcD_ok E 104 [53, 114, 123, 171, 190, 224, 264, 351, 374, 407, 453, 462, 487, 509, 533, 581, 642, 718, 755, 777, 799, 839] Q dc104 11 false 777 _ _ _ h
set_option maxRecDepth 100000 in
theorem sg104_799 {E : AEnv} {a0 : Nat} {a1 : Int32} {a2 : Int32} {a3 : Int32} {a4 : Int32} {a5 : Int32} {a6 : Int32} {a7 : Int32} {a8 : Int32} {a9 : Int32} {a10 : Int32} {b0 : Int32} {b1 : Int32} {s : ASt} {Q : Option Value → ASt → Prop} (h :
  ¬ b1 ≠ b0 ∧ (a6 = (nI 8) →
    fN .boolean (nI 1) = true ∧ Q (some (.int (nI 1))) s) ∧
  (¬ a6 = (nI 8) →
    sh s a0 5 8 ∧ cI E 76 [.ref a0, .int ((nI 20) + a6)] s (fun x2 s1 =>
    (a9 = (nI 0) →
      ¬ x2 ≠ a7 ∧ fN .boolean (nI 1) = true ∧ Q (some (.int (nI 1))) s1) ∧
    (¬ a9 = (nI 0) →
      ¬ x2 ≠ a10 ∧ fN .boolean (nI 1) = true ∧ Q (some (.int (nI 1))) s1)))) : wp E 104 799 [.ref a0, .int a1, .int a2, .int a3, .int a4, .int a5, .int a6, .int a7, .int a8, .int a9, .int a10] [.int b0, .int b1] s Q := vcD_ok E 104 [53, 114, 123, 171, 190, 224, 264, 351, 374, 407, 453, 462, 487, 509, 533, 581, 642, 718, 755, 777, 799, 839] Q dc104 18 false 799 _ _ _ h
set_option maxRecDepth 100000 in
theorem sg104_839 {E : AEnv} {a0 : Nat} {a1 : Int32} {a2 : Int32} {a3 : Int32} {a4 : Int32} {a5 : Int32} {s : ASt} {Q : Option Value → ASt → Prop} (h :
  cI E 102 [.ref a0, .int a2] s (fun x2 s1 =>
  fN .boolean x2 = true ∧ Q (some (.int x2)) s1)) : wp E 104 839 [.ref a0, .int a1, .int a2, .int a3, .int a4, .int a5] [] s Q := vcD_ok E 104 [53, 114, 123, 171, 190, 224, 264, 351, 374, 407, 453, 462, 487, 509, 533, 581, 642, 718, 755, 777, 799, 839] Q dc104 5 false 839 _ _ _ h
-- 105 CoatedBridgesLaw.law([I)Z
def dc105 : List (Nat × Bool) := [(12, false), (20, false), (29, false), (47, false), (111, false), (124, false), (140, false), (158, false), (190, false), (200, false), (230, false), (240, false), (250, false), (288, false), (304, false), (311, false)]
set_option maxRecDepth 100000 in
theorem sg105_8 {E : AEnv} {a1 : Nat} {s : ASt} {Q : Option Value → ASt → Prop} (h :
  cI E 98 [.ref a1] s (fun x2 s1 =>
  ¬ x2 = (nI 0) ∧ cI E 99 [.ref a1, .int (nI 0)] s1 (fun x4 s3 =>
  ¬ x4 = (nI 0) ∧ sh s3 a1 5 8 ∧ cI E 77 [.ref a1] s3 (fun x6 s5 =>
  ¬ x6 ≠ (-1000002 : Int32) ∧ wp E 105 37 [.ref 1003, .ref a1] [.int (nI 1)] s5 Q)))) : wp E 105 8 [.ref 1003, .ref a1] [] s Q := vcD_ok E 105 [8, 37, 40, 76, 148, 198, 249, 297] Q dc105 15 false 8 _ _ _ h
set_option maxRecDepth 100000 in
theorem sg105_37 {E : AEnv} {a1 : Nat} {b0 : Int32} {s : ASt} {Q : Option Value → ASt → Prop} (h :
  wp E 105 40 [.ref 1003, .ref a1, .int b0, .int (nI 0)] [] s Q) : wp E 105 37 [.ref 1003, .ref a1] [.int b0] s Q := vcD_ok E 105 [8, 37, 40, 76, 148, 198, 249, 297] Q dc105 5 false 37 _ _ _ h
set_option maxRecDepth 100000 in
theorem sg105_40 {E : AEnv} {a1 : Nat} {a2 : Int32} {a3 : Int32} {s : ASt} {Q : Option Value → ASt → Prop} (h :
  ((nI 48) ≤ a3 →
    ¬ a2 = (nI 0) ∧ cI E 98 [.ref a1] s (fun x2 s1 =>
    ¬ x2 = (nI 0) ∧ fN .boolean (nI 1) = true ∧ Q (some (.int (nI 1))) s1)) ∧
  (¬ (nI 48) ≤ a3 →
    ¬ a2 = (nI 0) ∧ ((nI 3) ≤ a3 →
      ((nI 7) ≤ a3 →
        cI E 95 [.ref 1003, .int ((nI 2) * a3)] s (fun x4 s3 =>
        wp E 105 76 [.ref 1003, .ref a1, .int a2, .int a3] [.int x4] s3 Q)) ∧
      (¬ (nI 7) ≤ a3 →
        wp E 105 76 [.ref 1003, .ref a1, .int a2, .int a3] [.int (nI 2)] s Q)) ∧
    (¬ (nI 3) ≤ a3 →
      wp E 105 76 [.ref 1003, .ref a1, .int a2, .int a3] [.int (nI 0)] s Q))) : wp E 105 40 [.ref 1003, .ref a1, .int a2, .int a3] [] s Q := vcD_ok E 105 [8, 37, 40, 76, 148, 198, 249, 297] Q dc105 18 false 40 _ _ _ h
set_option maxRecDepth 100000 in
theorem sg105_76 {E : AEnv} {a1 : Nat} {a2 : Int32} {a3 : Int32} {b0 : Int32} {s : ASt} {Q : Option Value → ASt → Prop} (h :
  cI E 95 [.ref 1003, .int (((nI 2) * a3) + (nI 1))] s (fun x2 s1 =>
  cL E 97 [.ref a1] s1 (fun x4 s3 =>
  sh s3 a1 5 8 ∧ cI E 76 [.ref a1, .int (nI 18)] s3 (fun x6 s5 =>
  cI E 104 [.ref a1, .int b0, .int x2] s5 (fun x8 s7 =>
  ¬ x8 = (nI 0) ∧ ¬ (nI 3) = 0 ∧ ((nI 0) < (a3 - a3 / (nI 3) * (nI 3)) →
    ¬ (nI 5) = 0 ∧ ((a3 - a3 / (nI 5) * (nI 5)) ≠ (nI 3) →
      wp E 105 148 [.ref 1003, .ref a1, .int a2, .int a3, .int b0, .int x2, .long x4, .double 0, .int x6] [.int (nI 1)] s7 Q) ∧
    (¬ (a3 - a3 / (nI 5) * (nI 5)) ≠ (nI 3) →
      cI E 99 [.ref a1, .int x2] s7 (fun x10 s9 =>
      ¬ x10 = (nI 0) ∧ wp E 105 148 [.ref 1003, .ref a1, .int a2, .int a3, .int b0, .int x2, .long x4, .double 0, .int x6] [.int (nI 1)] s9 Q))) ∧
  (¬ (nI 0) < (a3 - a3 / (nI 3) * (nI 3)) →
    cI E 98 [.ref a1] s7 (fun x12 s11 =>
    ¬ x12 = (nI 0) ∧ ¬ (nI 5) = 0 ∧ ((a3 - a3 / (nI 5) * (nI 5)) ≠ (nI 3) →
      wp E 105 148 [.ref 1003, .ref a1, .int a2, .int a3, .int b0, .int x2, .long x4, .double 0, .int x6] [.int (nI 1)] s11 Q) ∧
    (¬ (a3 - a3 / (nI 5) * (nI 5)) ≠ (nI 3) →
      cI E 99 [.ref a1, .int x2] s11 (fun x14 s13 =>
      ¬ x14 = (nI 0) ∧ wp E 105 148 [.ref 1003, .ref a1, .int a2, .int a3, .int b0, .int x2, .long x4, .double 0, .int x6] [.int (nI 1)] s13 Q))))))))) : wp E 105 76 [.ref 1003, .ref a1, .int a2, .int a3] [.int b0] s Q := vcD_ok E 105 [8, 37, 40, 76, 148, 198, 249, 297] Q dc105 41 false 76 _ _ _ h
set_option maxRecDepth 100000 in
theorem sg105_148 {E : AEnv} {a1 : Nat} {a2 : Int32} {a3 : Int32} {a4 : Int32} {a5 : Int32} {a6 : Int64} {a8 : Int32} {b0 : Int32} {s : ASt} {Q : Option Value → ASt → Prop} (h :
  sh s a1 5 8 ∧ cI E 76 [.ref a1, .int (nI 18)] s (fun x2 s1 =>
  ¬ b0 = (nI 0) ∧ (x2 ≠ a8 →
    ¬ x2 ≠ (a8 + (nI 1)) ∧ wp E 105 198 [.ref 1003, .ref a1, .int b0, .int a3, .int a4, .int a5, .long a6, .double 0, .int a8, .int x2] [.int (nI 1)] s1 Q) ∧
  (¬ x2 ≠ a8 →
    (a8 = (nI 4) →
      wp E 105 198 [.ref 1003, .ref a1, .int b0, .int a3, .int a4, .int a5, .long a6, .double 0, .int a8, .int x2] [.int (nI 1)] s1 Q) ∧
    (¬ a8 = (nI 4) →
      cL E 97 [.ref a1] s1 (fun x4 s3 =>
      ((lg_cmp x4 a6) = (nI 0) →
        wp E 105 198 [.ref 1003, .ref a1, .int b0, .int a3, .int a4, .int a5, .long a6, .double 0, .int a8, .int x2] [.int (nI 1)] s3 Q) ∧
      (¬ (lg_cmp x4 a6) = (nI 0) →
        ¬ x2 ≠ (a8 + (nI 1)) ∧ wp E 105 198 [.ref 1003, .ref a1, .int b0, .int a3, .int a4, .int a5, .long a6, .double 0, .int a8, .int x2] [.int (nI 1)] s3 Q)))))) : wp E 105 148 [.ref 1003, .ref a1, .int a2, .int a3, .int a4, .int a5, .long a6, .double 0, .int a8] [.int b0] s Q := vcD_ok E 105 [8, 37, 40, 76, 148, 198, 249, 297] Q dc105 27 false 148 _ _ _ h
set_option maxRecDepth 100000 in
theorem sg105_198 {E : AEnv} {a1 : Nat} {a2 : Int32} {a3 : Int32} {a4 : Int32} {a5 : Int32} {a6 : Int64} {a8 : Int32} {a9 : Int32} {b0 : Int32} {s : ASt} {Q : Option Value → ASt → Prop} (h :
  ¬ b0 = (nI 0) ∧ (a9 ≠ (a8 + (nI 1)) →
    wp E 105 249 [.ref 1003, .ref a1, .int b0, .int a3, .int a4, .int a5, .long a6, .double 0, .int a8, .int a9] [] s Q) ∧
  (¬ a9 ≠ (a8 + (nI 1)) →
    cI E 96 [.int (a5 >>> ((nI 8) &&& 31)), .int (nI 3)] s (fun x2 s1 =>
    (x2 ≠ (nI 0) →
      wp E 105 249 [.ref 1003, .ref a1, .int b0, .int a3, .int a4, .int a5, .long a6, .double 0, .int a8, .int a9] [] s1 Q) ∧
    (¬ x2 ≠ (nI 0) →
      sh s1 a1 5 8 ∧ cI E 77 [.ref a1] s1 (fun x4 s3 =>
      ¬ x4 ≠ a8 ∧ cL E 97 [.ref a1] s3 (fun x6 s5 =>
      ¬ (lg_cmp x6 a6) ≠ (nI 0) ∧ wp E 105 249 [.ref 1003, .ref a1, .int (nI 1), .int a3, .int a4, .int a5, .long a6, .double 0, .int a8, .int a9] [] s5 Q)))))) : wp E 105 198 [.ref 1003, .ref a1, .int a2, .int a3, .int a4, .int a5, .long a6, .double 0, .int a8, .int a9] [.int b0] s Q := vcD_ok E 105 [8, 37, 40, 76, 148, 198, 249, 297] Q dc105 28 false 198 _ _ _ h
set_option maxRecDepth 100000 in
theorem sg105_249 {E : AEnv} {a1 : Nat} {a2 : Int32} {a3 : Int32} {a4 : Int32} {a5 : Int32} {a6 : Int64} {a8 : Int32} {a9 : Int32} {s : ASt} {Q : Option Value → ASt → Prop} (h :
  ¬ a2 = (nI 0) ∧ ¬ (nI 9) = 0 ∧ ((a3 - a3 / (nI 9) * (nI 9)) ≠ (nI 8) →
    wp E 105 297 [.ref 1003, .ref a1, .int a2, .int a3, .int a4, .int a5, .long a6, .double 0, .int a8, .int a9] [] s Q) ∧
  (¬ (a3 - a3 / (nI 9) * (nI 9)) ≠ (nI 8) →
    sh s a1 5 8 ∧ cI E 76 [.ref a1, .int (nI 18)] s (fun x2 s1 =>
    sh s1 a1 5 8 ∧ cI E 77 [.ref a1] s1 (fun x4 s3 =>
    (x2 ≠ (nI 0) →
      ¬ x4 ≠ (x2 - (nI 1)) ∧ wp E 105 297 [.ref 1003, .ref a1, .int (nI 1), .int a3, .int a4, .int a5, .long a6, .double 0, .int a8, .int a9] [] s3 Q) ∧
    (¬ x2 ≠ (nI 0) →
      ¬ x4 ≠ (-1000002 : Int32) ∧ wp E 105 297 [.ref 1003, .ref a1, .int (nI 1), .int a3, .int a4, .int a5, .long a6, .double 0, .int a8, .int a9] [] s3 Q))))) : wp E 105 249 [.ref 1003, .ref a1, .int a2, .int a3, .int a4, .int a5, .long a6, .double 0, .int a8, .int a9] [] s Q := vcD_ok E 105 [8, 37, 40, 76, 148, 198, 249, 297] Q dc105 24 false 249 _ _ _ h
set_option maxRecDepth 100000 in
theorem sg105_297 {E : AEnv} {a1 : Nat} {a2 : Int32} {a3 : Int32} {a4 : Int32} {a5 : Int32} {a6 : Int64} {a8 : Int32} {a9 : Int32} {s : ASt} {Q : Option Value → ASt → Prop} (h :
  wp E 105 40 [.ref 1003, .ref a1, .int a2, .int (a3 + (nI 1))] [] s Q) : wp E 105 297 [.ref 1003, .ref a1, .int a2, .int a3, .int a4, .int a5, .long a6, .double 0, .int a8, .int a9] [] s Q := vcD_ok E 105 [8, 37, 40, 76, 148, 198, 249, 297] Q dc105 4 false 297 _ _ _ h
