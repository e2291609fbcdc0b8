-- 98 CoatedBridgesLaw.holds(LCoatedBridges;)Z
def dc98 : List (Nat × Bool) := [(110, false), (115, false), (121, false), (127, false), (160, false), (169, false), (180, false), (201, false), (236, false), (243, false), (260, false), (276, false), (328, false), (349, false), (367, false), (394, false), (470, false), (505, false), (522, false), (537, false), (552, false), (584, false), (594, false), (609, false), (633, false), (651, false), (662, false), (673, false), (706, false), (737, false), (763, false), (768, false), (784, false)]
set_option maxRecDepth 100000 in
theorem sg98_0 {E : AEnv} {a0 : Nat} {s : ASt} {Q : Option Value → ASt → Prop} (h :
  sh s a0 5 8 ∧ cI E 76 [.ref a0, .int (nI 1)] s (fun x2 s1 =>
  sh s1 a0 5 8 ∧ cI E 76 [.ref a0, .int (nI 2)] s1 (fun x4 s3 =>
  wp E 98 29 [.ref a0, .int x2, .int x4, .int (nI 1), .int (nI 0), .int (nI 0), .int (nI 0), .int (nI 0), .int (nI 0)] [] s3 Q))) : wp E 98 0 [.ref a0] [] s Q := vcD_ok E 98 [29, 39, 193, 231, 322, 386, 414, 470, 505, 571, 649, 706, 737] Q dc98 22 false 0 _ _ _ h
set_option maxRecDepth 100000 in
theorem sg98_29 {E : AEnv} {a0 : Nat} {a1 : Int32} {a2 : Int32} {a3 : Int32} {a4 : Int32} {a5 : Int32} {a6 : Int32} {a7 : Int32} {a8 : Int32} {s : ASt} {Q : Option Value → ASt → Prop} (h :
  ((nI 8) ≤ a8 →
    sh s a0 5 8 ∧ cI E 76 [.ref a0, .int (nI 3)] s (fun x2 s1 =>
    ¬ x2 ≠ a3 ∧ ¬ a1 < (nI 1) ∧ ¬ (nI 8) < a1 ∧ ¬ (nI 14) < a2 ∧ sh s1 a0 5 8 ∧ cI E 76 [.ref a0, .int (nI 16)] s1 (fun x4 s3 =>
    sh s3 a0 5 8 ∧ cI E 76 [.ref a0, .int (nI 13)] s3 (fun x6 s5 =>
    sh s5 a0 5 8 ∧ cI E 76 [.ref a0, .int (nI 14)] s5 (fun x8 s7 =>
    sh s7 a0 5 8 ∧ cI E 76 [.ref a0, .int (nI 15)] s7 (fun x10 s9 =>
    ¬ ((nI 200) + x4) ≠ ((x6 + x8) + x10) ∧ sh s9 a0 5 8 ∧ cI E 76 [.ref a0, .int (nI 13)] s9 (fun x12 s11 =>
    ¬ x12 < (nI 0) ∧ sh s11 a0 5 8 ∧ cI E 76 [.ref a0, .int (nI 0)] s11 (fun x14 s13 =>
    ¬ (nI 9999) < x14 ∧ wp E 98 193 [.ref a0, .int a1, .int a2, .int a3, .int a4, .int a5, .int a6, .int a7, .int (nI 1), .int (nI 0)] [] s13 Q)))))))) ∧
  (¬ (nI 8) ≤ a8 →
    wp E 98 39 [.ref a0, .int a1, .int a2, .int a3, .int a4, .int a5, .int a6, .int a7, .int a8, .int (nI 0)] [] s Q)) : wp E 98 29 [.ref a0, .int a1, .int a2, .int a3, .int a4, .int a5, .int a6, .int a7, .int a8] [] s Q := vcD_ok E 98 [29, 39, 193, 231, 322, 386, 414, 470, 505, 571, 649, 706, 737] Q dc98 50 false 29 _ _ _ h
set_option maxRecDepth 100000 in
theorem sg98_39 {E : AEnv} {a0 : Nat} {a1 : Int32} {a2 : Int32} {a3 : Int32} {a4 : Int32} {a5 : Int32} {a6 : Int32} {a7 : Int32} {a8 : Int32} {a9 : Int32} {s : ASt} {Q : Option Value → ASt → Prop} (h :
  (a2 ≤ a9 →
    wp E 98 29 [.ref a0, .int a1, .int a2, .int a3, .int a4, .int a5, .int a6, .int a7, .int (a8 + (nI 1))] [] s Q) ∧
  (¬ a2 ≤ a9 →
    sh s a0 5 8 ∧ cI E 65 [.ref a0, .int a9, .int (nI 0)] s (fun x2 s1 =>
    sh s1 a0 5 8 ∧ cI E 65 [.ref a0, .int a9, .int (nI 1)] s1 (fun x4 s3 =>
    sh s3 a0 5 8 ∧ cI E 65 [.ref a0, .int a9, .int (nI 4)] s3 (fun x6 s5 =>
    (x6 ≠ (nI 0) →
      wp E 98 39 [.ref a0, .int a1, .int a2, .int (a3 ||| (nI 0)), .int a4, .int a5, .int a6, .int a7, .int a8, .int (a9 + (nI 1))] [] s5 Q) ∧
    (¬ x6 ≠ (nI 0) →
      ((a3 &&& (((nI 1) <<< (x2 &&& 31)) ||| ((nI 1) <<< (x4 &&& 31)))) = (nI 0) →
        wp E 98 39 [.ref a0, .int a1, .int a2, .int (a3 ||| (nI 0)), .int a4, .int a5, .int a6, .int a7, .int a8, .int (a9 + (nI 1))] [] s5 Q) ∧
      (¬ (a3 &&& (((nI 1) <<< (x2 &&& 31)) ||| ((nI 1) <<< (x4 &&& 31)))) = (nI 0) →
        wp E 98 39 [.ref a0, .int a1, .int a2, .int (a3 ||| (((nI 1) <<< (x2 &&& 31)) ||| ((nI 1) <<< (x4 &&& 31)))), .int a4, .int a5, .int a6, .int a7, .int a8, .int (a9 + (nI 1))] [] s5 Q))))))) : wp E 98 39 [.ref a0, .int a1, .int a2, .int a3, .int a4, .int a5, .int a6, .int a7, .int a8, .int a9] [] s Q := vcD_ok E 98 [29, 39, 193, 231, 322, 386, 414, 470, 505, 571, 649, 706, 737] Q dc98 35 false 39 _ _ _ h
set_option maxRecDepth 100000 in
theorem sg98_193 {E : AEnv} {a0 : Nat} {a1 : Int32} {a2 : Int32} {a3 : Int32} {a4 : Int32} {a5 : Int32} {a6 : Int32} {a7 : Int32} {a8 : Int32} {a9 : Int32} {s : ASt} {Q : Option Value → ASt → Prop} (h :
  (a2 ≤ a9 →
    wp E 98 386 [.ref a0, .int a1, .int a2, .int a3, .int a4, .int a5, .int a6, .int a7, .int a8, .int (nI 0)] [] s Q) ∧
  (¬ a2 ≤ a9 →
    ¬ a8 = (nI 0) ∧ sh s a0 5 8 ∧ cI E 65 [.ref a0, .int a9, .int (nI 3)] s (fun x2 s1 =>
    sh s1 a0 5 8 ∧ cI E 65 [.ref a0, .int a9, .int (nI 4)] s1 (fun x4 s3 =>
    (x4 ≠ (nI 1) →
      wp E 98 231 [.ref a0, .int a1, .int a2, .int a3, .int a4, .int a5, .int a6, .int a7, .int a8, .int a9, .int x2] [.int (nI 0), .int a6] s3 Q) ∧
    (¬ x4 ≠ (nI 1) →
      wp E 98 231 [.ref a0, .int a1, .int a2, .int a3, .int a4, .int a5, .int a6, .int a7, .int a8, .int a9, .int x2] [.int (nI 1), .int a6] s3 Q))))) : wp E 98 193 [.ref a0, .int a1, .int a2, .int a3, .int a4, .int a5, .int a6, .int a7, .int a8, .int a9] [] s Q := vcD_ok E 98 [29, 39, 193, 231, 322, 386, 414, 470, 505, 571, 649, 706, 737] Q dc98 21 false 193 _ _ _ h
set_option maxRecDepth 100000 in
theorem sg98_231 {E : AEnv} {a0 : Nat} {a1 : Int32} {a2 : Int32} {a3 : Int32} {a4 : Int32} {a5 : Int32} {a6 : Int32} {a7 : Int32} {a8 : Int32} {a9 : Int32} {a10 : Int32} {b0 : Int32} {b1 : Int32} {s : ASt} {Q : Option Value → ASt → Prop} (h :
  ¬ a10 < (nI 0) ∧ ¬ (nI 100) < a10 ∧ sh s a0 5 8 ∧ cI E 65 [.ref a0, .int a9, .int (nI 0)] s (fun x2 s1 =>
  sh s1 a0 5 8 ∧ cI E 65 [.ref a0, .int a9, .int (nI 1)] s1 (fun x4 s3 =>
  ¬ x2 = x4 ∧ sh s3 a0 5 8 ∧ cI E 65 [.ref a0, .int a9, .int (nI 6)] s3 (fun x6 s5 =>
  sh s5 a0 5 8 ∧ cI E 76 [.ref a0, .int (nI 0)] s5 (fun x8 s7 =>
  ¬ x8 < x6 ∧ sh s7 a0 5 8 ∧ cI E 65 [.ref a0, .int a9, .int (nI 4)] s7 (fun x10 s9 =>
  (x10 ≠ (nI 0) →
    sh s9 a0 5 8 ∧ cI E 65 [.ref a0, .int a9, .int (nI 4)] s9 (fun x12 s11 =>
    (x12 ≠ (nI 1) →
      sh s11 a0 5 8 ∧ cI E 76 [.ref a0, .int (nI 6)] s11 (fun x14 s13 =>
      wp E 98 322 [.ref a0, .int a1, .int a2, .int a3, .int a4, .int a5, .int (b1 + b0), .int a7, .int a8, .int a9, .int a10] [.int x14] s13 Q)) ∧
    (¬ x12 ≠ (nI 1) →
      sh s11 a0 5 8 ∧ cI E 76 [.ref a0, .int (nI 5)] s11 (fun x16 s15 =>
      wp E 98 322 [.ref a0, .int a1, .int a2, .int a3, .int a4, .int a5, .int (b1 + b0), .int a7, .int a8, .int a9, .int a10] [.int x16] s15 Q)))) ∧
  (¬ x10 ≠ (nI 0) →
    sh s9 a0 5 8 ∧ cI E 76 [.ref a0, .int (nI 4)] s9 (fun x18 s17 =>
    wp E 98 322 [.ref a0, .int a1, .int a2, .int a3, .int a4, .int a5, .int (b1 + b0), .int a7, .int a8, .int a9, .int a10] [.int x18] s17 Q)))))))) : wp E 98 231 [.ref a0, .int a1, .int a2, .int a3, .int a4, .int a5, .int a6, .int a7, .int a8, .int a9, .int a10] [.int b0, .int b1] s Q := vcD_ok E 98 [29, 39, 193, 231, 322, 386, 414, 470, 505, 571, 649, 706, 737] Q dc98 41 false 231 _ _ _ h
set_option maxRecDepth 100000 in
theorem sg98_322 {E : AEnv} {a0 : Nat} {a1 : Int32} {a2 : Int32} {a3 : Int32} {a4 : Int32} {a5 : Int32} {a6 : Int32} {a7 : Int32} {a8 : Int32} {a9 : Int32} {a10 : Int32} {b0 : Int32} {s : ASt} {Q : Option Value → ASt → Prop} (h :
  ¬ ((b0 >>> (a9 &&& 31)) &&& (nI 1)) ≠ (nI 1) ∧ sh s a0 5 8 ∧ cI E 65 [.ref a0, .int a9, .int (nI 4)] s (fun x2 s1 =>
  (x2 ≠ (nI 1) →
    sh s1 a0 5 8 ∧ cI E 65 [.ref a0, .int a9, .int (nI 4)] s1 (fun x4 s3 =>
    (x4 ≠ (nI 1) →
      wp E 98 193 [.ref a0, .int a1, .int a2, .int a3, .int a4, .int a5, .int a6, .int a7, .int (nI 1), .int (a9 + (nI 1))] [] s3 Q) ∧
    (¬ x4 ≠ (nI 1) →
      ¬ (nI 100) ≤ a10 ∧ wp E 98 193 [.ref a0, .int a1, .int a2, .int a3, .int a4, .int a5, .int a6, .int a7, .int (nI 1), .int (a9 + (nI 1))] [] s3 Q))) ∧
  (¬ x2 ≠ (nI 1) →
    sh s1 a0 5 8 ∧ cI E 65 [.ref a0, .int a9, .int (nI 5)] s1 (fun x6 s5 =>
    ¬ x6 ≤ (nI 0) ∧ sh s5 a0 5 8 ∧ cI E 65 [.ref a0, .int a9, .int (nI 4)] s5 (fun x8 s7 =>
    (x8 ≠ (nI 1) →
      wp E 98 193 [.ref a0, .int a1, .int a2, .int a3, .int a4, .int a5, .int a6, .int a7, .int (nI 1), .int (a9 + (nI 1))] [] s7 Q) ∧
    (¬ x8 ≠ (nI 1) →
      ¬ (nI 100) ≤ a10 ∧ wp E 98 193 [.ref a0, .int a1, .int a2, .int a3, .int a4, .int a5, .int a6, .int a7, .int (nI 1), .int (a9 + (nI 1))] [] s7 Q)))))) : wp E 98 322 [.ref a0, .int a1, .int a2, .int a3, .int a4, .int a5, .int a6, .int a7, .int a8, .int a9, .int a10] [.int b0] s Q := vcD_ok E 98 [29, 39, 193, 231, 322, 386, 414, 470, 505, 571, 649, 706, 737] Q dc98 33 false 322 _ _ _ h
set_option maxRecDepth 100000 in
theorem sg98_386 {E : AEnv} {a0 : Nat} {a1 : Int32} {a2 : Int32} {a3 : Int32} {a4 : Int32} {a5 : Int32} {a6 : Int32} {a7 : Int32} {a8 : Int32} {a9 : Int32} {s : ASt} {Q : Option Value → ASt → Prop} (h :
  (a1 ≤ a9 →
    wp E 98 571 [.ref a0, .int a1, .int a2, .int a3, .int a4, .int a5, .int a6, .int a7, .int a8, .int (nI 0)] [] s Q) ∧
  (¬ a1 ≤ a9 →
    ¬ a8 = (nI 0) ∧ (((a5 >>> (a9 &&& 31)) &&& (nI 1)) ≠ (nI 0) →
      wp E 98 414 [.ref a0, .int a1, .int a2, .int a3, .int a4, .int a5, .int a6, .int a7, .int a8, .int a9] [.int (nI 0), .int a4] s Q) ∧
    (¬ ((a5 >>> (a9 &&& 31)) &&& (nI 1)) ≠ (nI 0) →
      wp E 98 414 [.ref a0, .int a1, .int a2, .int a3, .int a4, .int a5, .int a6, .int a7, .int a8, .int a9] [.int (nI 1), .int a4] s Q))) : wp E 98 386 [.ref a0, .int a1, .int a2, .int a3, .int a4, .int a5, .int a6, .int a7, .int a8, .int a9] [] s Q := vcD_ok E 98 [29, 39, 193, 231, 322, 386, 414, 470, 505, 571, 649, 706, 737] Q dc98 16 false 386 _ _ _ h
set_option maxRecDepth 100000 in
theorem sg98_414 {E : AEnv} {a0 : Nat} {a1 : Int32} {a2 : Int32} {a3 : Int32} {a4 : Int32} {a5 : Int32} {a6 : Int32} {a7 : Int32} {a8 : Int32} {a9 : Int32} {b0 : Int32} {b1 : Int32} {s : ASt} {Q : Option Value → ASt → Prop} (h :
  sh s a0 5 8 ∧ cI E 67 [.ref a0, .int a9] s (fun x2 s1 =>
  sh s1 a0 5 8 ∧ cI E 66 [.ref a0, .int a9, .int (nI 5)] s1 (fun x4 s3 =>
  sh s3 a0 5 8 ∧ cI E 67 [.ref a0, .int a9] s3 (fun x6 s5 =>
  (x6 ≠ a3 →
    (((a3 >>> (a9 &&& 31)) &&& (nI 1)) ≠ (nI 1) →
      wp E 98 470 [.ref a0, .int a1, .int a2, .int a3, .int (b1 + b0), .int (a5 ||| x2), .int a6, .int (a7 + x4), .int a8, .int a9] [.int (nI 0), .int (nI 0)] s5 Q) ∧
    (¬ ((a3 >>> (a9 &&& 31)) &&& (nI 1)) ≠ (nI 1) →
      wp E 98 470 [.ref a0, .int a1, .int a2, .int a3, .int (b1 + b0), .int (a5 ||| x2), .int a6, .int (a7 + x4), .int a8, .int a9] [.int (nI 1), .int (nI 0)] s5 Q)) ∧
  (¬ x6 ≠ a3 →
    (((a3 >>> (a9 &&& 31)) &&& (nI 1)) ≠ (nI 1) →
      wp E 98 470 [.ref a0, .int a1, .int a2, .int a3, .int (b1 + b0), .int (a5 ||| x2), .int a6, .int (a7 + x4), .int a8, .int a9] [.int (nI 0), .int (nI 1)] s5 Q) ∧
    (¬ ((a3 >>> (a9 &&& 31)) &&& (nI 1)) ≠ (nI 1) →
      wp E 98 470 [.ref a0, .int a1, .int a2, .int a3, .int (b1 + b0), .int (a5 ||| x2), .int a6, .int (a7 + x4), .int a8, .int a9] [.int (nI 1), .int (nI 1)] s5 Q)))))) : wp E 98 414 [.ref a0, .int a1, .int a2, .int a3, .int a4, .int a5, .int a6, .int a7, .int a8, .int a9] [.int b0, .int b1] s Q := vcD_ok E 98 [29, 39, 193, 231, 322, 386, 414, 470, 505, 571, 649, 706, 737] Q dc98 33 false 414 _ _ _ h
set_option maxRecDepth 100000 in
theorem sg98_470 {E : AEnv} {a0 : Nat} {a1 : Int32} {a2 : Int32} {a3 : Int32} {a4 : Int32} {a5 : Int32} {a6 : Int32} {a7 : Int32} {a8 : Int32} {a9 : Int32} {b0 : Int32} {b1 : Int32} {s : ASt} {Q : Option Value → ASt → Prop} (h :
  ¬ b1 ≠ b0 ∧ sh s a0 5 8 ∧ cI E 66 [.ref a0, .int a9, .int (nI 7)] s (fun x2 s1 =>
  (x2 ≠ (-1000004 : Int32) →
    (((a3 >>> (a9 &&& 31)) &&& (nI 1)) ≠ (nI 0) →
      wp E 98 505 [.ref a0, .int a1, .int a2, .int a3, .int a4, .int a5, .int a6, .int a7, .int a8, .int a9] [.int (nI 0), .int (nI 0)] s1 Q) ∧
    (¬ ((a3 >>> (a9 &&& 31)) &&& (nI 1)) ≠ (nI 0) →
      wp E 98 505 [.ref a0, .int a1, .int a2, .int a3, .int a4, .int a5, .int a6, .int a7, .int a8, .int a9] [.int (nI 1), .int (nI 0)] s1 Q)) ∧
  (¬ x2 ≠ (-1000004 : Int32) →
    (((a3 >>> (a9 &&& 31)) &&& (nI 1)) ≠ (nI 0) →
      wp E 98 505 [.ref a0, .int a1, .int a2, .int a3, .int a4, .int a5, .int a6, .int a7, .int a8, .int a9] [.int (nI 0), .int (nI 1)] s1 Q) ∧
    (¬ ((a3 >>> (a9 &&& 31)) &&& (nI 1)) ≠ (nI 0) →
      wp E 98 505 [.ref a0, .int a1, .int a2, .int a3, .int a4, .int a5, .int a6, .int a7, .int a8, .int a9] [.int (nI 1), .int (nI 1)] s1 Q)))) : wp E 98 470 [.ref a0, .int a1, .int a2, .int a3, .int a4, .int a5, .int a6, .int a7, .int a8, .int a9] [.int b0, .int b1] s Q := vcD_ok E 98 [29, 39, 193, 231, 322, 386, 414, 470, 505, 571, 649, 706, 737] Q dc98 19 false 470 _ _ _ h
set_option maxRecDepth 100000 in
theorem sg98_505 {E : AEnv} {a0 : Nat} {a1 : Int32} {a2 : Int32} {a3 : Int32} {a4 : Int32} {a5 : Int32} {a6 : Int32} {a7 : Int32} {a8 : Int32} {a9 : Int32} {b0 : Int32} {b1 : Int32} {s : ASt} {Q : Option Value → ASt → Prop} (h :
  ¬ b1 ≠ b0 ∧ sh s a0 5 8 ∧ cI E 66 [.ref a0, .int a9, .int (nI 1)] s (fun x2 s1 =>
  sh s1 a0 5 8 ∧ cI E 66 [.ref a0, .int a9, .int (nI 4)] s1 (fun x4 s3 =>
  ¬ x4 < x2 ∧ sh s3 a0 5 8 ∧ cI E 66 [.ref a0, .int a9, .int (nI 4)] s3 (fun x6 s5 =>
  sh s5 a0 5 8 ∧ cI E 76 [.ref a0, .int (nI 0)] s5 (fun x8 s7 =>
  ¬ x8 < x6 ∧ sh s7 a0 5 8 ∧ cI E 66 [.ref a0, .int a9, .int (nI 3)] s7 (fun x10 s9 =>
  sh s9 a0 5 8 ∧ cI E 76 [.ref a0, .int (nI 0)] s9 (fun x12 s11 =>
  ¬ x12 < x10 ∧ wp E 98 386 [.ref a0, .int a1, .int a2, .int a3, .int a4, .int a5, .int a6, .int a7, .int (nI 1), .int (a9 + (nI 1))] [] s11 Q))))))) : wp E 98 505 [.ref a0, .int a1, .int a2, .int a3, .int a4, .int a5, .int a6, .int a7, .int a8, .int a9] [.int b0, .int b1] s Q := vcD_ok E 98 [29, 39, 193, 231, 322, 386, 414, 470, 505, 571, 649, 706, 737] Q dc98 33 false 505 _ _ _ h
set_option maxRecDepth 100000 in
theorem sg98_571 {E : AEnv} {a0 : Nat} {a1 : Int32} {a2 : Int32} {a3 : Int32} {a4 : Int32} {a5 : Int32} {a6 : Int32} {a7 : Int32} {a8 : Int32} {a9 : Int32} {s : ASt} {Q : Option Value → ASt → Prop} (h :
  sh s a0 5 8 ∧ cI E 76 [.ref a0, .int (nI 17)] s (fun x2 s1 =>
  (x2 ≤ a9 →
    wp E 98 649 [.ref a0, .int a1, .int a2, .int a3, .int a4, .int a5, .int a6, .int a7, .int a8, .int a9] [] s1 Q) ∧
  (¬ x2 ≤ a9 →
    ¬ a8 = (nI 0) ∧ sh s1 a0 5 8 ∧ cI E 68 [.ref a0, .int a9, .int (nI 1)] s1 (fun x4 s3 =>
    ¬ x4 ≤ (nI 0) ∧ sh s3 a0 5 8 ∧ cI E 68 [.ref a0, .int a9, .int (nI 0)] s3 (fun x6 s5 =>
    sh s5 a0 5 8 ∧ cI E 76 [.ref a0, .int (nI 0)] s5 (fun x8 s7 =>
    ¬ x8 ≤ x6 ∧ (a9 = (nI 0) →
      wp E 98 571 [.ref a0, .int a1, .int a2, .int a3, .int a4, .int a5, .int a6, .int a7, .int (nI 1), .int (a9 + (nI 1))] [] s7 Q) ∧
    (¬ a9 = (nI 0) →
      sh s7 a0 5 8 ∧ cI E 68 [.ref a0, .int a9, .int (nI 0)] s7 (fun x10 s9 =>
      sh s9 a0 5 8 ∧ cI E 68 [.ref a0, .int (a9 - (nI 1)), .int (nI 0)] s9 (fun x12 s11 =>
      ¬ x12 ≤ x10 ∧ wp E 98 571 [.ref a0, .int a1, .int a2, .int a3, .int a4, .int a5, .int a6, .int a7, .int (nI 1), .int (a9 + (nI 1))] [] s11 Q))))))))) : wp E 98 571 [.ref a0, .int a1, .int a2, .int a3, .int a4, .int a5, .int a6, .int a7, .int a8, .int a9] [] s Q := vcD_ok E 98 [29, 39, 193, 231, 322, 386, 414, 470, 505, 571, 649, 706, 737] Q dc98 40 false 571 _ _ _ h
set_option maxRecDepth 100000 in
theorem sg98_649 {E : AEnv} {a0 : Nat} {a1 : Int32} {a2 : Int32} {a3 : Int32} {a4 : Int32} {a5 : Int32} {a6 : Int32} {a7 : Int32} {a8 : Int32} {a9 : Int32} {s : ASt} {Q : Option Value → ASt → Prop} (h :
  ¬ a8 = (nI 0) ∧ sh s a0 5 8 ∧ cI E 76 [.ref a0, .int (nI 8)] s (fun x2 s1 =>
  ¬ x2 ≠ a4 ∧ sh s1 a0 5 8 ∧ cI E 76 [.ref a0, .int (nI 9)] s1 (fun x4 s3 =>
  ¬ x4 ≠ a4 ∧ sh s3 a0 5 8 ∧ cI E 76 [.ref a0, .int (nI 10)] s3 (fun x6 s5 =>
  sh s5 a0 5 8 ∧ cI E 76 [.ref a0, .int (nI 20)] s5 (fun x8 s7 =>
  (x8 ≤ a6 →
    wp E 98 706 [.ref a0, .int a1, .int a2, .int a3, .int a4, .int a5, .int a6, .int a7, .int a8, .int a9] [.int (nI 0), .int x6] s7 Q) ∧
  (¬ x8 ≤ a6 →
    sh s7 a0 5 8 ∧ cI E 76 [.ref a0, .int (nI 20)] s7 (fun x10 s9 =>
    wp E 98 706 [.ref a0, .int a1, .int a2, .int a3, .int a4, .int a5, .int a6, .int a7, .int a8, .int a9] [.int (x10 - a6), .int x6] s9 Q))))))) : wp E 98 649 [.ref a0, .int a1, .int a2, .int a3, .int a4, .int a5, .int a6, .int a7, .int a8, .int a9] [] s Q := vcD_ok E 98 [29, 39, 193, 231, 322, 386, 414, 470, 505, 571, 649, 706, 737] Q dc98 28 false 649 _ _ _ h
set_option maxRecDepth 100000 in
theorem sg98_706 {E : AEnv} {a0 : Nat} {a1 : Int32} {a2 : Int32} {a3 : Int32} {a4 : Int32} {a5 : Int32} {a6 : Int32} {a7 : Int32} {a8 : Int32} {a9 : Int32} {b0 : Int32} {b1 : Int32} {s : ASt} {Q : Option Value → ASt → Prop} (h :
  ¬ b1 ≠ b0 ∧ sh s a0 5 8 ∧ cI E 76 [.ref a0, .int (nI 17)] s (fun x2 s1 =>
  (x2 ≠ (nI 0) →
    sh s1 a0 5 8 ∧ cI E 76 [.ref a0, .int (nI 11)] s1 (fun x4 s3 =>
    (x4 ≠ (nI 0) →
      wp E 98 737 [.ref a0, .int a1, .int a2, .int a3, .int a4, .int a5, .int a6, .int a7, .int a8, .int a9] [.int (nI 0), .int (nI 0)] s3 Q) ∧
    (¬ x4 ≠ (nI 0) →
      wp E 98 737 [.ref a0, .int a1, .int a2, .int a3, .int a4, .int a5, .int a6, .int a7, .int a8, .int a9] [.int (nI 1), .int (nI 0)] s3 Q))) ∧
  (¬ x2 ≠ (nI 0) →
    sh s1 a0 5 8 ∧ cI E 76 [.ref a0, .int (nI 11)] s1 (fun x6 s5 =>
    (x6 ≠ (nI 0) →
      wp E 98 737 [.ref a0, .int a1, .int a2, .int a3, .int a4, .int a5, .int a6, .int a7, .int a8, .int a9] [.int (nI 0), .int (nI 1)] s5 Q) ∧
    (¬ x6 ≠ (nI 0) →
      wp E 98 737 [.ref a0, .int a1, .int a2, .int a3, .int a4, .int a5, .int a6, .int a7, .int a8, .int a9] [.int (nI 1), .int (nI 1)] s5 Q))))) : wp E 98 706 [.ref a0, .int a1, .int a2, .int a3, .int a4, .int a5, .int a6, .int a7, .int a8, .int a9] [.int b0, .int b1] s Q := vcD_ok E 98 [29, 39, 193, 231, 322, 386, 414, 470, 505, 571, 649, 706, 737] Q dc98 15 false 706 _ _ _ h
set_option maxRecDepth 100000 in
theorem sg98_737 {E : AEnv} {a0 : Nat} {a1 : Int32} {a2 : Int32} {a3 : Int32} {a4 : Int32} {a5 : Int32} {a6 : Int32} {a7 : Int32} {a8 : Int32} {a9 : Int32} {b0 : Int32} {b1 : Int32} {s : ASt} {Q : Option Value → ASt → Prop} (h :
  ¬ b1 ≠ b0 ∧ sh s a0 5 8 ∧ cI E 75 [.ref a0] s (fun x2 s1 =>
  (x2 ≠ (-1000004 : Int32) →
    (a2 ≠ (nI 0) →
      ¬ (nI 0) ≠ (nI 0) ∧ ¬ a7 < (nI 0) ∧ sh s1 a0 5 8 ∧ cI E 76 [.ref a0, .int (nI 17)] s1 (fun x4 s3 =>
      sh s3 a0 5 8 ∧ cI E 68 [.ref a0, .int x4, .int (nI 0)] s3 (fun x6 s5 =>
      ¬ x6 ≠ (-1000004 : Int32) ∧ fN .boolean (nI 1) = true ∧ Q (some (.int (nI 1))) s5))) ∧
    (¬ a2 ≠ (nI 0) →
      ¬ (nI 0) ≠ (nI 1) ∧ ¬ a7 < (nI 0) ∧ sh s1 a0 5 8 ∧ cI E 76 [.ref a0, .int (nI 17)] s1 (fun x8 s7 =>
      sh s7 a0 5 8 ∧ cI E 68 [.ref a0, .int x8, .int (nI 0)] s7 (fun x10 s9 =>
      ¬ x10 ≠ (-1000004 : Int32) ∧ fN .boolean (nI 1) = true ∧ Q (some (.int (nI 1))) s9)))) ∧
  (¬ x2 ≠ (-1000004 : Int32) →
    (a2 ≠ (nI 0) →
      ¬ (nI 1) ≠ (nI 0) ∧ ¬ a7 < (nI 0) ∧ sh s1 a0 5 8 ∧ cI E 76 [.ref a0, .int (nI 17)] s1 (fun x12 s11 =>
      sh s11 a0 5 8 ∧ cI E 68 [.ref a0, .int x12, .int (nI 0)] s11 (fun x14 s13 =>
      ¬ x14 ≠ (-1000004 : Int32) ∧ fN .boolean (nI 1) = true ∧ Q (some (.int (nI 1))) s13))) ∧
    (¬ a2 ≠ (nI 0) →
      ¬ (nI 1) ≠ (nI 1) ∧ ¬ a7 < (nI 0) ∧ sh s1 a0 5 8 ∧ cI E 76 [.ref a0, .int (nI 17)] s1 (fun x16 s15 =>
      sh s15 a0 5 8 ∧ cI E 68 [.ref a0, .int x16, .int (nI 0)] s15 (fun x18 s17 =>
      ¬ x18 ≠ (-1000004 : Int32) ∧ fN .boolean (nI 1) = true ∧ Q (some (.int (nI 1))) s17)))))) : wp E 98 737 [.ref a0, .int a1, .int a2, .int a3, .int a4, .int a5, .int a6, .int a7, .int a8, .int a9] [.int b0, .int b1] s Q := vcD_ok E 98 [29, 39, 193, 231, 322, 386, 414, 470, 505, 571, 649, 706, 737] Q dc98 26 false 737 _ _ _ h
-- 99 CoatedBridgesLaw.would(LCoatedBridges;I)Z
def dc99 : List (Nat × Bool) := [(83, false), (90, false), (97, false), (104, false), (117, false), (123, false), (134, false), (148, false), (158, false), (171, false), (183, false), (191, false), (201, false), (206, false), (213, false), (241, false), (253, false), (265, false), (271, false), (281, false), (297, false), (309, false), (317, false), (336, false), (344, false)]
set_option maxRecDepth 100000 in
theorem sg99_0 {E : AEnv} {a0 : Nat} {a1 : Int32} {s : ASt} {Q : Option Value → ASt → Prop} (h :
  sh s a0 5 8 ∧ cI E 76 [.ref a0, .int (nI 2)] s (fun x2 s1 =>
  cI E 96 [.int a1, .int (x2 + (nI 1))] s1 (fun x4 s3 =>
  sh s3 a0 5 8 ∧ cI E 69 [.ref a0, .int x4, .int (nI 0)] s3 (fun x6 s5 =>
  sh s5 a0 5 8 ∧ cI E 69 [.ref a0, .int x4, .int (nI 1)] s5 (fun x8 s7 =>
  sh s7 a0 5 8 ∧ cI E 71 [.ref a0, .int x4] s7 (fun x10 s9 =>
  sh s9 a0 5 8 ∧ cI E 72 [.ref a0, .int x4] s9 (fun x12 s11 =>
  sh s11 a0 5 8 ∧ cI E 70 [.ref a0] s11 (fun x14 s13 =>
  sh s13 a0 5 8 ∧ cI E 73 [.ref a0] s13 (fun x16 s15 =>
  cI E 96 [.int (a1 >>> ((nI 5) &&& 31)), .int (nI 101)] s15 (fun x18 s17 =>
  sh s17 a0 5 8 ∧ cI E 74 [.ref a0, .int x18] s17 (fun x20 s19 =>
  (x4 ≠ x2 →
    ¬ x6 < (nI 0) ∧ ¬ (nI 4) < x6 ∧ (x6 ≠ (nI 4) →
      ¬ x8 ≠ (-1000004 : Int32) ∧ wp E 99 161 [.ref a0, .int a1, .int x2, .int x4, .int x6, .int x8, .int x10, .int x12, .int x14, .int x16, .int x18, .int x20] [] s19 Q) ∧
    (¬ x6 ≠ (nI 4) →
      ¬ x8 ≤ (nI 0) ∧ sh s19 a0 5 8 ∧ cI E 76 [.ref a0, .int (nI 3)] s19 (fun x22 s21 =>
      ¬ ((x22 >>> (x8 &&& 31)) &&& (nI 1)) ≠ (nI 1) ∧ wp E 99 161 [.ref a0, .int a1, .int x2, .int x4, .int x6, .int x8, .int x10, .int x12, .int x14, .int x16, .int x18, .int x20] [] s21 Q))) ∧
  (¬ x4 ≠ x2 →
    ¬ x6 ≠ (-1000001 : Int32) ∧ ¬ x8 ≠ (-1000001 : Int32) ∧ ¬ x10 ≠ (-1000001 : Int32) ∧ ¬ x12 ≠ (-1000001 : Int32) ∧ wp E 99 249 [.ref a0, .int a1, .int x2, .int x4, .int x6, .int x8, .int x10, .int x12, .int x14, .int x16, .int x18, .int x20] [.int (nI 1)] s19 Q)))))))))))) : wp E 99 0 [.ref a0, .int a1] [] s Q := vcD_ok E 99 [161, 249] Q dc99 69 false 0 _ _ _ h
set_option maxRecDepth 100000 in
theorem sg99_161 {E : AEnv} {a0 : Nat} {a1 : Int32} {a2 : Int32} {a3 : Int32} {a4 : Int32} {a5 : Int32} {a6 : Int32} {a7 : Int32} {a8 : Int32} {a9 : Int32} {a10 : Int32} {a11 : Int32} {s : ASt} {Q : Option Value → ASt → Prop} (h :
  (a4 ≠ (nI 1) →
    ¬ a7 ≠ (-1000002 : Int32) ∧ ¬ a6 < (nI 0) ∧ ¬ (nI 100) < a6 ∧ (a6 ≠ (nI 0) →
      sh s a0 5 8 ∧ cI E 65 [.ref a0, .int a3, .int (nI 4)] s (fun x2 s1 =>
      (x2 ≠ (nI 2) →
        ¬ (nI 0) ≠ (nI 0) ∧ wp E 99 249 [.ref a0, .int a1, .int a2, .int a3, .int a4, .int a5, .int a6, .int a7, .int a8, .int a9, .int a10, .int a11] [.int (nI 1)] s1 Q) ∧
      (¬ x2 ≠ (nI 2) →
        ¬ (nI 0) ≠ (nI 1) ∧ wp E 99 249 [.ref a0, .int a1, .int a2, .int a3, .int a4, .int a5, .int a6, .int a7, .int a8, .int a9, .int a10, .int a11] [.int (nI 1)] s1 Q))) ∧
    (¬ a6 ≠ (nI 0) →
      sh s a0 5 8 ∧ cI E 65 [.ref a0, .int a3, .int (nI 4)] s (fun x4 s3 =>
      (x4 ≠ (nI 2) →
        ¬ (nI 1) ≠ (nI 0) ∧ wp E 99 249 [.ref a0, .int a1, .int a2, .int a3, .int a4, .int a5, .int a6, .int a7, .int a8, .int a9, .int a10, .int a11] [.int (nI 1)] s3 Q) ∧
      (¬ x4 ≠ (nI 2) →
        ¬ (nI 1) ≠ (nI 1) ∧ wp E 99 249 [.ref a0, .int a1, .int a2, .int a3, .int a4, .int a5, .int a6, .int a7, .int a8, .int a9, .int a10, .int a11] [.int (nI 1)] s3 Q)))) ∧
  (¬ a4 ≠ (nI 1) →
    ¬ a6 ≠ (-1000002 : Int32) ∧ (a7 = (-1000004 : Int32) →
      wp E 99 249 [.ref a0, .int a1, .int a2, .int a3, .int a4, .int a5, .int a6, .int a7, .int a8, .int a9, .int a10, .int a11] [.int (nI 1)] s Q) ∧
    (¬ a7 = (-1000004 : Int32) →
      ¬ a7 ≤ (nI 0) ∧ ¬ (nI 200) < a7 ∧ wp E 99 249 [.ref a0, .int a1, .int a2, .int a3, .int a4, .int a5, .int a6, .int a7, .int a8, .int a9, .int a10, .int a11] [.int (nI 1)] s Q))) : wp E 99 161 [.ref a0, .int a1, .int a2, .int a3, .int a4, .int a5, .int a6, .int a7, .int a8, .int a9, .int a10, .int a11] [] s Q := vcD_ok E 99 [161, 249] Q dc99 28 false 161 _ _ _ h
set_option maxRecDepth 100000 in
theorem sg99_249 {E : AEnv} {a0 : Nat} {a1 : Int32} {a2 : Int32} {a3 : Int32} {a4 : Int32} {a5 : Int32} {a6 : Int32} {a7 : Int32} {a8 : Int32} {a9 : Int32} {a10 : Int32} {a11 : Int32} {b0 : Int32} {s : ASt} {Q : Option Value → ASt → Prop} (h :
  ¬ b0 = (nI 0) ∧ (a8 = (-1000004 : Int32) →
    (a9 = (-1000004 : Int32) →
      (a10 = (nI 0) →
        ¬ a11 ≠ (-1000001 : Int32) ∧ fN .boolean (nI 1) = true ∧ Q (some (.int (nI 1))) s) ∧
      (¬ a10 = (nI 0) →
        (a10 ≠ (nI 100) →
          ¬ a11 < (nI 0) ∧ fN .boolean (nI 1) = true ∧ Q (some (.int (nI 1))) s) ∧
        (¬ a10 ≠ (nI 100) →
          ¬ a11 ≠ (-1000001 : Int32) ∧ fN .boolean (nI 1) = true ∧ Q (some (.int (nI 1))) s))) ∧
    (¬ a9 = (-1000004 : Int32) →
      ¬ a9 ≤ (nI 0) ∧ ¬ (nI 200) < a9 ∧ (a10 = (nI 0) →
        ¬ a11 ≠ (-1000001 : Int32) ∧ fN .boolean (nI 1) = true ∧ Q (some (.int (nI 1))) s) ∧
      (¬ a10 = (nI 0) →
        (a10 ≠ (nI 100) →
          ¬ a11 < (nI 0) ∧ fN .boolean (nI 1) = true ∧ Q (some (.int (nI 1))) s) ∧
        (¬ a10 ≠ (nI 100) →
          ¬ a11 ≠ (-1000001 : Int32) ∧ fN .boolean (nI 1) = true ∧ Q (some (.int (nI 1))) s)))) ∧
  (¬ a8 = (-1000004 : Int32) →
    ¬ a8 < (nI 0) ∧ ¬ a2 ≤ a8 ∧ sh s a0 5 8 ∧ cI E 69 [.ref a0, .int a8, .int (nI 0)] s (fun x2 s1 =>
    ¬ x2 ≠ (nI 0) ∧ sh s1 a0 5 8 ∧ cI E 65 [.ref a0, .int a8, .int (nI 3)] s1 (fun x4 s3 =>
    sh s3 a0 5 8 ∧ cI E 76 [.ref a0, .int (nI 27)] s3 (fun x6 s5 =>
    ¬ x6 < x4 ∧ (a9 = (-1000004 : Int32) →
      (a10 = (nI 0) →
        ¬ a11 ≠ (-1000001 : Int32) ∧ fN .boolean (nI 1) = true ∧ Q (some (.int (nI 1))) s5) ∧
      (¬ a10 = (nI 0) →
        (a10 ≠ (nI 100) →
          ¬ a11 < (nI 0) ∧ fN .boolean (nI 1) = true ∧ Q (some (.int (nI 1))) s5) ∧
        (¬ a10 ≠ (nI 100) →
          ¬ a11 ≠ (-1000001 : Int32) ∧ fN .boolean (nI 1) = true ∧ Q (some (.int (nI 1))) s5))) ∧
    (¬ a9 = (-1000004 : Int32) →
      ¬ a9 ≤ (nI 0) ∧ ¬ (nI 200) < a9 ∧ (a10 = (nI 0) →
        ¬ a11 ≠ (-1000001 : Int32) ∧ fN .boolean (nI 1) = true ∧ Q (some (.int (nI 1))) s5) ∧
      (¬ a10 = (nI 0) →
        (a10 ≠ (nI 100) →
          ¬ a11 < (nI 0) ∧ fN .boolean (nI 1) = true ∧ Q (some (.int (nI 1))) s5) ∧
        (¬ a10 ≠ (nI 100) →
          ¬ a11 ≠ (-1000001 : Int32) ∧ fN .boolean (nI 1) = true ∧ Q (some (.int (nI 1))) s5)))))))) : wp E 99 249 [.ref a0, .int a1, .int a2, .int a3, .int a4, .int a5, .int a6, .int a7, .int a8, .int a9, .int a10, .int a11] [.int b0] s Q := vcD_ok E 99 [161, 249] Q dc99 45 false 249 _ _ _ h
-- 100 CoatedBridgesLaw.number(LCoatedBridges;I)Z
def dc100 : List (Nat × Bool) := [(17, false), (40, false), (54, false)]
set_option maxRecDepth 100000 in
theorem sg100_0 {E : AEnv} {a0 : Nat} {a1 : Int32} {s : ASt} {Q : Option Value → ASt → Prop} (h :
  (a1 < (nI 100) →
    wp E 100 20 [.ref a0, .int a1] [] s Q) ∧
  (¬ a1 < (nI 100) →
    ¬ (nI 100) = 0 ∧ sh s a0 5 8 ∧ cI E 78 [.ref a0, .int ((nI 48) + (a1 / (nI 100)))] s (fun x2 s1 =>
    ¬ x2 ≤ (nI 0) ∧ wp E 100 20 [.ref a0, .int a1] [] s1 Q))) : wp E 100 0 [.ref a0, .int a1] [] s Q := vcD_ok E 100 [20, 43] Q dc100 13 false 0 _ _ _ h
set_option maxRecDepth 100000 in
theorem sg100_20 {E : AEnv} {a0 : Nat} {a1 : Int32} {s : ASt} {Q : Option Value → ASt → Prop} (h :
  (a1 < (nI 10) →
    wp E 100 43 [.ref a0, .int a1] [] s Q) ∧
  (¬ a1 < (nI 10) →
    ¬ (nI 10) = 0 ∧ ¬ (nI 10) = 0 ∧ sh s a0 5 8 ∧ cI E 78 [.ref a0, .int ((nI 48) + ((a1 / (nI 10)) - (a1 / (nI 10)) / (nI 10) * (nI 10)))] s (fun x2 s1 =>
    ¬ x2 ≤ (nI 0) ∧ wp E 100 43 [.ref a0, .int a1] [] s1 Q))) : wp E 100 20 [.ref a0, .int a1] [] s Q := vcD_ok E 100 [20, 43] Q dc100 15 false 20 _ _ _ h
set_option maxRecDepth 100000 in
theorem sg100_43 {E : AEnv} {a0 : Nat} {a1 : Int32} {s : ASt} {Q : Option Value → ASt → Prop} (h :
  ¬ (nI 10) = 0 ∧ sh s a0 5 8 ∧ cI E 78 [.ref a0, .int ((nI 48) + (a1 - a1 / (nI 10) * (nI 10)))] s (fun x2 s1 =>
  ¬ x2 ≤ (nI 0) ∧ fN .boolean (nI 1) = true ∧ Q (some (.int (nI 1))) s1)) : wp E 100 43 [.ref a0, .int a1] [] s Q := vcD_ok E 100 [20, 43] Q dc100 12 false 43 _ _ _ h
-- 101 CoatedBridgesLaw.types(LCoatedBridges;I)Z
def dc101 : List (Nat × Bool) := [(11, false), (49, false), (126, false), (249, false), (271, false), (280, false), (301, false), (310, false), (352, false), (362, false), (396, false)]
set_option maxRecDepth 100000 in
theorem sg101_0 {E : AEnv} {a0 : Nat} {a1 : Int32} {s : ASt} {Q : Option Value → ASt → Prop} (h :
  cI E 96 [.int a1, .int (nI 6)] s (fun x2 s1 =>
  sh s1 a0 5 8 ∧ cI E 79 [.ref a0] s1 (fun x4 s3 =>
  ¬ x4 < (nI 0) ∧ wp E 101 23 [.ref a0, .int a1, .int x2, .int (nI 1), .int (nI 0)] [] s3 Q))) : wp E 101 0 [.ref a0, .int a1] [] s Q := vcD_ok E 101 [23, 123, 246, 257, 349, 361, 404] Q dc101 14 false 0 _ _ _ h
set_option maxRecDepth 100000 in
theorem sg101_23 {E : AEnv} {a0 : Nat} {a1 : Int32} {a2 : Int32} {a3 : Int32} {a4 : Int32} {s : ASt} {Q : Option Value → ASt → Prop} (h :
  (a2 ≤ a4 →
    fN .boolean a3 = true ∧ Q (some (.int a3)) s) ∧
  (¬ a2 ≤ a4 →
    cI E 96 [.int (a1 >>> (((nI 3) + ((nI 4) * a4)) &&& 31)), .int (nI 11)] s (fun x2 s1 =>
    ¬ a3 = (nI 0) ∧ ((nI 2) ≤ x2 →
      ((nI 4) ≤ x2 →
        (x2 ≠ (nI 4) →
          (x2 ≠ (nI 5) →
            (x2 ≠ (nI 6) →
              (x2 ≠ (nI 7) →
                wp E 101 123 [.ref a0, .int a1, .int a2, .int a3, .int a4, .int (a1 >>> (((nI 3) + ((nI 4) * a4)) &&& 31)), .int x2] [.int (nI 100), .ref a0] s1 Q) ∧
              (¬ x2 ≠ (nI 7) →
                wp E 101 123 [.ref a0, .int a1, .int a2, .int a3, .int a4, .int (a1 >>> (((nI 3) + ((nI 4) * a4)) &&& 31)), .int x2] [.int (nI 112), .ref a0] s1 Q)) ∧
            (¬ x2 ≠ (nI 6) →
              wp E 101 123 [.ref a0, .int a1, .int a2, .int a3, .int a4, .int (a1 >>> (((nI 3) + ((nI 4) * a4)) &&& 31)), .int x2] [.int (nI 114), .ref a0] s1 Q)) ∧
          (¬ x2 ≠ (nI 5) →
            wp E 101 123 [.ref a0, .int a1, .int a2, .int a3, .int a4, .int (a1 >>> (((nI 3) + ((nI 4) * a4)) &&& 31)), .int x2] [.int (nI 102), .ref a0] s1 Q)) ∧
        (¬ x2 ≠ (nI 4) →
          wp E 101 123 [.ref a0, .int a1, .int a2, .int a3, .int a4, .int (a1 >>> (((nI 3) + ((nI 4) * a4)) &&& 31)), .int x2] [.int (nI 115), .ref a0] s1 Q)) ∧
      (¬ (nI 4) ≤ x2 →
        wp E 101 123 [.ref a0, .int a1, .int a2, .int a3, .int a4, .int (a1 >>> (((nI 3) + ((nI 4) * a4)) &&& 31)), .int x2] [.int (nI 98), .ref a0] s1 Q)) ∧
    (¬ (nI 2) ≤ x2 →
      wp E 101 123 [.ref a0, .int a1, .int a2, .int a3, .int a4, .int (a1 >>> (((nI 3) + ((nI 4) * a4)) &&& 31)), .int x2] [.int (nI 105), .ref a0] s1 Q)))) : wp E 101 23 [.ref a0, .int a1, .int a2, .int a3, .int a4] [] s Q := vcD_ok E 101 [23, 123, 246, 257, 349, 361, 404] Q dc101 40 false 23 _ _ _ h
set_option maxRecDepth 100000 in
theorem sg101_123 {E : AEnv} {a0 : Nat} {a1 : Int32} {a2 : Int32} {a3 : Int32} {a4 : Int32} {a5 : Int32} {a6 : Int32} {b0 : Int32} {b1 : Nat} {s : ASt} {Q : Option Value → ASt → Prop} (h :
  sh s b1 5 8 ∧ cI E 78 [.ref b1, .int b0] s (fun x2 s1 =>
  ¬ x2 ≤ (nI 0) ∧ ((nI 2) ≤ a6 →
    ((nI 4) ≤ a6 →
      ((nI 7) ≤ a6 →
        cI E 96 [.int (a1 >>> ((nI 25) &&& 31)), .int (nI 9)] s1 (fun x4 s3 =>
        (x4 ≠ (nI 0) →
          cI E 96 [.int (a5 >>> ((nI 2) &&& 31)), .int (nI 20)] s3 (fun x6 s5 =>
          wp E 101 246 [.ref a0, .int a1, .int a2, .int a3, .int a4, .int a5, .int a6] [.int ((nI 1) + x6), .ref a0] s5 Q)) ∧
        (¬ x4 ≠ (nI 0) →
          cI E 96 [.int (a5 >>> ((nI 2) &&& 31)), .int (nI 200)] s3 (fun x8 s7 =>
          wp E 101 246 [.ref a0, .int a1, .int a2, .int a3, .int a4, .int a5, .int a6] [.int x8, .ref a0] s7 Q)))) ∧
      (¬ (nI 7) ≤ a6 →
        sh s1 a0 5 8 ∧ cI E 76 [.ref a0, .int (nI 2)] s1 (fun x10 s9 =>
        cI E 96 [.int (a5 >>> ((nI 2) &&& 31)), .int (x10 + (nI 1))] s9 (fun x12 s11 =>
        wp E 101 246 [.ref a0, .int a1, .int a2, .int a3, .int a4, .int a5, .int a6] [.int x12, .ref a0] s11 Q)))) ∧
    (¬ (nI 4) ≤ a6 →
      sh s1 a0 5 8 ∧ cI E 76 [.ref a0, .int (nI 1)] s1 (fun x14 s13 =>
      cI E 96 [.int (a5 >>> ((nI 2) &&& 31)), .int x14] s13 (fun x16 s15 =>
      wp E 101 246 [.ref a0, .int a1, .int a2, .int a3, .int a4, .int a5, .int a6] [.int x16, .ref a0] s15 Q)))) ∧
  (¬ (nI 2) ≤ a6 →
    cI E 96 [.int (a1 >>> ((nI 23) &&& 31)), .int (nI 9)] s1 (fun x18 s17 =>
    (x18 ≠ (nI 0) →
      cI E 96 [.int (a5 >>> ((nI 2) &&& 31)), .int (nI 50)] s17 (fun x20 s19 =>
      wp E 101 246 [.ref a0, .int a1, .int a2, .int a3, .int a4, .int a5, .int a6] [.int x20, .ref a0] s19 Q)) ∧
    (¬ x18 ≠ (nI 0) →
      cI E 96 [.int (a5 >>> ((nI 2) &&& 31)), .int (nI 120)] s17 (fun x22 s21 =>
      wp E 101 246 [.ref a0, .int a1, .int a2, .int a3, .int a4, .int a5, .int a6] [.int x22, .ref a0] s21 Q)))))) : wp E 101 123 [.ref a0, .int a1, .int a2, .int a3, .int a4, .int a5, .int a6] [.int b0, .ref b1] s Q := vcD_ok E 101 [23, 123, 246, 257, 349, 361, 404] Q dc101 27 false 123 _ _ _ h
set_option maxRecDepth 100000 in
theorem sg101_246 {E : AEnv} {a0 : Nat} {a1 : Int32} {a2 : Int32} {a3 : Int32} {a4 : Int32} {a5 : Int32} {a6 : Int32} {b0 : Int32} {b1 : Nat} {s : ASt} {Q : Option Value → ASt → Prop} (h :
  cI E 100 [.ref b1, .int b0] s (fun x2 s1 =>
  ¬ x2 = (nI 0) ∧ wp E 101 257 [.ref a0, .int a1, .int a2, .int a3, .int a4, .int a5, .int a6] [.int (nI 1)] s1 Q)) : wp E 101 246 [.ref a0, .int a1, .int a2, .int a3, .int a4, .int a5, .int a6] [.int b0, .ref b1] s Q := vcD_ok E 101 [23, 123, 246, 257, 349, 361, 404] Q dc101 6 false 246 _ _ _ h
set_option maxRecDepth 100000 in
theorem sg101_257 {E : AEnv} {a0 : Nat} {a1 : Int32} {a2 : Int32} {a3 : Int32} {a4 : Int32} {a5 : Int32} {a6 : Int32} {b0 : Int32} {s : ASt} {Q : Option Value → ASt → Prop} (h :
  (a6 = (nI 2) →
    ¬ b0 = (nI 0) ∧ sh s a0 5 8 ∧ cI E 78 [.ref a0, .int (nI 44)] s (fun x2 s1 =>
    ¬ x2 ≤ (nI 0) ∧ sh s1 a0 5 8 ∧ cI E 76 [.ref a0, .int (nI 1)] s1 (fun x4 s3 =>
    cI E 96 [.int (a5 >>> ((nI 3) &&& 31)), .int (x4 + (nI 1))] s3 (fun x6 s5 =>
    cI E 100 [.ref a0, .int x6] s5 (fun x8 s7 =>
    ¬ x8 = (nI 0) ∧ sh s7 a0 5 8 ∧ cI E 78 [.ref a0, .int (nI 44)] s7 (fun x10 s9 =>
    ¬ x10 ≤ (nI 0) ∧ cI E 96 [.int (a1 >>> ((nI 24) &&& 31)), .int (nI 9)] s9 (fun x12 s11 =>
    (x12 ≠ (nI 0) →
      cI E 96 [.int (a5 >>> ((nI 4) &&& 31)), .int (nI 9)] s11 (fun x14 s13 =>
      wp E 101 349 [.ref a0, .int a1, .int a2, .int b0, .int a4, .int a5, .int a6] [.int ((nI 1) + x14), .ref a0] s13 Q)) ∧
    (¬ x12 ≠ (nI 0) →
      cI E 96 [.int (a5 >>> ((nI 4) &&& 31)), .int (nI 12)] s11 (fun x16 s15 =>
      wp E 101 349 [.ref a0, .int a1, .int a2, .int b0, .int a4, .int a5, .int a6] [.int x16, .ref a0] s15 Q))))))))) ∧
  (¬ a6 = (nI 2) →
    (a6 ≠ (nI 3) →
      wp E 101 361 [.ref a0, .int a1, .int a2, .int b0, .int a4, .int a5, .int a6] [] s Q) ∧
    (¬ a6 ≠ (nI 3) →
      ¬ b0 = (nI 0) ∧ sh s a0 5 8 ∧ cI E 78 [.ref a0, .int (nI 44)] s (fun x18 s17 =>
      ¬ x18 ≤ (nI 0) ∧ sh s17 a0 5 8 ∧ cI E 76 [.ref a0, .int (nI 1)] s17 (fun x20 s19 =>
      cI E 96 [.int (a5 >>> ((nI 3) &&& 31)), .int (x20 + (nI 1))] s19 (fun x22 s21 =>
      cI E 100 [.ref a0, .int x22] s21 (fun x24 s23 =>
      ¬ x24 = (nI 0) ∧ sh s23 a0 5 8 ∧ cI E 78 [.ref a0, .int (nI 44)] s23 (fun x26 s25 =>
      ¬ x26 ≤ (nI 0) ∧ cI E 96 [.int (a1 >>> ((nI 24) &&& 31)), .int (nI 9)] s25 (fun x28 s27 =>
      (x28 ≠ (nI 0) →
        cI E 96 [.int (a5 >>> ((nI 4) &&& 31)), .int (nI 9)] s27 (fun x30 s29 =>
        wp E 101 349 [.ref a0, .int a1, .int a2, .int b0, .int a4, .int a5, .int a6] [.int ((nI 1) + x30), .ref a0] s29 Q)) ∧
      (¬ x28 ≠ (nI 0) →
        cI E 96 [.int (a5 >>> ((nI 4) &&& 31)), .int (nI 12)] s27 (fun x32 s31 =>
        wp E 101 349 [.ref a0, .int a1, .int a2, .int b0, .int a4, .int a5, .int a6] [.int x32, .ref a0] s31 Q))))))))))) : wp E 101 257 [.ref a0, .int a1, .int a2, .int a3, .int a4, .int a5, .int a6] [.int b0] s Q := vcD_ok E 101 [23, 123, 246, 257, 349, 361, 404] Q dc101 45 false 257 _ _ _ h
set_option maxRecDepth 100000 in
theorem sg101_349 {E : AEnv} {a0 : Nat} {a1 : Int32} {a2 : Int32} {a3 : Int32} {a4 : Int32} {a5 : Int32} {a6 : Int32} {b0 : Int32} {b1 : Nat} {s : ASt} {Q : Option Value → ASt → Prop} (h :
  cI E 100 [.ref b1, .int b0] s (fun x2 s1 =>
  ¬ x2 = (nI 0) ∧ wp E 101 361 [.ref a0, .int a1, .int a2, .int (nI 1), .int a4, .int a5, .int a6] [] s1 Q)) : wp E 101 349 [.ref a0, .int a1, .int a2, .int a3, .int a4, .int a5, .int a6] [.int b0, .ref b1] s Q := vcD_ok E 101 [23, 123, 246, 257, 349, 361, 404] Q dc101 7 false 349 _ _ _ h
set_option maxRecDepth 100000 in
theorem sg101_361 {E : AEnv} {a0 : Nat} {a1 : Int32} {a2 : Int32} {a3 : Int32} {a4 : Int32} {a5 : Int32} {a6 : Int32} {s : ASt} {Q : Option Value → ASt → Prop} (h :
  ¬ a3 = (nI 0) ∧ (a4 ≠ (a2 - (nI 1)) →
    sh s a0 5 8 ∧ cI E 78 [.ref a0, .int (nI 59)] s (fun x2 s1 =>
    ¬ x2 ≤ (nI 0) ∧ wp E 101 404 [.ref a0, .int a1, .int a2, .int a3, .int a4, .int a5, .int a6] [.int (nI 1)] s1 Q)) ∧
  (¬ a4 ≠ (a2 - (nI 1)) →
    cI E 96 [.int (a1 >>> ((nI 26) &&& 31)), .int (nI 7)] s (fun x4 s3 =>
    (x4 ≠ (nI 0) →
      sh s3 a0 5 8 ∧ cI E 78 [.ref a0, .int (nI 59)] s3 (fun x6 s5 =>
      ¬ x6 ≤ (nI 0) ∧ wp E 101 404 [.ref a0, .int a1, .int a2, .int a3, .int a4, .int a5, .int a6] [.int (nI 1)] s5 Q)) ∧
    (¬ x4 ≠ (nI 0) →
      sh s3 a0 5 8 ∧ cI E 78 [.ref a0, .int (nI 46)] s3 (fun x8 s7 =>
      ¬ x8 ≤ (nI 0) ∧ wp E 101 404 [.ref a0, .int a1, .int a2, .int a3, .int a4, .int a5, .int a6] [.int (nI 1)] s7 Q))))) : wp E 101 361 [.ref a0, .int a1, .int a2, .int a3, .int a4, .int a5, .int a6] [] s Q := vcD_ok E 101 [23, 123, 246, 257, 349, 361, 404] Q dc101 22 false 361 _ _ _ h
set_option maxRecDepth 100000 in
theorem sg101_404 {E : AEnv} {a0 : Nat} {a1 : Int32} {a2 : Int32} {a3 : Int32} {a4 : Int32} {a5 : Int32} {a6 : Int32} {b0 : Int32} {s : ASt} {Q : Option Value → ASt → Prop} (h :
  wp E 101 23 [.ref a0, .int a1, .int a2, .int b0, .int (a4 + (nI 1))] [] s Q) : wp E 101 404 [.ref a0, .int a1, .int a2, .int a3, .int a4, .int a5, .int a6] [.int b0] s Q := vcD_ok E 101 [23, 123, 246, 257, 349, 361, 404] Q dc101 5 false 404 _ _ _ h
-- 102 CoatedBridgesLaw.reads(LCoatedBridges;I)Z
def dc102 : List (Nat × Bool) := [(57, false), (68, false), (95, false), (122, false), (147, false), (159, false), (171, false), (182, false), (192, false), (201, false), (222, false), (233, false), (242, false), (265, false)]
set_option maxRecDepth 100000 in
theorem sg102_0 {E : AEnv} {a0 : Nat} {a1 : Int32} {s : ASt} {Q : Option Value → ASt → Prop} (h :
  cI E 96 [.int a1, .int (nI 6)] s (fun x2 s1 =>
  cI E 101 [.ref a0, .int a1] s1 (fun x4 s3 =>
  sh s3 a0 5 8 ∧ cI E 76 [.ref a0, .int (nI 19)] s3 (fun x6 s5 =>
  sh s5 a0 5 8 ∧ cI E 76 [.ref a0, .int (nI 18)] s5 (fun x8 s7 =>
  sh s7 a0 5 8 ∧ cI E 80 [.ref a0, .int (nI 0)] s7 (fun x10 s9 =>
  sh s9 a0 5 8 ∧ cI E 80 [.ref a0, .int (nI 1)] s9 (fun x12 s11 =>
  sh s11 a0 5 8 ∧ cI E 80 [.ref a0, .int (nI 2)] s11 (fun x14 s13 =>
  sh s13 a0 5 8 ∧ cI E 81 [.ref a0] s13 (fun x16 s15 =>
  ¬ x4 = (nI 0) ∧ sh s15 a0 5 8 ∧ cI E 76 [.ref a0, .int (nI 19)] s15 (fun x18 s17 =>
  ¬ x18 ≠ x6 ∧ (x10 ≠ (-1000004 : Int32) →
    (x12 ≠ (-1000004 : Int32) →
      wp E 102 95 [.ref a0, .int a1, .int x2, .int x4, .int x6, .int x8, .int x10, .int x12, .int x14, .int x16] [.int (nI 0), .int (nI 0)] s17 Q) ∧
    (¬ x12 ≠ (-1000004 : Int32) →
      wp E 102 95 [.ref a0, .int a1, .int x2, .int x4, .int x6, .int x8, .int x10, .int x12, .int x14, .int x16] [.int (nI 1), .int (nI 0)] s17 Q)) ∧
  (¬ x10 ≠ (-1000004 : Int32) →
    (x12 ≠ (-1000004 : Int32) →
      wp E 102 95 [.ref a0, .int a1, .int x2, .int x4, .int x6, .int x8, .int x10, .int x12, .int x14, .int x16] [.int (nI 0), .int (nI 1)] s17 Q) ∧
    (¬ x12 ≠ (-1000004 : Int32) →
      wp E 102 95 [.ref a0, .int a1, .int x2, .int x4, .int x6, .int x8, .int x10, .int x12, .int x14, .int x16] [.int (nI 1), .int (nI 1)] s17 Q)))))))))))) : wp E 102 0 [.ref a0, .int a1] [] s Q := vcD_ok E 102 [95, 122, 155] Q dc102 50 false 0 _ _ _ h
set_option maxRecDepth 100000 in
theorem sg102_95 {E : AEnv} {a0 : Nat} {a1 : Int32} {a2 : Int32} {a3 : Int32} {a4 : Int32} {a5 : Int32} {a6 : Int32} {a7 : Int32} {a8 : Int32} {a9 : Int32} {b0 : Int32} {b1 : Int32} {s : ASt} {Q : Option Value → ASt → Prop} (h :
  ¬ b1 ≠ b0 ∧ (a6 ≠ (-1000004 : Int32) →
    (a8 ≠ (-1000004 : Int32) →
      wp E 102 122 [.ref a0, .int a1, .int a2, .int a3, .int a4, .int a5, .int a6, .int a7, .int a8, .int a9] [.int (nI 0), .int (nI 0)] s Q) ∧
    (¬ a8 ≠ (-1000004 : Int32) →
      wp E 102 122 [.ref a0, .int a1, .int a2, .int a3, .int a4, .int a5, .int a6, .int a7, .int a8, .int a9] [.int (nI 1), .int (nI 0)] s Q)) ∧
  (¬ a6 ≠ (-1000004 : Int32) →
    (a8 ≠ (-1000004 : Int32) →
      wp E 102 122 [.ref a0, .int a1, .int a2, .int a3, .int a4, .int a5, .int a6, .int a7, .int a8, .int a9] [.int (nI 0), .int (nI 1)] s Q) ∧
    (¬ a8 ≠ (-1000004 : Int32) →
      wp E 102 122 [.ref a0, .int a1, .int a2, .int a3, .int a4, .int a5, .int a6, .int a7, .int a8, .int a9] [.int (nI 1), .int (nI 1)] s Q))) : wp E 102 95 [.ref a0, .int a1, .int a2, .int a3, .int a4, .int a5, .int a6, .int a7, .int a8, .int a9] [.int b0, .int b1] s Q := vcD_ok E 102 [95, 122, 155] Q dc102 13 false 95 _ _ _ h
set_option maxRecDepth 100000 in
theorem sg102_122 {E : AEnv} {a0 : Nat} {a1 : Int32} {a2 : Int32} {a3 : Int32} {a4 : Int32} {a5 : Int32} {a6 : Int32} {a7 : Int32} {a8 : Int32} {a9 : Int32} {b0 : Int32} {b1 : Int32} {s : ASt} {Q : Option Value → ASt → Prop} (h :
  ¬ b1 ≠ b0 ∧ (a9 ≠ (-1000002 : Int32) →
    (a6 < (nI 0) →
      ¬ (nI 0) ≠ (nI 0) ∧ wp E 102 155 [.ref a0, .int a1, .int a2, .int a3, .int a4, .int a5, .int a6, .int a7, .int a8, .int a9] [.int (nI 1)] s Q) ∧
    (¬ a6 < (nI 0) →
      ¬ (nI 0) ≠ (nI 1) ∧ wp E 102 155 [.ref a0, .int a1, .int a2, .int a3, .int a4, .int a5, .int a6, .int a7, .int a8, .int a9] [.int (nI 1)] s Q)) ∧
  (¬ a9 ≠ (-1000002 : Int32) →
    (a6 < (nI 0) →
      ¬ (nI 1) ≠ (nI 0) ∧ wp E 102 155 [.ref a0, .int a1, .int a2, .int a3, .int a4, .int a5, .int a6, .int a7, .int a8, .int a9] [.int (nI 1)] s Q) ∧
    (¬ a6 < (nI 0) →
      ¬ (nI 1) ≠ (nI 1) ∧ wp E 102 155 [.ref a0, .int a1, .int a2, .int a3, .int a4, .int a5, .int a6, .int a7, .int a8, .int a9] [.int (nI 1)] s Q))) : wp E 102 122 [.ref a0, .int a1, .int a2, .int a3, .int a4, .int a5, .int a6, .int a7, .int a8, .int a9] [.int b0, .int b1] s Q := vcD_ok E 102 [95, 122, 155] Q dc102 15 false 122 _ _ _ h
set_option maxRecDepth 100000 in
theorem sg102_155 {E : AEnv} {a0 : Nat} {a1 : Int32} {a2 : Int32} {a3 : Int32} {a4 : Int32} {a5 : Int32} {a6 : Int32} {a7 : Int32} {a8 : Int32} {a9 : Int32} {b0 : Int32} {s : ASt} {Q : Option Value → ASt → Prop} (h :
  ¬ b0 = (nI 0) ∧ (a6 < (nI 0) →
    ¬ a9 ≠ a2 ∧ sh s a0 5 8 ∧ cI E 76 [.ref a0, .int (nI 18)] s (fun x2 s1 =>
    ((nI 4) ≤ a5 →
      ¬ x2 ≠ (nI 4) ∧ fN .boolean (nI 1) = true ∧ Q (some (.int (nI 1))) s1) ∧
    (¬ (nI 4) ≤ a5 →
      ¬ x2 ≠ (a5 + (nI 1)) ∧ fN .boolean (nI 1) = true ∧ Q (some (.int (nI 1))) s1))) ∧
  (¬ a6 < (nI 0) →
    ¬ a4 ≤ a6 ∧ (a7 ≠ (nI 1) →
      ¬ a7 ≠ (nI 2) ∧ (a8 = (-1000001 : Int32) →
        sh s a0 5 8 ∧ cI E 76 [.ref a0, .int (nI 18)] s (fun x4 s3 =>
        ¬ x4 ≠ a5 ∧ fN .boolean (nI 1) = true ∧ Q (some (.int (nI 1))) s3)) ∧
      (¬ a8 = (-1000001 : Int32) →
        (a8 = (-1000002 : Int32) →
          sh s a0 5 8 ∧ cI E 76 [.ref a0, .int (nI 18)] s (fun x6 s5 =>
          ¬ x6 ≠ a5 ∧ fN .boolean (nI 1) = true ∧ Q (some (.int (nI 1))) s5)) ∧
        (¬ a8 = (-1000002 : Int32) →
          ¬ a8 ≠ (-1000003 : Int32) ∧ sh s a0 5 8 ∧ cI E 76 [.ref a0, .int (nI 18)] s (fun x8 s7 =>
          ¬ x8 ≠ a5 ∧ fN .boolean (nI 1) = true ∧ Q (some (.int (nI 1))) s7)))) ∧
    (¬ a7 ≠ (nI 1) →
      ¬ a8 < (nI 0) ∧ ¬ a4 < (a6 + a8) ∧ sh s a0 5 8 ∧ cI E 76 [.ref a0, .int (nI 18)] s (fun x10 s9 =>
      ¬ x10 ≠ a5 ∧ fN .boolean (nI 1) = true ∧ Q (some (.int (nI 1))) s9)))) : wp E 102 155 [.ref a0, .int a1, .int a2, .int a3, .int a4, .int a5, .int a6, .int a7, .int a8, .int a9] [.int b0] s Q := vcD_ok E 102 [95, 122, 155] Q dc102 33 false 155 _ _ _ h
-- 103 CoatedBridgesLaw.crews(LCoatedBridges;II)Z
def dc103 : List (Nat × Bool) := [(150, false), (174, false), (189, false), (200, false), (214, false), (239, false), (317, false), (342, false), (354, false), (367, false)]
set_option maxRecDepth 100000 in
theorem sg103_0 {E : AEnv} {a0 : Nat} {a1 : Int32} {a2 : Int32} {s : ASt} {Q : Option Value → ASt → Prop} (h :
  sh s a0 5 8 ∧ cI E 76 [.ref a0, .int (nI 2)] s (fun x2 s1 =>
  cI E 96 [.int a2, .int (x2 + (nI 1))] s1 (fun x4 s3 =>
  (x4 ≠ x2 →
    wp E 103 26 [.ref a0, .int a1, .int a2, .int x2, .int x4] [.int (nI 0)] s3 Q) ∧
  (¬ x4 ≠ x2 →
    wp E 103 26 [.ref a0, .int a1, .int a2, .int x2, .int x4] [.int (nI 1)] s3 Q)))) : wp E 103 0 [.ref a0, .int a1, .int a2] [] s Q := vcD_ok E 103 [26, 66, 84, 102, 141, 248, 269, 287] Q dc103 17 false 0 _ _ _ h
set_option maxRecDepth 100000 in
theorem sg103_26 {E : AEnv} {a0 : Nat} {a1 : Int32} {a2 : Int32} {a3 : Int32} {a4 : Int32} {b0 : Int32} {s : ASt} {Q : Option Value → ASt → Prop} (h :
  sh s a0 5 8 ∧ cI E 76 [.ref a0, .int (nI 3)] s (fun x2 s1 =>
  (a1 ≠ (nI 0) →
    wp E 103 248 [.ref a0, .int a1, .int a2, .int a3, .int a4, .int b0, .int x2] [] s1 Q) ∧
  (¬ a1 ≠ (nI 0) →
    cI E 96 [.int (a2 >>> ((nI 5) &&& 31)), .int (nI 5)] s1 (fun x4 s3 =>
    ¬ (nI 2) = 0 ∧ (b0 ≠ (nI 0) →
      wp E 103 66 [.ref a0, .int a1, .int a2, .int a3, .int a4, .int b0, .int x2, .int (x4 / (nI 2))] [.int (nI 1)] s3 Q) ∧
    (¬ b0 ≠ (nI 0) →
      ((x4 / (nI 2)) ≠ (nI 2) →
        wp E 103 66 [.ref a0, .int a1, .int a2, .int a3, .int a4, .int b0, .int x2, .int (x4 / (nI 2))] [.int (nI 0)] s3 Q) ∧
      (¬ (x4 / (nI 2)) ≠ (nI 2) →
        wp E 103 66 [.ref a0, .int a1, .int a2, .int a3, .int a4, .int b0, .int x2, .int (x4 / (nI 2))] [.int (nI 1)] s3 Q)))))) : wp E 103 26 [.ref a0, .int a1, .int a2, .int a3, .int a4] [.int b0] s Q := vcD_ok E 103 [26, 66, 84, 102, 141, 248, 269, 287] Q dc103 24 false 26 _ _ _ h
set_option maxRecDepth 100000 in
theorem sg103_66 {E : AEnv} {a0 : Nat} {a1 : Int32} {a2 : Int32} {a3 : Int32} {a4 : Int32} {a5 : Int32} {a6 : Int32} {a7 : Int32} {b0 : Int32} {s : ASt} {Q : Option Value → ASt → Prop} (h :
  (b0 = (nI 0) →
    sh s a0 5 8 ∧ cI E 69 [.ref a0, .int a4, .int (nI 0)] s (fun x2 s1 =>
    wp E 103 84 [.ref a0, .int a1, .int a2, .int a3, .int a4, .int a5, .int a6, .int a7, .int b0] [.int x2] s1 Q)) ∧
  (¬ b0 = (nI 0) →
    wp E 103 84 [.ref a0, .int a1, .int a2, .int a3, .int a4, .int a5, .int a6, .int a7, .int b0] [.int (nI 0)] s Q)) : wp E 103 66 [.ref a0, .int a1, .int a2, .int a3, .int a4, .int a5, .int a6, .int a7] [.int b0] s Q := vcD_ok E 103 [26, 66, 84, 102, 141, 248, 269, 287] Q dc103 9 false 66 _ _ _ h
set_option maxRecDepth 100000 in
theorem sg103_84 {E : AEnv} {a0 : Nat} {a1 : Int32} {a2 : Int32} {a3 : Int32} {a4 : Int32} {a5 : Int32} {a6 : Int32} {a7 : Int32} {a8 : Int32} {b0 : Int32} {s : ASt} {Q : Option Value → ASt → Prop} (h :
  (a8 = (nI 0) →
    sh s a0 5 8 ∧ cI E 65 [.ref a0, .int a4, .int (nI 5)] s (fun x2 s1 =>
    wp E 103 102 [.ref a0, .int a1, .int a2, .int a3, .int a4, .int a5, .int a6, .int a7, .int a8, .int b0] [.int x2] s1 Q)) ∧
  (¬ a8 = (nI 0) →
    wp E 103 102 [.ref a0, .int a1, .int a2, .int a3, .int a4, .int a5, .int a6, .int a7, .int a8, .int b0] [.int (nI 0)] s Q)) : wp E 103 84 [.ref a0, .int a1, .int a2, .int a3, .int a4, .int a5, .int a6, .int a7, .int a8] [.int b0] s Q := vcD_ok E 103 [26, 66, 84, 102, 141, 248, 269, 287] Q dc103 9 false 84 _ _ _ h
set_option maxRecDepth 100000 in
theorem sg103_102 {E : AEnv} {a0 : Nat} {a1 : Int32} {a2 : Int32} {a3 : Int32} {a4 : Int32} {a5 : Int32} {a6 : Int32} {a7 : Int32} {a8 : Int32} {a9 : Int32} {b0 : Int32} {s : ASt} {Q : Option Value → ASt → Prop} (h :
  sh s a0 5 8 ∧ cI E 60 [.ref a0, .int a4, .int a7] s (fun x2 s1 =>
  (a8 ≠ (nI 0) →
    wp E 103 141 [.ref a0, .int a1, .int a2, .int a3, .int a4, .int a5, .int a6, .int a7, .int a8, .int a9, .int b0, .int x2] [.int (nI 0)] s1 Q) ∧
  (¬ a8 ≠ (nI 0) →
    (a9 = (nI 0) →
      wp E 103 141 [.ref a0, .int a1, .int a2, .int a3, .int a4, .int a5, .int a6, .int a7, .int a8, .int a9, .int b0, .int x2] [.int (nI 1)] s1 Q) ∧
    (¬ a9 = (nI 0) →
      (a9 ≠ (nI 4) →
        wp E 103 141 [.ref a0, .int a1, .int a2, .int a3, .int a4, .int a5, .int a6, .int a7, .int a8, .int a9, .int b0, .int x2] [.int (nI 0)] s1 Q) ∧
      (¬ a9 ≠ (nI 4) →
        (a7 ≠ (nI 1) →
          wp E 103 141 [.ref a0, .int a1, .int a2, .int a3, .int a4, .int a5, .int a6, .int a7, .int a8, .int a9, .int b0, .int x2] [.int (nI 0)] s1 Q) ∧
        (¬ a7 ≠ (nI 1) →
          wp E 103 141 [.ref a0, .int a1, .int a2, .int a3, .int a4, .int a5, .int a6, .int a7, .int a8, .int a9, .int b0, .int x2] [.int (nI 1)] s1 Q)))))) : wp E 103 102 [.ref a0, .int a1, .int a2, .int a3, .int a4, .int a5, .int a6, .int a7, .int a8, .int a9] [.int b0] s Q := vcD_ok E 103 [26, 66, 84, 102, 141, 248, 269, 287] Q dc103 20 false 102 _ _ _ h
set_option maxRecDepth 100000 in
theorem sg103_141 {E : AEnv} {a0 : Nat} {a1 : Int32} {a2 : Int32} {a3 : Int32} {a4 : Int32} {a5 : Int32} {a6 : Int32} {a7 : Int32} {a8 : Int32} {a9 : Int32} {a10 : Int32} {a11 : Int32} {b0 : Int32} {s : ASt} {Q : Option Value → ASt → Prop} (h :
  (b0 = (nI 0) →
    (a8 = (nI 0) →
      ¬ a11 ≠ (-1000002 : Int32) ∧ fN .boolean (nI 1) = true ∧ Q (some (.int (nI 1))) s) ∧
    (¬ a8 = (nI 0) →
      ¬ a11 ≠ (-1000001 : Int32) ∧ fN .boolean (nI 1) = true ∧ Q (some (.int (nI 1))) s)) ∧
  (¬ b0 = (nI 0) →
    ¬ a11 < (nI 0) ∧ (a11 ≤ (nI 0) →
      (a9 ≠ (nI 4) →
        ¬ (nI 0) ≠ (nI 0) ∧ sh s a0 5 8 ∧ cI E 76 [.ref a0, .int (nI 3)] s (fun x2 s1 =>
        ¬ x2 ≠ (a6 &&& (a11 ^^^ (-1 : Int32))) ∧ sh s1 a0 5 8 ∧ cI E 65 [.ref a0, .int a4, .int (nI 4)] s1 (fun x4 s3 =>
        ¬ x4 ≠ (nI 1) ∧ sh s3 a0 5 8 ∧ cI E 65 [.ref a0, .int a4, .int (nI 5)] s3 (fun x6 s5 =>
        ¬ x6 ≠ (a10 + (nI 1)) ∧ fN .boolean (nI 1) = true ∧ Q (some (.int (nI 1))) s5)))) ∧
      (¬ a9 ≠ (nI 4) →
        ¬ (nI 0) ≠ (nI 1) ∧ sh s a0 5 8 ∧ cI E 76 [.ref a0, .int (nI 3)] s (fun x8 s7 =>
        ¬ x8 ≠ (a6 &&& (a11 ^^^ (-1 : Int32))) ∧ sh s7 a0 5 8 ∧ cI E 65 [.ref a0, .int a4, .int (nI 4)] s7 (fun x10 s9 =>
        ¬ x10 ≠ (nI 1) ∧ sh s9 a0 5 8 ∧ cI E 65 [.ref a0, .int a4, .int (nI 5)] s9 (fun x12 s11 =>
        ¬ x12 ≠ (a10 + (nI 1)) ∧ fN .boolean (nI 1) = true ∧ Q (some (.int (nI 1))) s11))))) ∧
    (¬ a11 ≤ (nI 0) →
      (a9 ≠ (nI 4) →
        ¬ (nI 1) ≠ (nI 0) ∧ sh s a0 5 8 ∧ cI E 76 [.ref a0, .int (nI 3)] s (fun x14 s13 =>
        ¬ x14 ≠ (a6 &&& (a11 ^^^ (-1 : Int32))) ∧ sh s13 a0 5 8 ∧ cI E 65 [.ref a0, .int a4, .int (nI 4)] s13 (fun x16 s15 =>
        ¬ x16 ≠ (nI 1) ∧ sh s15 a0 5 8 ∧ cI E 65 [.ref a0, .int a4, .int (nI 5)] s15 (fun x18 s17 =>
        ¬ x18 ≠ (a10 + (nI 1)) ∧ fN .boolean (nI 1) = true ∧ Q (some (.int (nI 1))) s17)))) ∧
      (¬ a9 ≠ (nI 4) →
        ¬ (nI 1) ≠ (nI 1) ∧ sh s a0 5 8 ∧ cI E 76 [.ref a0, .int (nI 3)] s (fun x20 s19 =>
        ¬ x20 ≠ (a6 &&& (a11 ^^^ (-1 : Int32))) ∧ sh s19 a0 5 8 ∧ cI E 65 [.ref a0, .int a4, .int (nI 4)] s19 (fun x22 s21 =>
        ¬ x22 ≠ (nI 1) ∧ sh s21 a0 5 8 ∧ cI E 65 [.ref a0, .int a4, .int (nI 5)] s21 (fun x24 s23 =>
        ¬ x24 ≠ (a10 + (nI 1)) ∧ fN .boolean (nI 1) = true ∧ Q (some (.int (nI 1))) s23))))))) : wp E 103 141 [.ref a0, .int a1, .int a2, .int a3, .int a4, .int a5, .int a6, .int a7, .int a8, .int a9, .int a10, .int a11] [.int b0] s Q := vcD_ok E 103 [26, 66, 84, 102, 141, 248, 269, 287] Q dc103 42 false 141 _ _ _ h
set_option maxRecDepth 100000 in
theorem sg103_248 {E : AEnv} {a0 : Nat} {a1 : Int32} {a2 : Int32} {a3 : Int32} {a4 : Int32} {a5 : Int32} {a6 : Int32} {s : ASt} {Q : Option Value → ASt → Prop} (h :
  (a5 ≠ (nI 0) →
    wp E 103 269 [.ref a0, .int a1, .int a2, .int a3, .int a4, .int a5, .int a6] [.int (nI 0)] s Q) ∧
  (¬ a5 ≠ (nI 0) →
    sh s a0 5 8 ∧ cI E 65 [.ref a0, .int a4, .int (nI 4)] s (fun x2 s1 =>
    (x2 ≠ (nI 1) →
      wp E 103 269 [.ref a0, .int a1, .int a2, .int a3, .int a4, .int a5, .int a6] [.int (nI 0)] s1 Q) ∧
    (¬ x2 ≠ (nI 1) →
      wp E 103 269 [.ref a0, .int a1, .int a2, .int a3, .int a4, .int a5, .int a6] [.int (nI 1)] s1 Q)))) : wp E 103 248 [.ref a0, .int a1, .int a2, .int a3, .int a4, .int a5, .int a6] [] s Q := vcD_ok E 103 [26, 66, 84, 102, 141, 248, 269, 287] Q dc103 12 false 248 _ _ _ h
set_option maxRecDepth 100000 in
theorem sg103_269 {E : AEnv} {a0 : Nat} {a1 : Int32} {a2 : Int32} {a3 : Int32} {a4 : Int32} {a5 : Int32} {a6 : Int32} {b0 : Int32} {s : ASt} {Q : Option Value → ASt → Prop} (h :
  (a5 = (nI 0) →
    sh s a0 5 8 ∧ cI E 65 [.ref a0, .int a4, .int (nI 3)] s (fun x2 s1 =>
    wp E 103 287 [.ref a0, .int a1, .int a2, .int a3, .int a4, .int a5, .int a6, .int b0] [.int x2] s1 Q)) ∧
  (¬ a5 = (nI 0) →
    wp E 103 287 [.ref a0, .int a1, .int a2, .int a3, .int a4, .int a5, .int a6, .int b0] [.int (nI 0)] s Q)) : wp E 103 269 [.ref a0, .int a1, .int a2, .int a3, .int a4, .int a5, .int a6] [.int b0] s Q := vcD_ok E 103 [26, 66, 84, 102, 141, 248, 269, 287] Q dc103 9 false 269 _ _ _ h
set_option maxRecDepth 100000 in
theorem sg103_287 {E : AEnv} {a0 : Nat} {a1 : Int32} {a2 : Int32} {a3 : Int32} {a4 : Int32} {a5 : Int32} {a6 : Int32} {a7 : Int32} {b0 : Int32} {s : ASt} {Q : Option Value → ASt → Prop} (h :
  sh s a0 5 8 ∧ cI E 61 [.ref a0, .int a4] s (fun x2 s1 =>
  (a5 = (nI 0) →
    (a7 = (nI 0) →
      ¬ x2 ≠ (-1000002 : Int32) ∧ (a7 = (nI 0) →
        fN .boolean (nI 1) = true ∧ Q (some (.int (nI 1))) s1) ∧
      (¬ a7 = (nI 0) →
        sh s1 a0 5 8 ∧ cI E 65 [.ref a0, .int a4, .int (nI 4)] s1 (fun x4 s3 =>
        (b0 ≤ (nI 0) →
          ¬ x4 ≠ (nI 2) ∧ sh s3 a0 5 8 ∧ cI E 65 [.ref a0, .int a4, .int (nI 3)] s3 (fun x6 s5 =>
          ¬ x6 ≠ b0 ∧ sh s5 a0 5 8 ∧ cI E 76 [.ref a0, .int (nI 3)] s5 (fun x8 s7 =>
          ¬ (a6 &&& (x8 ^^^ (-1 : Int32))) ≠ (nI 0) ∧ fN .boolean (nI 1) = true ∧ Q (some (.int (nI 1))) s7))) ∧
        (¬ b0 ≤ (nI 0) →
          ¬ x4 ≠ (nI 0) ∧ sh s3 a0 5 8 ∧ cI E 65 [.ref a0, .int a4, .int (nI 3)] s3 (fun x10 s9 =>
          ¬ x10 ≠ b0 ∧ sh s9 a0 5 8 ∧ cI E 76 [.ref a0, .int (nI 3)] s9 (fun x12 s11 =>
          ¬ (a6 &&& (x12 ^^^ (-1 : Int32))) ≠ (nI 0) ∧ fN .boolean (nI 1) = true ∧ Q (some (.int (nI 1))) s11)))))) ∧
    (¬ a7 = (nI 0) →
      ¬ x2 ≠ b0 ∧ (a7 = (nI 0) →
        fN .boolean (nI 1) = true ∧ Q (some (.int (nI 1))) s1) ∧
      (¬ a7 = (nI 0) →
        sh s1 a0 5 8 ∧ cI E 65 [.ref a0, .int a4, .int (nI 4)] s1 (fun x14 s13 =>
        (b0 ≤ (nI 0) →
          ¬ x14 ≠ (nI 2) ∧ sh s13 a0 5 8 ∧ cI E 65 [.ref a0, .int a4, .int (nI 3)] s13 (fun x16 s15 =>
          ¬ x16 ≠ b0 ∧ sh s15 a0 5 8 ∧ cI E 76 [.ref a0, .int (nI 3)] s15 (fun x18 s17 =>
          ¬ (a6 &&& (x18 ^^^ (-1 : Int32))) ≠ (nI 0) ∧ fN .boolean (nI 1) = true ∧ Q (some (.int (nI 1))) s17))) ∧
        (¬ b0 ≤ (nI 0) →
          ¬ x14 ≠ (nI 0) ∧ sh s13 a0 5 8 ∧ cI E 65 [.ref a0, .int a4, .int (nI 3)] s13 (fun x20 s19 =>
          ¬ x20 ≠ b0 ∧ sh s19 a0 5 8 ∧ cI E 76 [.ref a0, .int (nI 3)] s19 (fun x22 s21 =>
          ¬ (a6 &&& (x22 ^^^ (-1 : Int32))) ≠ (nI 0) ∧ fN .boolean (nI 1) = true ∧ Q (some (.int (nI 1))) s21))))))) ∧
  (¬ a5 = (nI 0) →
    ¬ x2 ≠ (-1000001 : Int32) ∧ (a7 = (nI 0) →
      fN .boolean (nI 1) = true ∧ Q (some (.int (nI 1))) s1) ∧
    (¬ a7 = (nI 0) →
      sh s1 a0 5 8 ∧ cI E 65 [.ref a0, .int a4, .int (nI 4)] s1 (fun x24 s23 =>
      (b0 ≤ (nI 0) →
        ¬ x24 ≠ (nI 2) ∧ sh s23 a0 5 8 ∧ cI E 65 [.ref a0, .int a4, .int (nI 3)] s23 (fun x26 s25 =>
        ¬ x26 ≠ b0 ∧ sh s25 a0 5 8 ∧ cI E 76 [.ref a0, .int (nI 3)] s25 (fun x28 s27 =>
        ¬ (a6 &&& (x28 ^^^ (-1 : Int32))) ≠ (nI 0) ∧ fN .boolean (nI 1) = true ∧ Q (some (.int (nI 1))) s27))) ∧
      (¬ b0 ≤ (nI 0) →
        ¬ x24 ≠ (nI 0) ∧ sh s23 a0 5 8 ∧ cI E 65 [.ref a0, .int a4, .int (nI 3)] s23 (fun x30 s29 =>
        ¬ x30 ≠ b0 ∧ sh s29 a0 5 8 ∧ cI E 76 [.ref a0, .int (nI 3)] s29 (fun x32 s31 =>
        ¬ (a6 &&& (x32 ^^^ (-1 : Int32))) ≠ (nI 0) ∧ fN .boolean (nI 1) = true ∧ Q (some (.int (nI 1))) s31)))))))) : wp E 103 287 [.ref a0, .int a1, .int a2, .int a3, .int a4, .int a5, .int a6, .int a7] [.int b0] s Q := vcD_ok E 103 [26, 66, 84, 102, 141, 248, 269, 287] Q dc103 40 false 287 _ _ _ h
