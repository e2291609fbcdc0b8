-- 167 java/lang/Float.isNaN(F)Z
theorem sg167_0 {E : AEnv} {a0 : UInt32} {s : ASt} {Q : Option Value → ASt → Prop} (h :
  ((Op.cmpValue (FP.fcmp a0 a0) .l) = (0 : Int32) →
    fN .boolean (0 : Int32) = true ∧ Q (some (.int (0 : Int32))) s) ∧
  (¬ (Op.cmpValue (FP.fcmp a0 a0) .l) = (0 : Int32) →
    fN .boolean (1 : Int32) = true ∧ Q (some (.int (1 : Int32))) s)) : wp E 167 0 [.float a0] [] s Q := vc_ok E 167 [] Q 8 false 0 _ _ _ h
-- 168 java/lang/Float.floatToIntBits(F)I
theorem sg168_0 {E : AEnv} {a0 : UInt32} {s : ASt} {Q : Option Value → ASt → Prop} (h :
  cI E 167 [.float a0] s (fun x2 s1 =>
  (x2 ≠ (0 : Int32) →
    Q (some (.int (2143289344 : Int32))) s1) ∧
  (¬ x2 ≠ (0 : Int32) →
    Q (some (.int (a0).toInt32)) s1))) : wp E 168 0 [.float a0] [] s Q := vc_ok E 168 [] Q 7 false 0 _ _ _ h
-- 169 java/lang/Integer.numberOfTrailingZeros(I)I
theorem sg169_0 {E : AEnv} {a0 : Int32} {s : ASt} {Q : Option Value → ASt → Prop} (h :
  ((0 : Int32) < ((a0 ^^^ (-1 : Int32)) &&& (a0 - (1 : Int32))) →
    (((a0 ^^^ (-1 : Int32)) &&& (a0 - (1 : Int32))) ≤ (65536 : Int32) →
      (((a0 ^^^ (-1 : Int32)) &&& (a0 - (1 : Int32))) ≤ (256 : Int32) →
        (((a0 ^^^ (-1 : Int32)) &&& (a0 - (1 : Int32))) ≤ (16 : Int32) →
          (((a0 ^^^ (-1 : Int32)) &&& (a0 - (1 : Int32))) ≤ (4 : Int32) →
            Q (some (.int ((1 : Int32) + ((((a0 ^^^ (-1 : Int32)) &&& (a0 - (1 : Int32)))).toUInt32 >>> (((1 : Int32)).toUInt32 &&& Int32.toUInt32 31)).toInt32))) s) ∧
          (¬ ((a0 ^^^ (-1 : Int32)) &&& (a0 - (1 : Int32))) ≤ (4 : Int32) →
            Q (some (.int (((1 : Int32) + (2 : Int32)) + ((((((a0 ^^^ (-1 : Int32)) &&& (a0 - (1 : Int32)))).toUInt32 >>> (((2 : Int32)).toUInt32 &&& Int32.toUInt32 31)).toInt32).toUInt32 >>> (((1 : Int32)).toUInt32 &&& Int32.toUInt32 31)).toInt32))) s)) ∧
        (¬ ((a0 ^^^ (-1 : Int32)) &&& (a0 - (1 : Int32))) ≤ (16 : Int32) →
          (((((a0 ^^^ (-1 : Int32)) &&& (a0 - (1 : Int32)))).toUInt32 >>> (((4 : Int32)).toUInt32 &&& Int32.toUInt32 31)).toInt32 ≤ (4 : Int32) →
            Q (some (.int (((1 : Int32) + (4 : Int32)) + ((((((a0 ^^^ (-1 : Int32)) &&& (a0 - (1 : Int32)))).toUInt32 >>> (((4 : Int32)).toUInt32 &&& Int32.toUInt32 31)).toInt32).toUInt32 >>> (((1 : Int32)).toUInt32 &&& Int32.toUInt32 31)).toInt32))) s) ∧
          (¬ ((((a0 ^^^ (-1 : Int32)) &&& (a0 - (1 : Int32)))).toUInt32 >>> (((4 : Int32)).toUInt32 &&& Int32.toUInt32 31)).toInt32 ≤ (4 : Int32) →
            Q (some (.int ((((1 : Int32) + (4 : Int32)) + (2 : Int32)) + ((((((((a0 ^^^ (-1 : Int32)) &&& (a0 - (1 : Int32)))).toUInt32 >>> (((4 : Int32)).toUInt32 &&& Int32.toUInt32 31)).toInt32).toUInt32 >>> (((2 : Int32)).toUInt32 &&& Int32.toUInt32 31)).toInt32).toUInt32 >>> (((1 : Int32)).toUInt32 &&& Int32.toUInt32 31)).toInt32))) s))) ∧
      (¬ ((a0 ^^^ (-1 : Int32)) &&& (a0 - (1 : Int32))) ≤ (256 : Int32) →
        (((((a0 ^^^ (-1 : Int32)) &&& (a0 - (1 : Int32)))).toUInt32 >>> (((8 : Int32)).toUInt32 &&& Int32.toUInt32 31)).toInt32 ≤ (16 : Int32) →
          (((((a0 ^^^ (-1 : Int32)) &&& (a0 - (1 : Int32)))).toUInt32 >>> (((8 : Int32)).toUInt32 &&& Int32.toUInt32 31)).toInt32 ≤ (4 : Int32) →
            Q (some (.int (((1 : Int32) + (8 : Int32)) + ((((((a0 ^^^ (-1 : Int32)) &&& (a0 - (1 : Int32)))).toUInt32 >>> (((8 : Int32)).toUInt32 &&& Int32.toUInt32 31)).toInt32).toUInt32 >>> (((1 : Int32)).toUInt32 &&& Int32.toUInt32 31)).toInt32))) s) ∧
          (¬ ((((a0 ^^^ (-1 : Int32)) &&& (a0 - (1 : Int32)))).toUInt32 >>> (((8 : Int32)).toUInt32 &&& Int32.toUInt32 31)).toInt32 ≤ (4 : Int32) →
            Q (some (.int ((((1 : Int32) + (8 : Int32)) + (2 : Int32)) + ((((((((a0 ^^^ (-1 : Int32)) &&& (a0 - (1 : Int32)))).toUInt32 >>> (((8 : Int32)).toUInt32 &&& Int32.toUInt32 31)).toInt32).toUInt32 >>> (((2 : Int32)).toUInt32 &&& Int32.toUInt32 31)).toInt32).toUInt32 >>> (((1 : Int32)).toUInt32 &&& Int32.toUInt32 31)).toInt32))) s)) ∧
        (¬ ((((a0 ^^^ (-1 : Int32)) &&& (a0 - (1 : Int32)))).toUInt32 >>> (((8 : Int32)).toUInt32 &&& Int32.toUInt32 31)).toInt32 ≤ (16 : Int32) →
          (((((((a0 ^^^ (-1 : Int32)) &&& (a0 - (1 : Int32)))).toUInt32 >>> (((8 : Int32)).toUInt32 &&& Int32.toUInt32 31)).toInt32).toUInt32 >>> (((4 : Int32)).toUInt32 &&& Int32.toUInt32 31)).toInt32 ≤ (4 : Int32) →
            Q (some (.int ((((1 : Int32) + (8 : Int32)) + (4 : Int32)) + ((((((((a0 ^^^ (-1 : Int32)) &&& (a0 - (1 : Int32)))).toUInt32 >>> (((8 : Int32)).toUInt32 &&& Int32.toUInt32 31)).toInt32).toUInt32 >>> (((4 : Int32)).toUInt32 &&& Int32.toUInt32 31)).toInt32).toUInt32 >>> (((1 : Int32)).toUInt32 &&& Int32.toUInt32 31)).toInt32))) s) ∧
          (¬ ((((((a0 ^^^ (-1 : Int32)) &&& (a0 - (1 : Int32)))).toUInt32 >>> (((8 : Int32)).toUInt32 &&& Int32.toUInt32 31)).toInt32).toUInt32 >>> (((4 : Int32)).toUInt32 &&& Int32.toUInt32 31)).toInt32 ≤ (4 : Int32) →
            Q (some (.int (((((1 : Int32) + (8 : Int32)) + (4 : Int32)) + (2 : Int32)) + ((((((((((a0 ^^^ (-1 : Int32)) &&& (a0 - (1 : Int32)))).toUInt32 >>> (((8 : Int32)).toUInt32 &&& Int32.toUInt32 31)).toInt32).toUInt32 >>> (((4 : Int32)).toUInt32 &&& Int32.toUInt32 31)).toInt32).toUInt32 >>> (((2 : Int32)).toUInt32 &&& Int32.toUInt32 31)).toInt32).toUInt32 >>> (((1 : Int32)).toUInt32 &&& Int32.toUInt32 31)).toInt32))) s)))) ∧
    (¬ ((a0 ^^^ (-1 : Int32)) &&& (a0 - (1 : Int32))) ≤ (65536 : Int32) →
      (((((a0 ^^^ (-1 : Int32)) &&& (a0 - (1 : Int32)))).toUInt32 >>> (((16 : Int32)).toUInt32 &&& Int32.toUInt32 31)).toInt32 ≤ (256 : Int32) →
        (((((a0 ^^^ (-1 : Int32)) &&& (a0 - (1 : Int32)))).toUInt32 >>> (((16 : Int32)).toUInt32 &&& Int32.toUInt32 31)).toInt32 ≤ (16 : Int32) →
          (((((a0 ^^^ (-1 : Int32)) &&& (a0 - (1 : Int32)))).toUInt32 >>> (((16 : Int32)).toUInt32 &&& Int32.toUInt32 31)).toInt32 ≤ (4 : Int32) →
            Q (some (.int (((1 : Int32) + (16 : Int32)) + ((((((a0 ^^^ (-1 : Int32)) &&& (a0 - (1 : Int32)))).toUInt32 >>> (((16 : Int32)).toUInt32 &&& Int32.toUInt32 31)).toInt32).toUInt32 >>> (((1 : Int32)).toUInt32 &&& Int32.toUInt32 31)).toInt32))) s) ∧
          (¬ ((((a0 ^^^ (-1 : Int32)) &&& (a0 - (1 : Int32)))).toUInt32 >>> (((16 : Int32)).toUInt32 &&& Int32.toUInt32 31)).toInt32 ≤ (4 : Int32) →
            Q (some (.int ((((1 : Int32) + (16 : Int32)) + (2 : Int32)) + ((((((((a0 ^^^ (-1 : Int32)) &&& (a0 - (1 : Int32)))).toUInt32 >>> (((16 : Int32)).toUInt32 &&& Int32.toUInt32 31)).toInt32).toUInt32 >>> (((2 : Int32)).toUInt32 &&& Int32.toUInt32 31)).toInt32).toUInt32 >>> (((1 : Int32)).toUInt32 &&& Int32.toUInt32 31)).toInt32))) s)) ∧
        (¬ ((((a0 ^^^ (-1 : Int32)) &&& (a0 - (1 : Int32)))).toUInt32 >>> (((16 : Int32)).toUInt32 &&& Int32.toUInt32 31)).toInt32 ≤ (16 : Int32) →
          (((((((a0 ^^^ (-1 : Int32)) &&& (a0 - (1 : Int32)))).toUInt32 >>> (((16 : Int32)).toUInt32 &&& Int32.toUInt32 31)).toInt32).toUInt32 >>> (((4 : Int32)).toUInt32 &&& Int32.toUInt32 31)).toInt32 ≤ (4 : Int32) →
            Q (some (.int ((((1 : Int32) + (16 : Int32)) + (4 : Int32)) + ((((((((a0 ^^^ (-1 : Int32)) &&& (a0 - (1 : Int32)))).toUInt32 >>> (((16 : Int32)).toUInt32 &&& Int32.toUInt32 31)).toInt32).toUInt32 >>> (((4 : Int32)).toUInt32 &&& Int32.toUInt32 31)).toInt32).toUInt32 >>> (((1 : Int32)).toUInt32 &&& Int32.toUInt32 31)).toInt32))) s) ∧
          (¬ ((((((a0 ^^^ (-1 : Int32)) &&& (a0 - (1 : Int32)))).toUInt32 >>> (((16 : Int32)).toUInt32 &&& Int32.toUInt32 31)).toInt32).toUInt32 >>> (((4 : Int32)).toUInt32 &&& Int32.toUInt32 31)).toInt32 ≤ (4 : Int32) →
            Q (some (.int (((((1 : Int32) + (16 : Int32)) + (4 : Int32)) + (2 : Int32)) + ((((((((((a0 ^^^ (-1 : Int32)) &&& (a0 - (1 : Int32)))).toUInt32 >>> (((16 : Int32)).toUInt32 &&& Int32.toUInt32 31)).toInt32).toUInt32 >>> (((4 : Int32)).toUInt32 &&& Int32.toUInt32 31)).toInt32).toUInt32 >>> (((2 : Int32)).toUInt32 &&& Int32.toUInt32 31)).toInt32).toUInt32 >>> (((1 : Int32)).toUInt32 &&& Int32.toUInt32 31)).toInt32))) s))) ∧
      (¬ ((((a0 ^^^ (-1 : Int32)) &&& (a0 - (1 : Int32)))).toUInt32 >>> (((16 : Int32)).toUInt32 &&& Int32.toUInt32 31)).toInt32 ≤ (256 : Int32) →
        (((((((a0 ^^^ (-1 : Int32)) &&& (a0 - (1 : Int32)))).toUInt32 >>> (((16 : Int32)).toUInt32 &&& Int32.toUInt32 31)).toInt32).toUInt32 >>> (((8 : Int32)).toUInt32 &&& Int32.toUInt32 31)).toInt32 ≤ (16 : Int32) →
          (((((((a0 ^^^ (-1 : Int32)) &&& (a0 - (1 : Int32)))).toUInt32 >>> (((16 : Int32)).toUInt32 &&& Int32.toUInt32 31)).toInt32).toUInt32 >>> (((8 : Int32)).toUInt32 &&& Int32.toUInt32 31)).toInt32 ≤ (4 : Int32) →
            Q (some (.int ((((1 : Int32) + (16 : Int32)) + (8 : Int32)) + ((((((((a0 ^^^ (-1 : Int32)) &&& (a0 - (1 : Int32)))).toUInt32 >>> (((16 : Int32)).toUInt32 &&& Int32.toUInt32 31)).toInt32).toUInt32 >>> (((8 : Int32)).toUInt32 &&& Int32.toUInt32 31)).toInt32).toUInt32 >>> (((1 : Int32)).toUInt32 &&& Int32.toUInt32 31)).toInt32))) s) ∧
          (¬ ((((((a0 ^^^ (-1 : Int32)) &&& (a0 - (1 : Int32)))).toUInt32 >>> (((16 : Int32)).toUInt32 &&& Int32.toUInt32 31)).toInt32).toUInt32 >>> (((8 : Int32)).toUInt32 &&& Int32.toUInt32 31)).toInt32 ≤ (4 : Int32) →
            Q (some (.int (((((1 : Int32) + (16 : Int32)) + (8 : Int32)) + (2 : Int32)) + ((((((((((a0 ^^^ (-1 : Int32)) &&& (a0 - (1 : Int32)))).toUInt32 >>> (((16 : Int32)).toUInt32 &&& Int32.toUInt32 31)).toInt32).toUInt32 >>> (((8 : Int32)).toUInt32 &&& Int32.toUInt32 31)).toInt32).toUInt32 >>> (((2 : Int32)).toUInt32 &&& Int32.toUInt32 31)).toInt32).toUInt32 >>> (((1 : Int32)).toUInt32 &&& Int32.toUInt32 31)).toInt32))) s)) ∧
        (¬ ((((((a0 ^^^ (-1 : Int32)) &&& (a0 - (1 : Int32)))).toUInt32 >>> (((16 : Int32)).toUInt32 &&& Int32.toUInt32 31)).toInt32).toUInt32 >>> (((8 : Int32)).toUInt32 &&& Int32.toUInt32 31)).toInt32 ≤ (16 : Int32) →
          (((((((((a0 ^^^ (-1 : Int32)) &&& (a0 - (1 : Int32)))).toUInt32 >>> (((16 : Int32)).toUInt32 &&& Int32.toUInt32 31)).toInt32).toUInt32 >>> (((8 : Int32)).toUInt32 &&& Int32.toUInt32 31)).toInt32).toUInt32 >>> (((4 : Int32)).toUInt32 &&& Int32.toUInt32 31)).toInt32 ≤ (4 : Int32) →
            Q (some (.int (((((1 : Int32) + (16 : Int32)) + (8 : Int32)) + (4 : Int32)) + ((((((((((a0 ^^^ (-1 : Int32)) &&& (a0 - (1 : Int32)))).toUInt32 >>> (((16 : Int32)).toUInt32 &&& Int32.toUInt32 31)).toInt32).toUInt32 >>> (((8 : Int32)).toUInt32 &&& Int32.toUInt32 31)).toInt32).toUInt32 >>> (((4 : Int32)).toUInt32 &&& Int32.toUInt32 31)).toInt32).toUInt32 >>> (((1 : Int32)).toUInt32 &&& Int32.toUInt32 31)).toInt32))) s) ∧
          (¬ ((((((((a0 ^^^ (-1 : Int32)) &&& (a0 - (1 : Int32)))).toUInt32 >>> (((16 : Int32)).toUInt32 &&& Int32.toUInt32 31)).toInt32).toUInt32 >>> (((8 : Int32)).toUInt32 &&& Int32.toUInt32 31)).toInt32).toUInt32 >>> (((4 : Int32)).toUInt32 &&& Int32.toUInt32 31)).toInt32 ≤ (4 : Int32) →
            Q (some (.int ((((((1 : Int32) + (16 : Int32)) + (8 : Int32)) + (4 : Int32)) + (2 : Int32)) + ((((((((((((a0 ^^^ (-1 : Int32)) &&& (a0 - (1 : Int32)))).toUInt32 >>> (((16 : Int32)).toUInt32 &&& Int32.toUInt32 31)).toInt32).toUInt32 >>> (((8 : Int32)).toUInt32 &&& Int32.toUInt32 31)).toInt32).toUInt32 >>> (((4 : Int32)).toUInt32 &&& Int32.toUInt32 31)).toInt32).toUInt32 >>> (((2 : Int32)).toUInt32 &&& Int32.toUInt32 31)).toInt32).toUInt32 >>> (((1 : Int32)).toUInt32 &&& Int32.toUInt32 31)).toInt32))) s))))) ∧
  (¬ (0 : Int32) < ((a0 ^^^ (-1 : Int32)) &&& (a0 - (1 : Int32))) →
    Q (some (.int (((a0 ^^^ (-1 : Int32)) &&& (a0 - (1 : Int32))) &&& (32 : Int32)))) s)) : wp E 169 0 [.int a0] [] s Q := vc_ok E 169 [] Q 51 false 0 _ _ _ h
-- 170 java/lang/Integer.bitCount(I)I
theorem sg170_0 {E : AEnv} {a0 : Int32} {s : ASt} {Q : Option Value → ASt → Prop} (h :
  Q (some (.int ((((((((a0 - (((a0).toUInt32 >>> (((1 : Int32)).toUInt32 &&& Int32.toUInt32 31)).toInt32 &&& (1431655765 : Int32))) &&& (858993459 : Int32)) + ((((a0 - (((a0).toUInt32 >>> (((1 : Int32)).toUInt32 &&& Int32.toUInt32 31)).toInt32 &&& (1431655765 : Int32)))).toUInt32 >>> (((2 : Int32)).toUInt32 &&& Int32.toUInt32 31)).toInt32 &&& (858993459 : Int32))) + (((((a0 - (((a0).toUInt32 >>> (((1 : Int32)).toUInt32 &&& Int32.toUInt32 31)).toInt32 &&& (1431655765 : Int32))) &&& (858993459 : Int32)) + ((((a0 - (((a0).toUInt32 >>> (((1 : Int32)).toUInt32 &&& Int32.toUInt32 31)).toInt32 &&& (1431655765 : Int32)))).toUInt32 >>> (((2 : Int32)).toUInt32 &&& Int32.toUInt32 31)).toInt32 &&& (858993459 : Int32)))).toUInt32 >>> (((4 : Int32)).toUInt32 &&& Int32.toUInt32 31)).toInt32) &&& (252645135 : Int32)) + (((((((a0 - (((a0).toUInt32 >>> (((1 : Int32)).toUInt32 &&& Int32.toUInt32 31)).toInt32 &&& (1431655765 : Int32))) &&& (858993459 : Int32)) + ((((a0 - (((a0).toUInt32 >>> (((1 : Int32)).toUInt32 &&& Int32.toUInt32 31)).toInt32 &&& (1431655765 : Int32)))).toUInt32 >>> (((2 : Int32)).toUInt32 &&& Int32.toUInt32 31)).toInt32 &&& (858993459 : Int32))) + (((((a0 - (((a0).toUInt32 >>> (((1 : Int32)).toUInt32 &&& Int32.toUInt32 31)).toInt32 &&& (1431655765 : Int32))) &&& (858993459 : Int32)) + ((((a0 - (((a0).toUInt32 >>> (((1 : Int32)).toUInt32 &&& Int32.toUInt32 31)).toInt32 &&& (1431655765 : Int32)))).toUInt32 >>> (((2 : Int32)).toUInt32 &&& Int32.toUInt32 31)).toInt32 &&& (858993459 : Int32)))).toUInt32 >>> (((4 : Int32)).toUInt32 &&& Int32.toUInt32 31)).toInt32) &&& (252645135 : Int32))).toUInt32 >>> (((8 : Int32)).toUInt32 &&& Int32.toUInt32 31)).toInt32) + ((((((((a0 - (((a0).toUInt32 >>> (((1 : Int32)).toUInt32 &&& Int32.toUInt32 31)).toInt32 &&& (1431655765 : Int32))) &&& (858993459 : Int32)) + ((((a0 - (((a0).toUInt32 >>> (((1 : Int32)).toUInt32 &&& Int32.toUInt32 31)).toInt32 &&& (1431655765 : Int32)))).toUInt32 >>> (((2 : Int32)).toUInt32 &&& Int32.toUInt32 31)).toInt32 &&& (858993459 : Int32))) + (((((a0 - (((a0).toUInt32 >>> (((1 : Int32)).toUInt32 &&& Int32.toUInt32 31)).toInt32 &&& (1431655765 : Int32))) &&& (858993459 : Int32)) + ((((a0 - (((a0).toUInt32 >>> (((1 : Int32)).toUInt32 &&& Int32.toUInt32 31)).toInt32 &&& (1431655765 : Int32)))).toUInt32 >>> (((2 : Int32)).toUInt32 &&& Int32.toUInt32 31)).toInt32 &&& (858993459 : Int32)))).toUInt32 >>> (((4 : Int32)).toUInt32 &&& Int32.toUInt32 31)).toInt32) &&& (252645135 : Int32)) + (((((((a0 - (((a0).toUInt32 >>> (((1 : Int32)).toUInt32 &&& Int32.toUInt32 31)).toInt32 &&& (1431655765 : Int32))) &&& (858993459 : Int32)) + ((((a0 - (((a0).toUInt32 >>> (((1 : Int32)).toUInt32 &&& Int32.toUInt32 31)).toInt32 &&& (1431655765 : Int32)))).toUInt32 >>> (((2 : Int32)).toUInt32 &&& Int32.toUInt32 31)).toInt32 &&& (858993459 : Int32))) + (((((a0 - (((a0).toUInt32 >>> (((1 : Int32)).toUInt32 &&& Int32.toUInt32 31)).toInt32 &&& (1431655765 : Int32))) &&& (858993459 : Int32)) + ((((a0 - (((a0).toUInt32 >>> (((1 : Int32)).toUInt32 &&& Int32.toUInt32 31)).toInt32 &&& (1431655765 : Int32)))).toUInt32 >>> (((2 : Int32)).toUInt32 &&& Int32.toUInt32 31)).toInt32 &&& (858993459 : Int32)))).toUInt32 >>> (((4 : Int32)).toUInt32 &&& Int32.toUInt32 31)).toInt32) &&& (252645135 : Int32))).toUInt32 >>> (((8 : Int32)).toUInt32 &&& Int32.toUInt32 31)).toInt32)).toUInt32 >>> (((16 : Int32)).toUInt32 &&& Int32.toUInt32 31)).toInt32) &&& (63 : Int32)))) s) : wp E 170 0 [.int a0] [] s Q := vc_ok E 170 [] Q 43 false 0 _ _ _ h
-- 171 java/lang/Math.max(II)I
theorem sg171_0 {E : AEnv} {a0 : Int32} {a1 : Int32} {s : ASt} {Q : Option Value → ASt → Prop} (h :
  (a0 < a1 →
    Q (some (.int a1)) s) ∧
  (¬ a0 < a1 →
    Q (some (.int a0)) s)) : wp E 171 0 [.int a0, .int a1] [] s Q := vc_ok E 171 [] Q 7 false 0 _ _ _ h
-- 172 java/lang/Math.min(II)I
theorem sg172_0 {E : AEnv} {a0 : Int32} {a1 : Int32} {s : ASt} {Q : Option Value → ASt → Prop} (h :
  (a1 < a0 →
    Q (some (.int a1)) s) ∧
  (¬ a1 < a0 →
    Q (some (.int a0)) s)) : wp E 172 0 [.int a0, .int a1] [] s Q := vc_ok E 172 [] Q 7 false 0 _ _ _ h
