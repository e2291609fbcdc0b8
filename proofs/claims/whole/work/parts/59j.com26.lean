/-! the law as a loop -/
set_option maxRecDepth 100000 in
theorem sg173_18 {E : AEnv} {a1 : Nat} {a2 : Nat} {a3 : Int32} {s : ASt} {Q : Option Value → ASt → Prop} (h :
  (((Int32.ofNat (E 3).1) - (nI 4)) < a3 →
    fN .boolean (nI 1) = true ∧ Q (some (.int (nI 1))) s) ∧
  (¬ ((Int32.ofNat (E 3).1) - (nI 4)) < a3 →
    vp_in a3 (E 3).1 ∧ ((((E 3).2 (a3).toNatClampNeg) &&& (nI 31)) = (nI 0) →
      vp_in (a3 + (nI 1)) (E 3).1 ∧ sh s a1 5 8 ∧ cI E 58 [.ref a1, .int ((E 3).2 ((a3 + (nI 1))).toNatClampNeg)] s (fun x94 s93 =>
      vp_in (a3 + (nI 1)) (E 3).1 ∧ sh s93 a2 6 15 ∧ cI E 128 [.ref a2, .int ((E 3).2 ((a3 + (nI 1))).toNatClampNeg)] s93 (fun x96 s95 =>
      (x94 = x96 →
        wp E 173 18 [.ref 1003, .ref a1, .ref a2, .int (a3 + (nI 4))] [] s95 Q) ∧
      (¬ x94 = x96 →
        fN .boolean (nI 0) = true ∧ Q (some (.int (nI 0))) s95)))) ∧
    (¬ (((E 3).2 (a3).toNatClampNeg) &&& (nI 31)) = (nI 0) →
     ((((E 3).2 (a3).toNatClampNeg) &&& (nI 31)) = (nI 1) →
      vp_in (a3 + (nI 1)) (E 3).1 ∧ vp_in (a3 + (nI 2)) (E 3).1 ∧ vp_in (a3 + (nI 3)) (E 3).1 ∧ sh s a1 5 8 ∧ cI E 59 [.ref a1, .int ((E 3).2 ((a3 + (nI 1))).toNatClampNeg), .int ((E 3).2 ((a3 + (nI 2))).toNatClampNeg), .int ((E 3).2 ((a3 + (nI 3))).toNatClampNeg)] s (fun x90 s89 =>
      vp_in (a3 + (nI 1)) (E 3).1 ∧ vp_in (a3 + (nI 2)) (E 3).1 ∧ vp_in (a3 + (nI 3)) (E 3).1 ∧ sh s89 a2 6 15 ∧ cI E 129 [.ref a2, .int ((E 3).2 ((a3 + (nI 1))).toNatClampNeg), .int ((E 3).2 ((a3 + (nI 2))).toNatClampNeg), .int ((E 3).2 ((a3 + (nI 3))).toNatClampNeg)] s89 (fun x92 s91 =>
      (x90 = x92 →
        wp E 173 18 [.ref 1003, .ref a1, .ref a2, .int (a3 + (nI 4))] [] s91 Q) ∧
      (¬ x90 = x92 →
        fN .boolean (nI 0) = true ∧ Q (some (.int (nI 0))) s91)))) ∧
    (¬ (((E 3).2 (a3).toNatClampNeg) &&& (nI 31)) = (nI 1) →
     ((((E 3).2 (a3).toNatClampNeg) &&& (nI 31)) = (nI 2) →
      vp_in (a3 + (nI 1)) (E 3).1 ∧ vp_in (a3 + (nI 2)) (E 3).1 ∧ sh s a1 5 8 ∧ cI E 60 [.ref a1, .int ((E 3).2 ((a3 + (nI 1))).toNatClampNeg), .int ((E 3).2 ((a3 + (nI 2))).toNatClampNeg)] s (fun x86 s85 =>
      vp_in (a3 + (nI 1)) (E 3).1 ∧ vp_in (a3 + (nI 2)) (E 3).1 ∧ sh s85 a2 6 15 ∧ cI E 130 [.ref a2, .int ((E 3).2 ((a3 + (nI 1))).toNatClampNeg), .int ((E 3).2 ((a3 + (nI 2))).toNatClampNeg)] s85 (fun x88 s87 =>
      (x86 = x88 →
        wp E 173 18 [.ref 1003, .ref a1, .ref a2, .int (a3 + (nI 4))] [] s87 Q) ∧
      (¬ x86 = x88 →
        fN .boolean (nI 0) = true ∧ Q (some (.int (nI 0))) s87)))) ∧
    (¬ (((E 3).2 (a3).toNatClampNeg) &&& (nI 31)) = (nI 2) →
     ((((E 3).2 (a3).toNatClampNeg) &&& (nI 31)) = (nI 3) →
      vp_in (a3 + (nI 1)) (E 3).1 ∧ sh s a1 5 8 ∧ cI E 61 [.ref a1, .int ((E 3).2 ((a3 + (nI 1))).toNatClampNeg)] s (fun x82 s81 =>
      vp_in (a3 + (nI 1)) (E 3).1 ∧ sh s81 a2 6 15 ∧ cI E 131 [.ref a2, .int ((E 3).2 ((a3 + (nI 1))).toNatClampNeg)] s81 (fun x84 s83 =>
      (x82 = x84 →
        wp E 173 18 [.ref 1003, .ref a1, .ref a2, .int (a3 + (nI 4))] [] s83 Q) ∧
      (¬ x82 = x84 →
        fN .boolean (nI 0) = true ∧ Q (some (.int (nI 0))) s83)))) ∧
    (¬ (((E 3).2 (a3).toNatClampNeg) &&& (nI 31)) = (nI 3) →
     ((((E 3).2 (a3).toNatClampNeg) &&& (nI 31)) = (nI 4) →
      vp_in (a3 + (nI 1)) (E 3).1 ∧ sh s a1 5 8 ∧ cI E 62 [.ref a1, .int ((E 3).2 ((a3 + (nI 1))).toNatClampNeg)] s (fun x78 s77 =>
      vp_in (a3 + (nI 1)) (E 3).1 ∧ sh s77 a2 6 15 ∧ cI E 132 [.ref a2, .int ((E 3).2 ((a3 + (nI 1))).toNatClampNeg)] s77 (fun x80 s79 =>
      (x78 = x80 →
        wp E 173 18 [.ref 1003, .ref a1, .ref a2, .int (a3 + (nI 4))] [] s79 Q) ∧
      (¬ x78 = x80 →
        fN .boolean (nI 0) = true ∧ Q (some (.int (nI 0))) s79)))) ∧
    (¬ (((E 3).2 (a3).toNatClampNeg) &&& (nI 31)) = (nI 4) →
     ((((E 3).2 (a3).toNatClampNeg) &&& (nI 31)) = (nI 5) →
      vp_in (a3 + (nI 1)) (E 3).1 ∧ sh s a1 5 8 ∧ cI E 63 [.ref a1, .int ((E 3).2 ((a3 + (nI 1))).toNatClampNeg)] s (fun x74 s73 =>
      vp_in (a3 + (nI 1)) (E 3).1 ∧ sh s73 a2 6 15 ∧ cI E 133 [.ref a2, .int ((E 3).2 ((a3 + (nI 1))).toNatClampNeg)] s73 (fun x76 s75 =>
      (x74 = x76 →
        wp E 173 18 [.ref 1003, .ref a1, .ref a2, .int (a3 + (nI 4))] [] s75 Q) ∧
      (¬ x74 = x76 →
        fN .boolean (nI 0) = true ∧ Q (some (.int (nI 0))) s75)))) ∧
    (¬ (((E 3).2 (a3).toNatClampNeg) &&& (nI 31)) = (nI 5) →
     ((((E 3).2 (a3).toNatClampNeg) &&& (nI 31)) = (nI 6) →
      vp_in (a3 + (nI 1)) (E 3).1 ∧ vp_in (a3 + (nI 2)) (E 3).1 ∧ sh s a1 5 8 ∧ cI E 64 [.ref a1, .int ((E 3).2 ((a3 + (nI 1))).toNatClampNeg), .int ((E 3).2 ((a3 + (nI 2))).toNatClampNeg)] s (fun x70 s69 =>
      vp_in (a3 + (nI 1)) (E 3).1 ∧ vp_in (a3 + (nI 2)) (E 3).1 ∧ sh s69 a2 6 15 ∧ cI E 135 [.ref a2, .int ((E 3).2 ((a3 + (nI 1))).toNatClampNeg), .int ((E 3).2 ((a3 + (nI 2))).toNatClampNeg)] s69 (fun x72 s71 =>
      (x70 = x72 →
        wp E 173 18 [.ref 1003, .ref a1, .ref a2, .int (a3 + (nI 4))] [] s71 Q) ∧
      (¬ x70 = x72 →
        fN .boolean (nI 0) = true ∧ Q (some (.int (nI 0))) s71)))) ∧
    (¬ (((E 3).2 (a3).toNatClampNeg) &&& (nI 31)) = (nI 6) →
     ((((E 3).2 (a3).toNatClampNeg) &&& (nI 31)) = (nI 7) →
      vp_in (a3 + (nI 1)) (E 3).1 ∧ vp_in (a3 + (nI 2)) (E 3).1 ∧ sh s a1 5 8 ∧ cI E 65 [.ref a1, .int ((E 3).2 ((a3 + (nI 1))).toNatClampNeg), .int ((E 3).2 ((a3 + (nI 2))).toNatClampNeg)] s (fun x66 s65 =>
      vp_in (a3 + (nI 1)) (E 3).1 ∧ vp_in (a3 + (nI 2)) (E 3).1 ∧ sh s65 a2 6 15 ∧ cI E 137 [.ref a2, .int ((E 3).2 ((a3 + (nI 1))).toNatClampNeg), .int ((E 3).2 ((a3 + (nI 2))).toNatClampNeg)] s65 (fun x68 s67 =>
      (x66 = x68 →
        wp E 173 18 [.ref 1003, .ref a1, .ref a2, .int (a3 + (nI 4))] [] s67 Q) ∧
      (¬ x66 = x68 →
        fN .boolean (nI 0) = true ∧ Q (some (.int (nI 0))) s67)))) ∧
    (¬ (((E 3).2 (a3).toNatClampNeg) &&& (nI 31)) = (nI 7) →
     ((((E 3).2 (a3).toNatClampNeg) &&& (nI 31)) = (nI 8) →
      vp_in (a3 + (nI 1)) (E 3).1 ∧ vp_in (a3 + (nI 2)) (E 3).1 ∧ sh s a1 5 8 ∧ cI E 66 [.ref a1, .int ((E 3).2 ((a3 + (nI 1))).toNatClampNeg), .int ((E 3).2 ((a3 + (nI 2))).toNatClampNeg)] s (fun x62 s61 =>
      vp_in (a3 + (nI 1)) (E 3).1 ∧ vp_in (a3 + (nI 2)) (E 3).1 ∧ sh s61 a2 6 15 ∧ cI E 140 [.ref a2, .int ((E 3).2 ((a3 + (nI 1))).toNatClampNeg), .int ((E 3).2 ((a3 + (nI 2))).toNatClampNeg)] s61 (fun x64 s63 =>
      (x62 = x64 →
        wp E 173 18 [.ref 1003, .ref a1, .ref a2, .int (a3 + (nI 4))] [] s63 Q) ∧
      (¬ x62 = x64 →
        fN .boolean (nI 0) = true ∧ Q (some (.int (nI 0))) s63)))) ∧
    (¬ (((E 3).2 (a3).toNatClampNeg) &&& (nI 31)) = (nI 8) →
     ((((E 3).2 (a3).toNatClampNeg) &&& (nI 31)) = (nI 9) →
      vp_in (a3 + (nI 1)) (E 3).1 ∧ sh s a1 5 8 ∧ cI E 67 [.ref a1, .int ((E 3).2 ((a3 + (nI 1))).toNatClampNeg)] s (fun x58 s57 =>
      vp_in (a3 + (nI 1)) (E 3).1 ∧ sh s57 a2 6 15 ∧ cI E 141 [.ref a2, .int ((E 3).2 ((a3 + (nI 1))).toNatClampNeg)] s57 (fun x60 s59 =>
      (x58 = x60 →
        wp E 173 18 [.ref 1003, .ref a1, .ref a2, .int (a3 + (nI 4))] [] s59 Q) ∧
      (¬ x58 = x60 →
        fN .boolean (nI 0) = true ∧ Q (some (.int (nI 0))) s59)))) ∧
    (¬ (((E 3).2 (a3).toNatClampNeg) &&& (nI 31)) = (nI 9) →
     ((((E 3).2 (a3).toNatClampNeg) &&& (nI 31)) = (nI 10) →
      vp_in (a3 + (nI 1)) (E 3).1 ∧ vp_in (a3 + (nI 2)) (E 3).1 ∧ sh s a1 5 8 ∧ cI E 68 [.ref a1, .int ((E 3).2 ((a3 + (nI 1))).toNatClampNeg), .int ((E 3).2 ((a3 + (nI 2))).toNatClampNeg)] s (fun x54 s53 =>
      vp_in (a3 + (nI 1)) (E 3).1 ∧ vp_in (a3 + (nI 2)) (E 3).1 ∧ sh s53 a2 6 15 ∧ cI E 142 [.ref a2, .int ((E 3).2 ((a3 + (nI 1))).toNatClampNeg), .int ((E 3).2 ((a3 + (nI 2))).toNatClampNeg)] s53 (fun x56 s55 =>
      (x54 = x56 →
        wp E 173 18 [.ref 1003, .ref a1, .ref a2, .int (a3 + (nI 4))] [] s55 Q) ∧
      (¬ x54 = x56 →
        fN .boolean (nI 0) = true ∧ Q (some (.int (nI 0))) s55)))) ∧
    (¬ (((E 3).2 (a3).toNatClampNeg) &&& (nI 31)) = (nI 10) →
     ((((E 3).2 (a3).toNatClampNeg) &&& (nI 31)) = (nI 11) →
      vp_in (a3 + (nI 1)) (E 3).1 ∧ vp_in (a3 + (nI 2)) (E 3).1 ∧ sh s a1 5 8 ∧ cI E 69 [.ref a1, .int ((E 3).2 ((a3 + (nI 1))).toNatClampNeg), .int ((E 3).2 ((a3 + (nI 2))).toNatClampNeg)] s (fun x50 s49 =>
      vp_in (a3 + (nI 1)) (E 3).1 ∧ vp_in (a3 + (nI 2)) (E 3).1 ∧ sh s49 a2 6 15 ∧ cI E 144 [.ref a2, .int ((E 3).2 ((a3 + (nI 1))).toNatClampNeg), .int ((E 3).2 ((a3 + (nI 2))).toNatClampNeg)] s49 (fun x52 s51 =>
      (x50 = x52 →
        wp E 173 18 [.ref 1003, .ref a1, .ref a2, .int (a3 + (nI 4))] [] s51 Q) ∧
      (¬ x50 = x52 →
        fN .boolean (nI 0) = true ∧ Q (some (.int (nI 0))) s51)))) ∧
    (¬ (((E 3).2 (a3).toNatClampNeg) &&& (nI 31)) = (nI 11) →
     ((((E 3).2 (a3).toNatClampNeg) &&& (nI 31)) = (nI 12) →
      sh s a1 5 8 ∧ cI E 70 [.ref a1] s (fun x46 s45 =>
      sh s45 a2 6 15 ∧ cI E 145 [.ref a2] s45 (fun x48 s47 =>
      (x46 = x48 →
        wp E 173 18 [.ref 1003, .ref a1, .ref a2, .int (a3 + (nI 4))] [] s47 Q) ∧
      (¬ x46 = x48 →
        fN .boolean (nI 0) = true ∧ Q (some (.int (nI 0))) s47)))) ∧
    (¬ (((E 3).2 (a3).toNatClampNeg) &&& (nI 31)) = (nI 12) →
     ((((E 3).2 (a3).toNatClampNeg) &&& (nI 31)) = (nI 13) →
      vp_in (a3 + (nI 1)) (E 3).1 ∧ sh s a1 5 8 ∧ cI E 71 [.ref a1, .int ((E 3).2 ((a3 + (nI 1))).toNatClampNeg)] s (fun x42 s41 =>
      vp_in (a3 + (nI 1)) (E 3).1 ∧ sh s41 a2 6 15 ∧ cI E 146 [.ref a2, .int ((E 3).2 ((a3 + (nI 1))).toNatClampNeg)] s41 (fun x44 s43 =>
      (x42 = x44 →
        wp E 173 18 [.ref 1003, .ref a1, .ref a2, .int (a3 + (nI 4))] [] s43 Q) ∧
      (¬ x42 = x44 →
        fN .boolean (nI 0) = true ∧ Q (some (.int (nI 0))) s43)))) ∧
    (¬ (((E 3).2 (a3).toNatClampNeg) &&& (nI 31)) = (nI 13) →
     ((((E 3).2 (a3).toNatClampNeg) &&& (nI 31)) = (nI 14) →
      vp_in (a3 + (nI 1)) (E 3).1 ∧ sh s a1 5 8 ∧ cI E 72 [.ref a1, .int ((E 3).2 ((a3 + (nI 1))).toNatClampNeg)] s (fun x38 s37 =>
      vp_in (a3 + (nI 1)) (E 3).1 ∧ sh s37 a2 6 15 ∧ cI E 147 [.ref a2, .int ((E 3).2 ((a3 + (nI 1))).toNatClampNeg)] s37 (fun x40 s39 =>
      (x38 = x40 →
        wp E 173 18 [.ref 1003, .ref a1, .ref a2, .int (a3 + (nI 4))] [] s39 Q) ∧
      (¬ x38 = x40 →
        fN .boolean (nI 0) = true ∧ Q (some (.int (nI 0))) s39)))) ∧
    (¬ (((E 3).2 (a3).toNatClampNeg) &&& (nI 31)) = (nI 14) →
     ((((E 3).2 (a3).toNatClampNeg) &&& (nI 31)) = (nI 15) →
      sh s a1 5 8 ∧ cI E 73 [.ref a1] s (fun x34 s33 =>
      sh s33 a2 6 15 ∧ cI E 148 [.ref a2] s33 (fun x36 s35 =>
      (x34 = x36 →
        wp E 173 18 [.ref 1003, .ref a1, .ref a2, .int (a3 + (nI 4))] [] s35 Q) ∧
      (¬ x34 = x36 →
        fN .boolean (nI 0) = true ∧ Q (some (.int (nI 0))) s35)))) ∧
    (¬ (((E 3).2 (a3).toNatClampNeg) &&& (nI 31)) = (nI 15) →
     ((((E 3).2 (a3).toNatClampNeg) &&& (nI 31)) = (nI 16) →
      vp_in (a3 + (nI 1)) (E 3).1 ∧ sh s a1 5 8 ∧ cI E 74 [.ref a1, .int ((E 3).2 ((a3 + (nI 1))).toNatClampNeg)] s (fun x30 s29 =>
      vp_in (a3 + (nI 1)) (E 3).1 ∧ sh s29 a2 6 15 ∧ cI E 149 [.ref a2, .int ((E 3).2 ((a3 + (nI 1))).toNatClampNeg)] s29 (fun x32 s31 =>
      (x30 = x32 →
        wp E 173 18 [.ref 1003, .ref a1, .ref a2, .int (a3 + (nI 4))] [] s31 Q) ∧
      (¬ x30 = x32 →
        fN .boolean (nI 0) = true ∧ Q (some (.int (nI 0))) s31)))) ∧
    (¬ (((E 3).2 (a3).toNatClampNeg) &&& (nI 31)) = (nI 16) →
     ((((E 3).2 (a3).toNatClampNeg) &&& (nI 31)) = (nI 17) →
      sh s a1 5 8 ∧ cI E 75 [.ref a1] s (fun x26 s25 =>
      sh s25 a2 6 15 ∧ cI E 150 [.ref a2] s25 (fun x28 s27 =>
      (x26 = x28 →
        wp E 173 18 [.ref 1003, .ref a1, .ref a2, .int (a3 + (nI 4))] [] s27 Q) ∧
      (¬ x26 = x28 →
        fN .boolean (nI 0) = true ∧ Q (some (.int (nI 0))) s27)))) ∧
    (¬ (((E 3).2 (a3).toNatClampNeg) &&& (nI 31)) = (nI 17) →
     ((((E 3).2 (a3).toNatClampNeg) &&& (nI 31)) = (nI 18) →
      vp_in (a3 + (nI 1)) (E 3).1 ∧ sh s a1 5 8 ∧ cI E 76 [.ref a1, .int ((E 3).2 ((a3 + (nI 1))).toNatClampNeg)] s (fun x22 s21 =>
      vp_in (a3 + (nI 1)) (E 3).1 ∧ sh s21 a2 6 15 ∧ cI E 155 [.ref a2, .int ((E 3).2 ((a3 + (nI 1))).toNatClampNeg)] s21 (fun x24 s23 =>
      (x22 = x24 →
        wp E 173 18 [.ref 1003, .ref a1, .ref a2, .int (a3 + (nI 4))] [] s23 Q) ∧
      (¬ x22 = x24 →
        fN .boolean (nI 0) = true ∧ Q (some (.int (nI 0))) s23)))) ∧
    (¬ (((E 3).2 (a3).toNatClampNeg) &&& (nI 31)) = (nI 18) →
     ((((E 3).2 (a3).toNatClampNeg) &&& (nI 31)) = (nI 19) →
      sh s a1 5 8 ∧ cI E 77 [.ref a1] s (fun x18 s17 =>
      sh s17 a2 6 15 ∧ cI E 136 [.ref a2] s17 (fun x20 s19 =>
      (x18 = x20 →
        wp E 173 18 [.ref 1003, .ref a1, .ref a2, .int (a3 + (nI 4))] [] s19 Q) ∧
      (¬ x18 = x20 →
        fN .boolean (nI 0) = true ∧ Q (some (.int (nI 0))) s19)))) ∧
    (¬ (((E 3).2 (a3).toNatClampNeg) &&& (nI 31)) = (nI 19) →
     ((((E 3).2 (a3).toNatClampNeg) &&& (nI 31)) = (nI 20) →
      vp_in (a3 + (nI 1)) (E 3).1 ∧ sh s a1 5 8 ∧ cI E 78 [.ref a1, .int ((E 3).2 ((a3 + (nI 1))).toNatClampNeg)] s (fun x14 s13 =>
      vp_in (a3 + (nI 1)) (E 3).1 ∧ sh s13 a2 6 15 ∧ cI E 156 [.ref a2, .int ((E 3).2 ((a3 + (nI 1))).toNatClampNeg)] s13 (fun x16 s15 =>
      (x14 = x16 →
        wp E 173 18 [.ref 1003, .ref a1, .ref a2, .int (a3 + (nI 4))] [] s15 Q) ∧
      (¬ x14 = x16 →
        fN .boolean (nI 0) = true ∧ Q (some (.int (nI 0))) s15)))) ∧
    (¬ (((E 3).2 (a3).toNatClampNeg) &&& (nI 31)) = (nI 20) →
     ((((E 3).2 (a3).toNatClampNeg) &&& (nI 31)) = (nI 21) →
      sh s a1 5 8 ∧ cI E 79 [.ref a1] s (fun x10 s9 =>
      sh s9 a2 6 15 ∧ cI E 157 [.ref a2] s9 (fun x12 s11 =>
      (x10 = x12 →
        wp E 173 18 [.ref 1003, .ref a1, .ref a2, .int (a3 + (nI 4))] [] s11 Q) ∧
      (¬ x10 = x12 →
        fN .boolean (nI 0) = true ∧ Q (some (.int (nI 0))) s11)))) ∧
    (¬ (((E 3).2 (a3).toNatClampNeg) &&& (nI 31)) = (nI 21) →
     ((((E 3).2 (a3).toNatClampNeg) &&& (nI 31)) = (nI 22) →
      vp_in (a3 + (nI 1)) (E 3).1 ∧ sh s a1 5 8 ∧ cI E 80 [.ref a1, .int ((E 3).2 ((a3 + (nI 1))).toNatClampNeg)] s (fun x6 s5 =>
      vp_in (a3 + (nI 1)) (E 3).1 ∧ sh s5 a2 6 15 ∧ cI E 165 [.ref a2, .int ((E 3).2 ((a3 + (nI 1))).toNatClampNeg)] s5 (fun x8 s7 =>
      (x6 = x8 →
        wp E 173 18 [.ref 1003, .ref a1, .ref a2, .int (a3 + (nI 4))] [] s7 Q) ∧
      (¬ x6 = x8 →
        fN .boolean (nI 0) = true ∧ Q (some (.int (nI 0))) s7)))) ∧
    (¬ (((E 3).2 (a3).toNatClampNeg) &&& (nI 31)) = (nI 22) →
     ((((E 3).2 (a3).toNatClampNeg) &&& (nI 31)) = (nI 23) →
      sh s a1 5 8 ∧ cI E 81 [.ref a1] s (fun x2 s1 =>
      sh s1 a2 6 15 ∧ cI E 166 [.ref a2] s1 (fun x4 s3 =>
      (x2 = x4 →
        wp E 173 18 [.ref 1003, .ref a1, .ref a2, .int (a3 + (nI 4))] [] s3 Q) ∧
      (¬ x2 = x4 →
        fN .boolean (nI 0) = true ∧ Q (some (.int (nI 0))) s3)))) ∧
    (¬ (((E 3).2 (a3).toNatClampNeg) &&& (nI 31)) = (nI 23) →
     wp E 173 18 [.ref 1003, .ref a1, .ref a2, .int (a3 + (nI 4))] [] s Q)))))))))))))))))))))))))) : wp E 173 18 [.ref 1003, .ref a1, .ref a2, .int a3] [] s Q := vc_ok E 173 [18] Q 51 false 18 _ _ _ h
