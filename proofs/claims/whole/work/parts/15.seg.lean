-- 171 java/lang/Math.max(II)I
theorem sg171_0 {E : AEnv} {a0 : Int32} {a1 : Int32} {s : ASt} {Q : Option Value → ASt → Prop} (h :
  (a0 < a1 →
    Q (some (.int a1)) s) ∧
  (¬ a0 < a1 →
    Q (some (.int a0)) s)) : wp E 171 0 [.int a0, .int a1] [] s Q := vc_ok E 171 [] Q 7 false 0 _ _ _ h
-- 172 java/lang/Math.min(II)I
theorem sg172_0 {E : AEnv} {a0 : Int32} {a1 : Int32} {s : ASt} {Q : Option Value → ASt → Prop} (h :
  (a1 < a0 →
    Q (some (.int a1)) s) ∧
  (¬ a1 < a0 →
    Q (some (.int a0)) s)) : wp E 172 0 [.int a0, .int a1] [] s Q := vc_ok E 172 [] Q 7 false 0 _ _ _ h
