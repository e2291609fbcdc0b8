theorem ck_app {f : AEnt × Instr → Bool} {a b : List AEnt} {c d : List Instr} (hl : a.length = c.length) (h1 : (a.zip c).all f = true) (h2 : (b.zip d).all f = true) : ((a ++ b).zip (c ++ d)).all f = true := by
  rw [List.zip_append hl, List.all_append, h1, h2]; rfl
theorem ck18 : (pg18.zip ac18).all (ckE 18) = true := ck_app rfl ck18_0 (ck18_1)
theorem ck19 : (pg19.zip ac19).all (ckE 19) = true := ck_app rfl ck19_0 (ck_app rfl ck19_1 (ck19_2))
theorem ck23 : (pg23.zip ac23).all (ckE 23) = true := ck_app rfl ck23_0 (ck23_1)
theorem ck24 : (pg24.zip ac24).all (ckE 24) = true := ck_app rfl ck24_0 (ck24_1)
theorem ck29 : (pg29.zip ac29).all (ckE 29) = true := ck_app rfl ck29_0 (ck29_1)
theorem ck30 : (pg30.zip ac30).all (ckE 30) = true := ck_app rfl ck30_0 (ck30_1)
theorem ck32 : (pg32.zip ac32).all (ckE 32) = true := ck_app rfl ck32_0 (ck32_1)
theorem ck37 : (pg37.zip ac37).all (ckE 37) = true := ck_app rfl ck37_0 (ck37_1)
theorem ck52 : (pg52.zip ac52).all (ckE 52) = true := ck_app rfl ck52_0 (ck52_1)
theorem ck55 : (pg55.zip ac55).all (ckE 55) = true := ck_app rfl ck55_0 (ck55_1)
theorem ck65 : (pg65.zip ac65).all (ckE 65) = true := ck_app rfl ck65_0 (ck65_1)
theorem ck66 : (pg66.zip ac66).all (ckE 66) = true := ck_app rfl ck66_0 (ck66_1)
theorem ck76 : (pg76.zip ac76).all (ckE 76) = true := ck_app rfl ck76_0 (ck_app rfl ck76_1 (ck76_2))
theorem ck85 : (pg85.zip ac85).all (ckE 85) = true := ck_app rfl ck85_0 (ck85_1)
theorem ck87 : (pg87.zip ac87).all (ckE 87) = true := ck_app rfl ck87_0 (ck87_1)
theorem ck90 : (pg90.zip ac90).all (ckE 90) = true := ck_app rfl ck90_0 (ck90_1)
theorem ck91 : (pg91.zip ac91).all (ckE 91) = true := ck_app rfl ck91_0 (ck91_1)
theorem ck94 : (pg94.zip ac94).all (ckE 94) = true := ck_app rfl ck94_0 (ck94_1)
theorem ck106 : (pg106.zip ac106).all (ckE 106) = true := ck_app rfl ck106_0 (ck106_1)
theorem ck110 : (pg110.zip ac110).all (ckE 110) = true := ck_app rfl ck110_0 (ck110_1)
theorem ck112 : (pg112.zip ac112).all (ckE 112) = true := ck_app rfl ck112_0 (ck112_1)
theorem ck116 : (pg116.zip ac116).all (ckE 116) = true := ck_app rfl ck116_0 (ck116_1)
theorem ck118 : (pg118.zip ac118).all (ckE 118) = true := ck_app rfl ck118_0 (ck_app rfl ck118_1 (ck118_2))
theorem ck119 : (pg119.zip ac119).all (ckE 119) = true := ck_app rfl ck119_0 (ck119_1)
theorem ck120 : (pg120.zip ac120).all (ckE 120) = true := ck_app rfl ck120_0 (ck_app rfl ck120_1 (ck_app rfl ck120_2 (ck120_3)))
theorem ck139 : (pg139.zip ac139).all (ckE 139) = true := ck_app rfl ck139_0 (ck139_1)
theorem ck140 : (pg140.zip ac140).all (ckE 140) = true := ck_app rfl ck140_0 (ck140_1)
theorem ck147 : (pg147.zip ac147).all (ckE 147) = true := ck_app rfl ck147_0 (ck147_1)
theorem ck148 : (pg148.zip ac148).all (ckE 148) = true := ck_app rfl ck148_0 (ck148_1)
theorem ck155 : (pg155.zip ac155).all (ckE 155) = true := ck_app rfl ck155_0 (ck_app rfl ck155_1 (ck155_2))
theorem ck160 : (pg160.zip ac160).all (ckE 160) = true := ck_app rfl ck160_0 (ck160_1)
theorem ck161 : (pg161.zip ac161).all (ckE 161) = true := ck_app rfl ck161_0 (ck_app rfl ck161_1 (ck161_2))
theorem ck162 : (pg162.zip ac162).all (ckE 162) = true := ck_app rfl ck162_0 (ck162_1)
theorem ck163 : (pg163.zip ac163).all (ckE 163) = true := ck_app rfl ck163_0 (ck163_1)
theorem ck164 : (pg164.zip ac164).all (ckE 164) = true := ck_app rfl ck164_0 (ck164_1)
theorem ck165 : (pg165.zip ac165).all (ckE 165) = true := ck_app rfl ck165_0 (ck165_1)
theorem ck169 : (pg169.zip ac169).all (ckE 169) = true := ck_app rfl ck169_0 (ck169_1)
theorem ck170 : (pg170.zip ac170).all (ckE 170) = true := ck_app rfl ck170_0 (ck170_1)
theorem ck173 : (pg173.zip ac173).all (ckE 173) = true := ck_app rfl ck173_0 (ck_app rfl ck173_1 (ck_app rfl ck173_2 (ck_app rfl ck173_3 (ck_app rfl ck173_4 (ck_app rfl ck173_5 (ck_app rfl ck173_6 (ck_app rfl ck173_7 (ck_app rfl ck173_8 (ck_app rfl ck173_9 (ck_app rfl ck173_10 (ck173_11)))))))))))
theorem ck_all (mi : Nat) : ((mCode mi).zip (mAct mi)).all (ckE mi) = true := match mi with
  | 0 => ck0
  | 1 => ck1
  | 2 => ck2
  | 3 => ck3
  | 4 => ck4
  | 5 => ck5
  | 6 => ck6
  | 7 => ck7
  | 8 => ck8
  | 9 => ck9
  | 10 => ck10
  | 11 => ck11
  | 12 => ck12
  | 13 => ck13
  | 14 => ck14
  | 15 => ck15
  | 16 => ck16
  | 17 => ck17
  | 18 => ck18
  | 19 => ck19
  | 20 => ck20
  | 21 => ck21
  | 22 => ck22
  | 23 => ck23
  | 24 => ck24
  | 25 => ck25
  | 26 => ck26
  | 27 => ck27
  | 28 => ck28
  | 29 => ck29
  | 30 => ck30
  | 31 => ck31
  | 32 => ck32
  | 33 => ck33
  | 34 => ck34
  | 35 => ck35
  | 36 => ck36
  | 37 => ck37
  | 38 => ck38
  | 39 => ck39
  | 40 => ck40
  | 41 => ck41
  | 42 => ck42
  | 43 => ck43
  | 44 => ck44
  | 45 => ck45
  | 46 => ck46
  | 47 => ck47
  | 48 => ck48
  | 49 => ck49
  | 50 => ck50
  | 51 => ck51
  | 52 => ck52
  | 53 => ck53
  | 54 => ck54
  | 55 => ck55
  | 56 => ck56
  | 57 => ck57
  | 58 => ck58
  | 59 => ck59
  | 60 => ck60
  | 61 => ck61
  | 62 => ck62
  | 63 => ck63
  | 64 => ck64
  | 65 => ck65
  | 66 => ck66
  | 67 => ck67
  | 68 => ck68
  | 69 => ck69
  | 70 => ck70
  | 71 => ck71
  | 72 => ck72
  | 73 => ck73
  | 74 => ck74
  | 75 => ck75
  | 76 => ck76
  | 77 => ck77
  | 78 => ck78
  | 79 => ck79
  | 80 => ck80
  | 81 => ck81
  | 82 => ck82
  | 83 => ck83
  | 84 => ck84
  | 85 => ck85
  | 86 => ck86
  | 87 => ck87
  | 88 => ck88
  | 89 => ck89
  | 90 => ck90
  | 91 => ck91
  | 92 => ck92
  | 93 => ck93
  | 94 => ck94
  | 95 => ck95
  | 96 => ck96
  | 97 => ck97
  | 98 => ck98
  | 99 => ck99
  | 100 => ck100
  | 101 => ck101
  | 102 => ck102
  | 103 => ck103
  | 104 => ck104
  | 105 => ck105
  | 106 => ck106
  | 107 => ck107
  | 108 => ck108
  | 109 => ck109
  | 110 => ck110
  | 111 => ck111
  | 112 => ck112
  | 113 => ck113
  | 114 => ck114
  | 115 => ck115
  | 116 => ck116
  | 117 => ck117
  | 118 => ck118
  | 119 => ck119
  | 120 => ck120
  | 121 => ck121
  | 122 => ck122
  | 123 => ck123
  | 124 => ck124
  | 125 => ck125
  | 126 => ck126
  | 127 => ck127
  | 128 => ck128
  | 129 => ck129
  | 130 => ck130
  | 131 => ck131
  | 132 => ck132
  | 133 => ck133
  | 134 => ck134
  | 135 => ck135
  | 136 => ck136
  | 137 => ck137
  | 138 => ck138
  | 139 => ck139
  | 140 => ck140
  | 141 => ck141
  | 142 => ck142
  | 143 => ck143
  | 144 => ck144
  | 145 => ck145
  | 146 => ck146
  | 147 => ck147
  | 148 => ck148
  | 149 => ck149
  | 150 => ck150
  | 151 => ck151
  | 152 => ck152
  | 153 => ck153
  | 154 => ck154
  | 155 => ck155
  | 156 => ck156
  | 157 => ck157
  | 158 => ck158
  | 159 => ck159
  | 160 => ck160
  | 161 => ck161
  | 162 => ck162
  | 163 => ck163
  | 164 => ck164
  | 165 => ck165
  | 166 => ck166
  | 167 => ck167
  | 168 => ck168
  | 169 => ck169
  | 170 => ck170
  | 171 => ck171
  | 172 => ck172
  | 173 => ck173
  | _ + 174 => rfl
theorem ck_len (mi : Nat) : (mCode mi).length = (mAct mi).length := match mi with
  | 0 => by decide +kernel
  | 1 => by decide +kernel
  | 2 => by decide +kernel
  | 3 => by decide +kernel
  | 4 => by decide +kernel
  | 5 => by decide +kernel
  | 6 => by decide +kernel
  | 7 => by decide +kernel
  | 8 => by decide +kernel
  | 9 => by decide +kernel
  | 10 => by decide +kernel
  | 11 => by decide +kernel
  | 12 => by decide +kernel
  | 13 => by decide +kernel
  | 14 => by decide +kernel
  | 15 => by decide +kernel
  | 16 => by decide +kernel
  | 17 => by decide +kernel
  | 18 => by decide +kernel
  | 19 => by decide +kernel
  | 20 => by decide +kernel
  | 21 => by decide +kernel
  | 22 => by decide +kernel
  | 23 => by decide +kernel
  | 24 => by decide +kernel
  | 25 => by decide +kernel
  | 26 => by decide +kernel
  | 27 => by decide +kernel
  | 28 => by decide +kernel
  | 29 => by decide +kernel
  | 30 => by decide +kernel
  | 31 => by decide +kernel
  | 32 => by decide +kernel
  | 33 => by decide +kernel
  | 34 => by decide +kernel
  | 35 => by decide +kernel
  | 36 => by decide +kernel
  | 37 => by decide +kernel
  | 38 => by decide +kernel
  | 39 => by decide +kernel
  | 40 => by decide +kernel
  | 41 => by decide +kernel
  | 42 => by decide +kernel
  | 43 => by decide +kernel
  | 44 => by decide +kernel
  | 45 => by decide +kernel
  | 46 => by decide +kernel
  | 47 => by decide +kernel
  | 48 => by decide +kernel
  | 49 => by decide +kernel
  | 50 => by decide +kernel
  | 51 => by decide +kernel
  | 52 => by decide +kernel
  | 53 => by decide +kernel
  | 54 => by decide +kernel
  | 55 => by decide +kernel
  | 56 => by decide +kernel
  | 57 => by decide +kernel
  | 58 => by decide +kernel
  | 59 => by decide +kernel
  | 60 => by decide +kernel
  | 61 => by decide +kernel
  | 62 => by decide +kernel
  | 63 => by decide +kernel
  | 64 => by decide +kernel
  | 65 => by decide +kernel
  | 66 => by decide +kernel
  | 67 => by decide +kernel
  | 68 => by decide +kernel
  | 69 => by decide +kernel
  | 70 => by decide +kernel
  | 71 => by decide +kernel
  | 72 => by decide +kernel
  | 73 => by decide +kernel
  | 74 => by decide +kernel
  | 75 => by decide +kernel
  | 76 => by decide +kernel
  | 77 => by decide +kernel
  | 78 => by decide +kernel
  | 79 => by decide +kernel
  | 80 => by decide +kernel
  | 81 => by decide +kernel
  | 82 => by decide +kernel
  | 83 => by decide +kernel
  | 84 => by decide +kernel
  | 85 => by decide +kernel
  | 86 => by decide +kernel
  | 87 => by decide +kernel
  | 88 => by decide +kernel
  | 89 => by decide +kernel
  | 90 => by decide +kernel
  | 91 => by decide +kernel
  | 92 => by decide +kernel
  | 93 => by decide +kernel
  | 94 => by decide +kernel
  | 95 => by decide +kernel
  | 96 => by decide +kernel
  | 97 => by decide +kernel
  | 98 => by decide +kernel
  | 99 => by decide +kernel
  | 100 => by decide +kernel
  | 101 => by decide +kernel
  | 102 => by decide +kernel
  | 103 => by decide +kernel
  | 104 => by decide +kernel
  | 105 => by decide +kernel
  | 106 => by decide +kernel
  | 107 => by decide +kernel
  | 108 => by decide +kernel
  | 109 => by decide +kernel
  | 110 => by decide +kernel
  | 111 => by decide +kernel
  | 112 => by decide +kernel
  | 113 => by decide +kernel
  | 114 => by decide +kernel
  | 115 => by decide +kernel
  | 116 => by decide +kernel
  | 117 => by decide +kernel
  | 118 => by decide +kernel
  | 119 => by decide +kernel
  | 120 => by decide +kernel
  | 121 => by decide +kernel
  | 122 => by decide +kernel
  | 123 => by decide +kernel
  | 124 => by decide +kernel
  | 125 => by decide +kernel
  | 126 => by decide +kernel
  | 127 => by decide +kernel
  | 128 => by decide +kernel
  | 129 => by decide +kernel
  | 130 => by decide +kernel
  | 131 => by decide +kernel
  | 132 => by decide +kernel
  | 133 => by decide +kernel
  | 134 => by decide +kernel
  | 135 => by decide +kernel
  | 136 => by decide +kernel
  | 137 => by decide +kernel
  | 138 => by decide +kernel
  | 139 => by decide +kernel
  | 140 => by decide +kernel
  | 141 => by decide +kernel
  | 142 => by decide +kernel
  | 143 => by decide +kernel
  | 144 => by decide +kernel
  | 145 => by decide +kernel
  | 146 => by decide +kernel
  | 147 => by decide +kernel
  | 148 => by decide +kernel
  | 149 => by decide +kernel
  | 150 => by decide +kernel
  | 151 => by decide +kernel
  | 152 => by decide +kernel
  | 153 => by decide +kernel
  | 154 => by decide +kernel
  | 155 => by decide +kernel
  | 156 => by decide +kernel
  | 157 => by decide +kernel
  | 158 => by decide +kernel
  | 159 => by decide +kernel
  | 160 => by decide +kernel
  | 161 => by decide +kernel
  | 162 => by decide +kernel
  | 163 => by decide +kernel
  | 164 => by decide +kernel
  | 165 => by decide +kernel
  | 166 => by decide +kernel
  | 167 => by decide +kernel
  | 168 => by decide +kernel
  | 169 => by decide +kernel
  | 170 => by decide +kernel
  | 171 => by decide +kernel
  | 172 => by decide +kernel
  | 173 => by decide +kernel
  | _ + 174 => rfl
theorem zip_mem {α β : Type} : ∀ (l : List α) (r : List β), l.length = r.length → ∀ a ∈ l, ∃ b, (a, b) ∈ l.zip r
  | [], _, _, a, h => absurd h List.not_mem_nil
  | x :: l, [], hl, _, _ => by cases hl
  | x :: l, y :: r, hl, a, h => by
    rcases List.mem_cons.mp h with rfl | h
    · exact ⟨y, List.mem_cons_self⟩
    · obtain ⟨b, hb⟩ := zip_mem l r (Nat.succ.inj hl) a h
      exact ⟨b, List.mem_cons_of_mem _ hb⟩
theorem fnd_mem {pc : Nat} {q : Instr × Nat × Nat} : ∀ (l : List AEnt), fnd l pc = some q → (pc, q) ∈ l
  | [], h => by cases h
  | e :: t, h => by
    rw [fnd] at h
    cases hb : Nat.beq e.1 pc with
    | true =>
      rw [hb] at h
      cases h
      have := Nat.eq_of_beq_eq_true hb
      obtain ⟨a, b⟩ := e
      dsimp only at this
      subst this
      exact List.mem_cons_self
    | false => rw [hb] at h; exact List.mem_cons_of_mem _ (fnd_mem t h)
/-- what the check says at one place -/
theorem ck_at {mi pc nx ct : Nat} {op : Instr} (h : fnd (mCode mi) pc = some (op, nx, ct)) : ∃ a, decode (mByt mi) pc = .ok (a, nx - pc) ∧ lkOK mi pc op nx a = true := by
  obtain ⟨a, ha⟩ := zip_mem _ _ (ck_len mi) _ (fnd_mem _ h)
  have h1 := List.all_eq_true.mp (ck_all mi) _ ha
  simp only [ckE, Bool.and_eq_true, decide_eq_true_eq] at h1
  exact ⟨a, h1.1, h1.2⟩
theorem lkF_ok : lkF.all (fun e => decide (lw_tbl[e.2.2.2]? = some (.fieldLink (rN e.1) e.2.1 (cTT (e.2.2.1 / 100) (e.2.2.1 % 100)).1 (cTT (e.2.2.1 / 100) (e.2.2.1 % 100)).2.1 (cTT (e.2.2.1 / 100) (e.2.2.1 % 100)).2.2.1))) = true := by decide +kernel
theorem lkK_ok : lkK.all (fun e => decide (lw_tbl[e.2.2.2]? = some (.constant (rN e.1) e.2.1 (ic e.2.2.1)))) = true := by decide +kernel
theorem lkFK_ok : lkFK.all (fun e => decide (lw_tbl[e.2.2.2]? = some (.constantFloat (rN e.1) e.2.1 (UInt32.ofNat e.2.2.1)))) = true := by decide +kernel
theorem lkA_ok : lkA.all (fun e => decide (lw_tbl[e.2.2.2]? = some (.classLink (rN e.1) e.2.1 (rN (aCl e.2.2.1)))) && Nat.ble 13 e.2.2.1 && Nat.blt e.2.2.1 16) = true := by decide +kernel
theorem lkN_ok : lkN.all (fun e => decide (lw_tbl[e.2.2.2.1]? = some (.classLink (rN e.1) e.2.1 (rN e.2.2.1))) && decide (lw_tbl[e.2.2.2.2.1]? = some (.instantiable (rN e.2.2.1) (nFl e.2.2.1))) && decide (lw_tbl[e.2.2.2.2.2]? = some (.initialized (rN e.2.2.1)))) = true := by decide +kernel
theorem lkO_ok : lkO.all (fun e => decide (lw_tbl[e.2.2]? = some (.methodLink (rN e.1) e.2.1 Lib.objectInit))) = true := by decide +kernel
theorem lkC_ok : lkC.all (fun e => decide (lw_tbl[e.2.2]? = some (.methodLink (rN e.1) e.2.1 ⟨"[I", "clone", "()Ljava/lang/Object;"⟩))) = true := by decide +kernel
def sCl : String := "CoatedBridges"
def sNm (j : Nat) : String := match j with
  | 0 => "FIRST_SETTINGS"
  | 1 => "LOWEST_SETTINGS"
  | _ => "HIGHEST_SETTINGS"
theorem lkS_ok : lkS.all (fun e => decide (.fieldLinkNest (rN e.1) e.2.1 sCl (sNm e.2.2) "[I" sCl ∈ nstW) && Nat.blt e.2.2 3) = true := by decide +kernel
theorem lkB_ok : lkB.all (fun e => decide (lw_tbl[e.2.2]? = some (.methodLink (rN e.1) e.2.1 ⟨"java/lang/Float", "floatToRawIntBits", "(F)I"⟩))) = true := by decide +kernel
theorem lkX_ok : lkX.all (fun e => decide (lw_tbl[e.2.2]? = some (.classLink (rN e.1) e.2.1 "[I"))) = true := by decide +kernel
/-- the words of a call -/
def mWd (e : Nat × Nat × Nat × Nat × Nat × Nat × Nat × Nat × Nat) : Bool :=
  (match e.2.2.2.1 with
   | 0 => decide (lw_tbl[e.2.2.2.2.1]? = some (.methodLink (rN e.1) e.2.1 (mNam e.2.2.1))) && decide (lw_tbl[e.2.2.2.2.2.1]? = some (.instanceMethod (mNam e.2.2.1))) && decide (lw_tbl[e.2.2.2.2.2.2.1]? = some (.selects (mNam e.2.2.1).cls (mNam e.2.2.1) (mNam e.2.2.1)))
   | 1 => decide (lw_tbl[e.2.2.2.2.1]? = some (.methodLink (rN e.1) e.2.1 (mNam e.2.2.1))) && decide (lw_tbl[e.2.2.2.2.2.1]? = some (.static (mNam e.2.2.1)))
   | 2 => decide (lw_tbl[e.2.2.2.2.1]? = some (.methodLink (rN e.1) e.2.1 (mNam e.2.2.1))) && decide (lw_tbl[e.2.2.2.2.2.1]? = some (.instanceMethod (mNam e.2.2.1))) && decide ((mNam e.2.2.1).name = "<init>") && decide (mRet e.2.2.1 = none)
   | 3 => decide (.methodLinkNest (rN e.1) e.2.1 (mNam e.2.2.1) "CoatedBridges" ∈ nstW) && decide (lw_tbl[e.2.2.2.2.2.1]? = some (.instanceMethod (mNam e.2.2.1))) && decide (lw_tbl[e.2.2.2.2.2.2.1]? = some (.selects (mNam e.2.2.1).cls (mNam e.2.2.1) (mNam e.2.2.1)))
   | 4 => decide (.methodLinkNest (rN e.1) e.2.1 (mNam e.2.2.1) "CoatedBridges" ∈ nstW) && decide (lw_tbl[e.2.2.2.2.2.1]? = some (.static (mNam e.2.2.1)))
   | 5 => decide (.methodLinkNest (rN e.1) e.2.1 (mNam e.2.2.1) "CoatedBridges" ∈ nstW) && decide (lw_tbl[e.2.2.2.2.2.1]? = some (.instanceMethod (mNam e.2.2.1))) && decide ((mNam e.2.2.1).name = "<init>") && decide (mRet e.2.2.1 = none)
   | _ => false) && decide (lw_tbl[e.2.2.2.2.2.2.2.1]? = some (.code (mNam e.2.2.1) (mByt e.2.2.1) (mMax e.2.2.1) (mRet e.2.2.1))) && decide (lw_tbl[e.2.2.2.2.2.2.2.2]? = some (.initialized (mNam e.2.2.1).cls))
theorem lkM_0_ok : lkM_0.all mWd = true := by decide +kernel
theorem lkM_1_ok : lkM_1.all mWd = true := by decide +kernel
theorem lkM_2_ok : lkM_2.all mWd = true := by decide +kernel
theorem lkM_3_ok : lkM_3.all mWd = true := by decide +kernel
theorem lkM_4_ok : lkM_4.all mWd = true := by decide +kernel
theorem al_app {α : Type} {f : α → Bool} {a b : List α} (h1 : a.all f = true) (h2 : b.all f = true) : (a ++ b).all f = true := by rw [List.all_append, h1, h2]; rfl
theorem lkM_ok : lkM.all mWd = true := (al_app lkM_0_ok (al_app lkM_1_ok (al_app lkM_2_ok (al_app lkM_3_ok lkM_4_ok))))
theorem lkM_vc : lkM.all (fun e => match e.2.2.2.1 with | 0 => Nat.blt (mCls e.2.2.1) 7 | 3 => Nat.blt (mCls e.2.2.1) 7 | _ => true) = true := by decide +kernel
/-- what is plain of every method: its name, its parameters -/
def mPl (mi : Nat) : Bool := plainFor (mNam mi) && decide ((mNam mi).cls ≠ "java/lang/invoke/MethodHandle") && decide ((mNam mi).cls ≠ "java/lang/invoke/VarHandle") && decide ((mNam mi).cls = rN (mCls mi)) && Nat.ble (mPar mi) (mMax mi) && Nat.ble (mMax mi) 20 && (decide ((parseMethodDescriptor (mNam mi).desc).map (fun d => d.parameters.length) = some (mPar mi)) || decide ((parseMethodDescriptor (mNam mi).desc).map (fun d => d.parameters.length + 1) = some (mPar mi)))
theorem pl_all : (List.range 174).all mPl = true := by decide +kernel
theorem mPl_of {mi : Nat} (h : mi < 174) : mPl mi = true := List.all_eq_true.mp pl_all mi (List.mem_range.mpr h)
/-- instance methods and constructors have one parameter more than their descriptor -/
def mKd (e : Nat × Nat × Nat × Nat × Nat × Nat × Nat × Nat × Nat) : Bool := Nat.blt e.2.2.1 174 && (match e.2.2.2.1 with | 1 => decide ((parseMethodDescriptor (mNam e.2.2.1).desc).map (fun d => d.parameters.length) = some (mPar e.2.2.1)) | 4 => decide ((parseMethodDescriptor (mNam e.2.2.1).desc).map (fun d => d.parameters.length) = some (mPar e.2.2.1)) | _ => Nat.ble 1 (mPar e.2.2.1) && decide ((parseMethodDescriptor (mNam e.2.2.1).desc).map (fun d => d.parameters.length) = some (mPar e.2.2.1 - 1)))
theorem lkM_kd : lkM.all mKd = true := by decide +kernel
theorem uw0 : ∀ w ∈ u_ws (rN 0) (cTT 0) (nFl 0), w ∈ TB := fun w h => by
  have h1 : (u_ws (rN 0) (cTT 0) (nFl 0)).all (fun w => decide (w ∈ lw_tbl) && goodWord w) = true := by decide +kernel
  have h2 := List.all_eq_true.mp h1 w h
  simp only [Bool.and_eq_true, decide_eq_true_eq] at h2
  exact List.mem_filter.mpr ⟨h2.1, h2.2⟩
theorem uw1 : ∀ w ∈ u_ws (rN 1) (cTT 1) (nFl 1), w ∈ TB := fun w h => by
  have h1 : (u_ws (rN 1) (cTT 1) (nFl 1)).all (fun w => decide (w ∈ lw_tbl) && goodWord w) = true := by decide +kernel
  have h2 := List.all_eq_true.mp h1 w h
  simp only [Bool.and_eq_true, decide_eq_true_eq] at h2
  exact List.mem_filter.mpr ⟨h2.1, h2.2⟩
theorem uw2 : ∀ w ∈ u_ws (rN 2) (cTT 2) (nFl 2), w ∈ TB := fun w h => by
  have h1 : (u_ws (rN 2) (cTT 2) (nFl 2)).all (fun w => decide (w ∈ lw_tbl) && goodWord w) = true := by decide +kernel
  have h2 := List.all_eq_true.mp h1 w h
  simp only [Bool.and_eq_true, decide_eq_true_eq] at h2
  exact List.mem_filter.mpr ⟨h2.1, h2.2⟩
theorem uw3 : ∀ w ∈ u_ws (rN 3) (cTT 3) (nFl 3), w ∈ TB := fun w h => by
  have h1 : (u_ws (rN 3) (cTT 3) (nFl 3)).all (fun w => decide (w ∈ lw_tbl) && goodWord w) = true := by decide +kernel
  have h2 := List.all_eq_true.mp h1 w h
  simp only [Bool.and_eq_true, decide_eq_true_eq] at h2
  exact List.mem_filter.mpr ⟨h2.1, h2.2⟩
theorem uw4 : ∀ w ∈ u_ws (rN 4) (cTT 4) (nFl 4), w ∈ TB := fun w h => by
  have h1 : (u_ws (rN 4) (cTT 4) (nFl 4)).all (fun w => decide (w ∈ lw_tbl) && goodWord w) = true := by decide +kernel
  have h2 := List.all_eq_true.mp h1 w h
  simp only [Bool.and_eq_true, decide_eq_true_eq] at h2
  exact List.mem_filter.mpr ⟨h2.1, h2.2⟩
theorem uw5 : ∀ w ∈ u_ws (rN 5) (cTT 5) (nFl 5), w ∈ TB := fun w h => by
  have h1 : (u_ws (rN 5) (cTT 5) (nFl 5)).all (fun w => decide (w ∈ lw_tbl) && goodWord w) = true := by decide +kernel
  have h2 := List.all_eq_true.mp h1 w h
  simp only [Bool.and_eq_true, decide_eq_true_eq] at h2
  exact List.mem_filter.mpr ⟨h2.1, h2.2⟩
theorem uw6 : ∀ w ∈ u_ws (rN 6) (cTT 6) (nFl 6), w ∈ TB := fun w h => by
  have h1 : (u_ws (rN 6) (cTT 6) (nFl 6)).all (fun w => decide (w ∈ lw_tbl) && goodWord w) = true := by decide +kernel
  have h2 := List.all_eq_true.mp h1 w h
  simp only [Bool.and_eq_true, decide_eq_true_eq] at h2
  exact List.mem_filter.mpr ⟨h2.1, h2.2⟩
theorem uw_all {ci : Nat} (h : ci < 7) : ∀ w ∈ u_ws (rN ci) (cTT ci) (nFl ci), w ∈ TB := match ci, h with
  | 0, _ => uw0
  | 1, _ => uw1
  | 2, _ => uw2
  | 3, _ => uw3
  | 4, _ => uw4
  | 5, _ => uw5
  | 6, _ => uw6
  | k + 7, h => absurd h (by omega)
theorem ct_all {ci : Nat} (h : ci < 7) : ∀ k, k < nFl ci → parseFieldDescriptor (cTT ci k).2.2.1 = some (cTy ci k) := match ci, h with
  | 0, _ => tyX0_ok
  | 1, _ => tyX1_ok
  | 2, _ => tyX2_ok
  | 3, _ => tyX3_ok
  | 4, _ => tyX4_ok
  | 5, _ => tyX5_ok
  | 6, _ => tyX6_ok
  | k + 7, h => absurd h (by omega)
theorem cn_all {ci : Nat} (h : ci < 7) : ∀ a, a < nFl ci → ∀ b, b < nFl ci → a ≠ b → (cTT ci a).2.1 ≠ (cTT ci b).2.1 := match ci, h with
  | 0, _ => nmX0
  | 1, _ => nmX1
  | 2, _ => nmX2
  | 3, _ => nmX3
  | 4, _ => nmX4
  | 5, _ => nmX5
  | 6, _ => nmX6
  | k + 7, h => absurd h (by omega)
theorem cl_all {ci : Nat} (h : ci < 7) : clz[ci]? = some (rN ci, cTT ci, nFl ci) := match ci, h with
  | 0, _ => rfl
  | 1, _ => rfl
  | 2, _ => rfl
  | 3, _ => rfl
  | 4, _ => rfl
  | 5, _ => rfl
  | 6, _ => rfl
  | k + 7, h => absurd h (by omega)
/-- a field's type, by its number in fTy -/
def fTyB (ci k : Nat) : Bool := match fTy ci k with | 0 => decide (cTy ci k = .int) | 1 => decide (cTy ci k = .boolean) | 2 => decide (cTy ci k = .char) | 3 => (match cTy ci k with | .object _ => true | .array _ => true | _ => false) | _ => false
theorem fty_all {ci : Nat} (h : ci < 7) {k : Nat} (hk : k < nFl ci) : fTyB ci k = true := by
  have h1 : (List.range 7).all (fun ci => (List.range (nFl ci)).all (fun k => fTyB ci k)) = true := by decide +kernel
  exact List.all_eq_true.mp (List.all_eq_true.mp h1 ci (List.mem_range.mpr h)) k (List.mem_range.mpr hk)
theorem acl_lt (k : Nat) : aCl k < 7 := by unfold aCl; split <;> decide
