theorem ck_app {f : AEnt × Instr → Bool} {a b : List AEnt} {c d : List Instr} (hl : a.length = c.length) (h1 : (a.zip c).all f = true) (h2 : (b.zip d).all f = true) : ((a ++ b).zip (c ++ d)).all f = true := by
  rw [List.zip_append hl, List.all_append, h1, h2]; rfl
theorem ck18 : (pg18.zip ac18).all (ckE 18) = true := ck_app rfl ck18_0 (ck18_1)
theorem ck19 : (pg19.zip ac19).all (ckE 19) = true := ck_app rfl ck19_0 (ck_app rfl ck19_1 (ck19_2))
theorem ck23 : (pg23.zip ac23).all (ckE 23) = true := ck_app rfl ck23_0 (ck23_1)
theorem ck24 : (pg24.zip ac24).all (ckE 24) = true := ck_app rfl ck24_0 (ck24_1)
theorem ck29 : (pg29.zip ac29).all (ckE 29) = true := ck_app rfl ck29_0 (ck29_1)
theorem ck30 : (pg30.zip ac30).all (ckE 30) = true := ck_app rfl ck30_0 (ck30_1)
theorem ck32 : (pg32.zip ac32).all (ckE 32) = true := ck_app rfl ck32_0 (ck32_1)
theorem ck37 : (pg37.zip ac37).all (ckE 37) = true := ck_app rfl ck37_0 (ck37_1)
theorem ck52 : (pg52.zip ac52).all (ckE 52) = true := ck_app rfl ck52_0 (ck52_1)
theorem ck55 : (pg55.zip ac55).all (ckE 55) = true := ck_app rfl ck55_0 (ck55_1)
theorem ck65 : (pg65.zip ac65).all (ckE 65) = true := ck_app rfl ck65_0 (ck65_1)
theorem ck66 : (pg66.zip ac66).all (ckE 66) = true := ck_app rfl ck66_0 (ck66_1)
theorem ck76 : (pg76.zip ac76).all (ckE 76) = true := ck_app rfl ck76_0 (ck_app rfl ck76_1 (ck76_2))
theorem ck85 : (pg85.zip ac85).all (ckE 85) = true := ck_app rfl ck85_0 (ck85_1)
theorem ck87 : (pg87.zip ac87).all (ckE 87) = true := ck_app rfl ck87_0 (ck87_1)
theorem ck90 : (pg90.zip ac90).all (ckE 90) = true := ck_app rfl ck90_0 (ck90_1)
theorem ck91 : (pg91.zip ac91).all (ckE 91) = true := ck_app rfl ck91_0 (ck91_1)
theorem ck92 : (pg92.zip ac92).all (ckE 92) = true := ck_app rfl ck92_0 (ck92_1)
theorem ck97 : (pg97.zip ac97).all (ckE 97) = true := ck_app rfl ck97_0 (ck_app rfl ck97_1 (ck97_2))
theorem ck98 : (pg98.zip ac98).all (ckE 98) = true := ck_app rfl ck98_0 (ck_app rfl ck98_1 (ck_app rfl ck98_2 (ck_app rfl ck98_3 (ck_app rfl ck98_4 (ck_app rfl ck98_5 (ck_app rfl ck98_6 (ck_app rfl ck98_7 (ck_app rfl ck98_8 (ck_app rfl ck98_9 (ck98_10))))))))))
theorem ck99 : (pg99.zip ac99).all (ckE 99) = true := ck_app rfl ck99_0 (ck_app rfl ck99_1 (ck_app rfl ck99_2 (ck_app rfl ck99_3 (ck99_4))))
theorem ck101 : (pg101.zip ac101).all (ckE 101) = true := ck_app rfl ck101_0 (ck_app rfl ck101_1 (ck_app rfl ck101_2 (ck_app rfl ck101_3 (ck_app rfl ck101_4 (ck101_5)))))
theorem ck102 : (pg102.zip ac102).all (ckE 102) = true := ck_app rfl ck102_0 (ck_app rfl ck102_1 (ck_app rfl ck102_2 (ck102_3)))
theorem ck103 : (pg103.zip ac103).all (ckE 103) = true := ck_app rfl ck103_0 (ck_app rfl ck103_1 (ck_app rfl ck103_2 (ck_app rfl ck103_3 (ck103_4))))
theorem ck104 : (pg104.zip ac104).all (ckE 104) = true := ck_app rfl ck104_0 (ck_app rfl ck104_1 (ck_app rfl ck104_2 (ck_app rfl ck104_3 (ck_app rfl ck104_4 (ck_app rfl ck104_5 (ck_app rfl ck104_6 (ck_app rfl ck104_7 (ck_app rfl ck104_8 (ck_app rfl ck104_9 (ck104_10))))))))))
theorem ck105 : (pg105.zip ac105).all (ckE 105) = true := ck_app rfl ck105_0 (ck_app rfl ck105_1 (ck_app rfl ck105_2 (ck_app rfl ck105_3 (ck105_4))))
theorem ck_all (mi : Nat) : ((mCode mi).zip (mAct mi)).all (ckE mi) = true := match mi with
  | 0 => ck0
  | 1 => ck1
  | 2 => ck2
  | 3 => ck3
  | 4 => ck4
  | 5 => ck5
  | 6 => ck6
  | 7 => ck7
  | 8 => ck8
  | 9 => ck9
  | 10 => ck10
  | 11 => ck11
  | 12 => ck12
  | 13 => ck13
  | 14 => ck14
  | 15 => ck15
  | 16 => ck16
  | 17 => ck17
  | 18 => ck18
  | 19 => ck19
  | 20 => ck20
  | 21 => ck21
  | 22 => ck22
  | 23 => ck23
  | 24 => ck24
  | 25 => ck25
  | 26 => ck26
  | 27 => ck27
  | 28 => ck28
  | 29 => ck29
  | 30 => ck30
  | 31 => ck31
  | 32 => ck32
  | 33 => ck33
  | 34 => ck34
  | 35 => ck35
  | 36 => ck36
  | 37 => ck37
  | 38 => ck38
  | 39 => ck39
  | 40 => ck40
  | 41 => ck41
  | 42 => ck42
  | 43 => ck43
  | 44 => ck44
  | 45 => ck45
  | 46 => ck46
  | 47 => ck47
  | 48 => ck48
  | 49 => ck49
  | 50 => ck50
  | 51 => ck51
  | 52 => ck52
  | 53 => ck53
  | 54 => ck54
  | 55 => ck55
  | 56 => ck56
  | 57 => ck57
  | 58 => ck58
  | 59 => ck59
  | 60 => ck60
  | 61 => ck61
  | 62 => ck62
  | 63 => ck63
  | 64 => ck64
  | 65 => ck65
  | 66 => ck66
  | 67 => ck67
  | 68 => ck68
  | 69 => ck69
  | 70 => ck70
  | 71 => ck71
  | 72 => ck72
  | 73 => ck73
  | 74 => ck74
  | 75 => ck75
  | 76 => ck76
  | 77 => ck77
  | 78 => ck78
  | 79 => ck79
  | 80 => ck80
  | 81 => ck81
  | 82 => ck82
  | 83 => ck83
  | 84 => ck84
  | 85 => ck85
  | 86 => ck86
  | 87 => ck87
  | 88 => ck88
  | 89 => ck89
  | 90 => ck90
  | 91 => ck91
  | 92 => ck92
  | 93 => ck93
  | 94 => ck94
  | 95 => ck95
  | 96 => ck96
  | 97 => ck97
  | 98 => ck98
  | 99 => ck99
  | 100 => ck100
  | 101 => ck101
  | 102 => ck102
  | 103 => ck103
  | 104 => ck104
  | 105 => ck105
  | _ + 106 => rfl
theorem ck_len (mi : Nat) : (mCode mi).length = (mAct mi).length := match mi with
  | 0 => by decide +kernel
  | 1 => by decide +kernel
  | 2 => by decide +kernel
  | 3 => by decide +kernel
  | 4 => by decide +kernel
  | 5 => by decide +kernel
  | 6 => by decide +kernel
  | 7 => by decide +kernel
  | 8 => by decide +kernel
  | 9 => by decide +kernel
  | 10 => by decide +kernel
  | 11 => by decide +kernel
  | 12 => by decide +kernel
  | 13 => by decide +kernel
  | 14 => by decide +kernel
  | 15 => by decide +kernel
  | 16 => by decide +kernel
  | 17 => by decide +kernel
  | 18 => by decide +kernel
  | 19 => by decide +kernel
  | 20 => by decide +kernel
  | 21 => by decide +kernel
  | 22 => by decide +kernel
  | 23 => by decide +kernel
  | 24 => by decide +kernel
  | 25 => by decide +kernel
  | 26 => by decide +kernel
  | 27 => by decide +kernel
  | 28 => by decide +kernel
  | 29 => by decide +kernel
  | 30 => by decide +kernel
  | 31 => by decide +kernel
  | 32 => by decide +kernel
  | 33 => by decide +kernel
  | 34 => by decide +kernel
  | 35 => by decide +kernel
  | 36 => by decide +kernel
  | 37 => by decide +kernel
  | 38 => by decide +kernel
  | 39 => by decide +kernel
  | 40 => by decide +kernel
  | 41 => by decide +kernel
  | 42 => by decide +kernel
  | 43 => by decide +kernel
  | 44 => by decide +kernel
  | 45 => by decide +kernel
  | 46 => by decide +kernel
  | 47 => by decide +kernel
  | 48 => by decide +kernel
  | 49 => by decide +kernel
  | 50 => by decide +kernel
  | 51 => by decide +kernel
  | 52 => by decide +kernel
  | 53 => by decide +kernel
  | 54 => by decide +kernel
  | 55 => by decide +kernel
  | 56 => by decide +kernel
  | 57 => by decide +kernel
  | 58 => by decide +kernel
  | 59 => by decide +kernel
  | 60 => by decide +kernel
  | 61 => by decide +kernel
  | 62 => by decide +kernel
  | 63 => by decide +kernel
  | 64 => by decide +kernel
  | 65 => by decide +kernel
  | 66 => by decide +kernel
  | 67 => by decide +kernel
  | 68 => by decide +kernel
  | 69 => by decide +kernel
  | 70 => by decide +kernel
  | 71 => by decide +kernel
  | 72 => by decide +kernel
  | 73 => by decide +kernel
  | 74 => by decide +kernel
  | 75 => by decide +kernel
  | 76 => by decide +kernel
  | 77 => by decide +kernel
  | 78 => by decide +kernel
  | 79 => by decide +kernel
  | 80 => by decide +kernel
  | 81 => by decide +kernel
  | 82 => by decide +kernel
  | 83 => by decide +kernel
  | 84 => by decide +kernel
  | 85 => by decide +kernel
  | 86 => by decide +kernel
  | 87 => by decide +kernel
  | 88 => by decide +kernel
  | 89 => by decide +kernel
  | 90 => by decide +kernel
  | 91 => by decide +kernel
  | 92 => by decide +kernel
  | 93 => by decide +kernel
  | 94 => by decide +kernel
  | 95 => by decide +kernel
  | 96 => by decide +kernel
  | 97 => by decide +kernel
  | 98 => by decide +kernel
  | 99 => by decide +kernel
  | 100 => by decide +kernel
  | 101 => by decide +kernel
  | 102 => by decide +kernel
  | 103 => by decide +kernel
  | 104 => by decide +kernel
  | 105 => by decide +kernel
  | _ + 106 => rfl
theorem zip_mem {α β : Type} : ∀ (l : List α) (r : List β), l.length = r.length → ∀ a ∈ l, ∃ b, (a, b) ∈ l.zip r
  | [], _, _, a, h => absurd h List.not_mem_nil
  | x :: l, [], hl, _, _ => by cases hl
  | x :: l, y :: r, hl, a, h => by
    rcases List.mem_cons.mp h with rfl | h
    · exact ⟨y, List.mem_cons_self⟩
    · obtain ⟨b, hb⟩ := zip_mem l r (Nat.succ.inj hl) a h
      exact ⟨b, List.mem_cons_of_mem _ hb⟩
theorem fnd_mem {pc : Nat} {q : Instr × Nat × Nat} : ∀ (l : List AEnt), fnd l pc = some q → (pc, q) ∈ l
  | [], h => by cases h
  | e :: t, h => by
    rw [fnd] at h
    cases hb : Nat.beq e.1 pc with
    | true =>
      rw [hb] at h
      cases h
      have := Nat.eq_of_beq_eq_true hb
      obtain ⟨a, b⟩ := e
      dsimp only at this
      subst this
      exact List.mem_cons_self
    | false => rw [hb] at h; exact List.mem_cons_of_mem _ (fnd_mem t h)
/-- what the check says at one place -/
theorem ck_at {mi pc nx ct : Nat} {op : Instr} (h : fnd (mCode mi) pc = some (op, nx, ct)) : ∃ a, decode (mByt mi) pc = .ok (a, nx - pc) ∧ lkOK mi pc op nx a = true := by
  obtain ⟨a, ha⟩ := zip_mem _ _ (ck_len mi) _ (fnd_mem _ h)
  have h1 := List.all_eq_true.mp (ck_all mi) _ ha
  simp only [ckE, Bool.and_eq_true, decide_eq_true_eq] at h1
  exact ⟨a, h1.1, h1.2⟩
theorem lkF_ok : lkF.all (fun e => decide (lw_tbl[e.2.2.2]? = some (.fieldLink (rN e.1) e.2.1 (cTT (e.2.2.1 / 100) (e.2.2.1 % 100)).1 (cTT (e.2.2.1 / 100) (e.2.2.1 % 100)).2.1 (cTT (e.2.2.1 / 100) (e.2.2.1 % 100)).2.2.1))) = true := by decide +kernel
theorem lkK_ok : lkK.all (fun e => decide (lw_tbl[e.2.2.2]? = some (.constant (rN e.1) e.2.1 (ic e.2.2.1)))) = true := by decide +kernel
theorem lkLK_ok : lkLK.all (fun e => decide (lw_tbl[e.2.2.2]? = some (.constantLong (rN e.1) e.2.1 (Int64.ofNat e.2.2.1)))) = true := by decide +kernel
theorem lkFK_ok : lkFK.all (fun e => decide (lw_tbl[e.2.2.2]? = some (.constantFloat (rN e.1) e.2.1 (UInt32.ofNat e.2.2.1)))) = true := by decide +kernel
theorem lkA_ok : lkA.all (fun e => decide (lw_tbl[e.2.2.2]? = some (.classLink (rN e.1) e.2.1 (rN (aCl e.2.2.1)))) && Nat.ble 13 e.2.2.1 && Nat.blt e.2.2.1 16) = true := by decide +kernel
theorem lkN_ok : lkN.all (fun e => decide (lw_tbl[e.2.2.2.1]? = some (.classLink (rN e.1) e.2.1 (rN e.2.2.1))) && decide (lw_tbl[e.2.2.2.2.1]? = some (.instantiable (rN e.2.2.1) (nFl e.2.2.1))) && decide (lw_tbl[e.2.2.2.2.2]? = some (.initialized (rN e.2.2.1)))) = true := by decide +kernel
theorem lkO_ok : lkO.all (fun e => decide (lw_tbl[e.2.2]? = some (.methodLink (rN e.1) e.2.1 Lib.objectInit))) = true := by decide +kernel
theorem lkC_ok : lkC.all (fun e => decide (lw_tbl[e.2.2]? = some (.methodLink (rN e.1) e.2.1 ⟨"[I", "clone", "()Ljava/lang/Object;"⟩))) = true := by decide +kernel
def sCl : String := "CoatedBridges"
def sNm (j : Nat) : String := match j with
  | 0 => "FIRST_SETTINGS"
  | 1 => "LOWEST_SETTINGS"
  | _ => "HIGHEST_SETTINGS"
theorem lkS_ok : lkS.all (fun e => decide (.fieldLinkNest (rN e.1) e.2.1 sCl (sNm e.2.2) "[I" sCl ∈ nstW) && Nat.blt e.2.2 3) = true := by decide +kernel
theorem lkX_ok : lkX.all (fun e => decide (lw_tbl[e.2.2]? = some (.classLink (rN e.1) e.2.1 "[I"))) = true := by decide +kernel
/-- the bytes of two codes are the same -/
def lbq : List UInt8 → List UInt8 → Bool
  | [], [] => true
  | a :: x, b :: y => match Nat.beq a.toNat b.toNat with
    | true => lbq x y
    | false => false
  | _, _ => false
theorem lbq_ok : ∀ (x y : List UInt8), lbq x y = true → x = y
  | [], [], _ => rfl
  | [], _ :: _, h => by cases h
  | _ :: _, [], h => by cases h
  | a :: x, b :: y, h => by
    rw [lbq] at h
    split at h
    · rename_i h1
      rw [UInt8.toNat_inj.mp (Nat.eq_of_beq_eq_true h1), lbq_ok x y h]
    · cases h
def cdq (k t : Nat) : Bool := match lw_tbl[k]? with
  | some (.code n b m r) => decide (n = mNam t) && lbq b.data.toList (mByt t).data.toList && Nat.beq m (mMax t) && decide (r = mRet t)
  | _ => false
theorem cdq_ok {k t : Nat} (h : cdq k t = true) : lw_tbl[k]? = some (.code (mNam t) (mByt t) (mMax t) (mRet t)) := by
  unfold cdq at h
  split at h
  · rename_i n b m r hk
    simp only [Bool.and_eq_true, decide_eq_true_eq] at h
    obtain ⟨⟨⟨h1, h2⟩, h3⟩, h4⟩ := h
    have h2 : b.data = (mByt t).data := Array.toList_inj.mp (lbq_ok _ _ h2)
    have h2 : b = mByt t := by
      cases b
      cases hb : mByt t
      rw [hb] at h2
      exact congrArg ByteArray.mk h2
    rw [hk, h1, h2, Nat.eq_of_beq_eq_true h3, h4]
  · cases h
/-- the words of a call -/
def mWd (e : Nat × Nat × Nat × Nat × Nat × Nat × Nat × Nat × Nat) : Bool :=
  (match e.2.2.2.1 with
   | 0 => decide (lw_tbl[e.2.2.2.2.1]? = some (.methodLink (rN e.1) e.2.1 (mNam e.2.2.1))) && decide (lw_tbl[e.2.2.2.2.2.1]? = some (.instanceMethod (mNam e.2.2.1))) && decide (lw_tbl[e.2.2.2.2.2.2.1]? = some (.selects (mNam e.2.2.1).cls (mNam e.2.2.1) (mNam e.2.2.1)))
   | 1 => decide (lw_tbl[e.2.2.2.2.1]? = some (.methodLink (rN e.1) e.2.1 (mNam e.2.2.1))) && decide (lw_tbl[e.2.2.2.2.2.1]? = some (.static (mNam e.2.2.1)))
   | 2 => decide (lw_tbl[e.2.2.2.2.1]? = some (.methodLink (rN e.1) e.2.1 (mNam e.2.2.1))) && decide (lw_tbl[e.2.2.2.2.2.1]? = some (.instanceMethod (mNam e.2.2.1))) && decide ((mNam e.2.2.1).name = "<init>") && decide (mRet e.2.2.1 = none)
   | 3 => decide (.methodLinkNest (rN e.1) e.2.1 (mNam e.2.2.1) "CoatedBridges" ∈ nstW) && decide (lw_tbl[e.2.2.2.2.2.1]? = some (.instanceMethod (mNam e.2.2.1))) && decide (lw_tbl[e.2.2.2.2.2.2.1]? = some (.selects (mNam e.2.2.1).cls (mNam e.2.2.1) (mNam e.2.2.1)))
   | 4 => decide (.methodLinkNest (rN e.1) e.2.1 (mNam e.2.2.1) "CoatedBridges" ∈ nstW) && decide (lw_tbl[e.2.2.2.2.2.1]? = some (.static (mNam e.2.2.1)))
   | 5 => decide (.methodLinkNest (rN e.1) e.2.1 (mNam e.2.2.1) "CoatedBridges" ∈ nstW) && decide (lw_tbl[e.2.2.2.2.2.1]? = some (.instanceMethod (mNam e.2.2.1))) && decide ((mNam e.2.2.1).name = "<init>") && decide (mRet e.2.2.1 = none)
   | _ => false) && cdq e.2.2.2.2.2.2.2.1 e.2.2.1 && decide (lw_tbl[e.2.2.2.2.2.2.2.2]? = some (.initialized (mNam e.2.2.1).cls))
theorem lkM_0_ok : lkM_0.all mWd = true := by decide +kernel
theorem lkM_1_ok : lkM_1.all mWd = true := by decide +kernel
theorem lkM_2_ok : lkM_2.all mWd = true := by decide +kernel
theorem al_app {α : Type} {f : α → Bool} {a b : List α} (h1 : a.all f = true) (h2 : b.all f = true) : (a ++ b).all f = true := by rw [List.all_append, h1, h2]; rfl
theorem lkM_ok : lkM.all mWd = true := (al_app lkM_0_ok (al_app lkM_1_ok lkM_2_ok))
theorem lkM_vc : lkM.all (fun e => match e.2.2.2.1 with | 0 => Nat.blt (mCls e.2.2.1) 6 | 3 => Nat.blt (mCls e.2.2.1) 6 | _ => true) = true := by decide +kernel
/-- what is plain of every method: its name, its parameters -/
def mPl (mi : Nat) : Bool := plainFor (mNam mi) && decide ((mNam mi).cls ≠ "java/lang/invoke/MethodHandle") && decide ((mNam mi).cls ≠ "java/lang/invoke/VarHandle") && decide ((mNam mi).cls = rN (mCls mi)) && Nat.ble (mPar mi) (mMax mi) && Nat.ble (mMax mi) 20 && (decide ((parseMethodDescriptor (mNam mi).desc).map (fun d => d.parameters.length) = some (mPar mi)) || decide ((parseMethodDescriptor (mNam mi).desc).map (fun d => d.parameters.length + 1) = some (mPar mi)))
theorem pl_all : (List.range 106).all mPl = true := by decide +kernel
theorem mPl_of {mi : Nat} (h : mi < 106) : mPl mi = true := List.all_eq_true.mp pl_all mi (List.mem_range.mpr h)
/-- instance methods and constructors have one parameter more than their descriptor -/
def mKd (e : Nat × Nat × Nat × Nat × Nat × Nat × Nat × Nat × Nat) : Bool := Nat.blt e.2.2.1 106 && (match e.2.2.2.1 with | 1 => decide ((parseMethodDescriptor (mNam e.2.2.1).desc).map (fun d => d.parameters.length) = some (mPar e.2.2.1)) | 4 => decide ((parseMethodDescriptor (mNam e.2.2.1).desc).map (fun d => d.parameters.length) = some (mPar e.2.2.1)) | _ => Nat.ble 1 (mPar e.2.2.1) && decide ((parseMethodDescriptor (mNam e.2.2.1).desc).map (fun d => d.parameters.length) = some (mPar e.2.2.1 - 1)))
theorem lkM_kd : lkM.all mKd = true := by decide +kernel
theorem uw0 : ∀ w ∈ u_ws (rN 0) (cTT 0) (nFl 0), w ∈ TB := fun w h => by
  have h1 : (u_ws (rN 0) (cTT 0) (nFl 0)).all (fun w => decide (w ∈ lw_tbl) && goodWord w) = true := by decide +kernel
  have h2 := List.all_eq_true.mp h1 w h
  simp only [Bool.and_eq_true, decide_eq_true_eq] at h2
  exact List.mem_filter.mpr ⟨h2.1, h2.2⟩
theorem uw1 : ∀ w ∈ u_ws (rN 1) (cTT 1) (nFl 1), w ∈ TB := fun w h => by
  have h1 : (u_ws (rN 1) (cTT 1) (nFl 1)).all (fun w => decide (w ∈ lw_tbl) && goodWord w) = true := by decide +kernel
  have h2 := List.all_eq_true.mp h1 w h
  simp only [Bool.and_eq_true, decide_eq_true_eq] at h2
  exact List.mem_filter.mpr ⟨h2.1, h2.2⟩
theorem uw2 : ∀ w ∈ u_ws (rN 2) (cTT 2) (nFl 2), w ∈ TB := fun w h => by
  have h1 : (u_ws (rN 2) (cTT 2) (nFl 2)).all (fun w => decide (w ∈ lw_tbl) && goodWord w) = true := by decide +kernel
  have h2 := List.all_eq_true.mp h1 w h
  simp only [Bool.and_eq_true, decide_eq_true_eq] at h2
  exact List.mem_filter.mpr ⟨h2.1, h2.2⟩
theorem uw3 : ∀ w ∈ u_ws (rN 3) (cTT 3) (nFl 3), w ∈ TB := fun w h => by
  have h1 : (u_ws (rN 3) (cTT 3) (nFl 3)).all (fun w => decide (w ∈ lw_tbl) && goodWord w) = true := by decide +kernel
  have h2 := List.all_eq_true.mp h1 w h
  simp only [Bool.and_eq_true, decide_eq_true_eq] at h2
  exact List.mem_filter.mpr ⟨h2.1, h2.2⟩
theorem uw4 : ∀ w ∈ u_ws (rN 4) (cTT 4) (nFl 4), w ∈ TB := fun w h => by
  have h1 : (u_ws (rN 4) (cTT 4) (nFl 4)).all (fun w => decide (w ∈ lw_tbl) && goodWord w) = true := by decide +kernel
  have h2 := List.all_eq_true.mp h1 w h
  simp only [Bool.and_eq_true, decide_eq_true_eq] at h2
  exact List.mem_filter.mpr ⟨h2.1, h2.2⟩
theorem uw5 : ∀ w ∈ u_ws (rN 5) (cTT 5) (nFl 5), w ∈ TB := fun w h => by
  have h1 : (u_ws (rN 5) (cTT 5) (nFl 5)).all (fun w => decide (w ∈ lw_tbl) && goodWord w) = true := by decide +kernel
  have h2 := List.all_eq_true.mp h1 w h
  simp only [Bool.and_eq_true, decide_eq_true_eq] at h2
  exact List.mem_filter.mpr ⟨h2.1, h2.2⟩
theorem uw_all {ci : Nat} (h : ci < 6) : ∀ w ∈ u_ws (rN ci) (cTT ci) (nFl ci), w ∈ TB := match ci, h with
  | 0, _ => uw0
  | 1, _ => uw1
  | 2, _ => uw2
  | 3, _ => uw3
  | 4, _ => uw4
  | 5, _ => uw5
  | k + 6, h => absurd h (by omega)
theorem ct_all {ci : Nat} (h : ci < 6) : ∀ k, k < nFl ci → parseFieldDescriptor (cTT ci k).2.2.1 = some (cTy ci k) := match ci, h with
  | 0, _ => tyX0_ok
  | 1, _ => tyX1_ok
  | 2, _ => tyX2_ok
  | 3, _ => tyX3_ok
  | 4, _ => tyX4_ok
  | 5, _ => tyX5_ok
  | k + 6, h => absurd h (by omega)
theorem cn_all {ci : Nat} (h : ci < 6) : ∀ a, a < nFl ci → ∀ b, b < nFl ci → a ≠ b → (cTT ci a).2.1 ≠ (cTT ci b).2.1 := match ci, h with
  | 0, _ => nmX0
  | 1, _ => nmX1
  | 2, _ => nmX2
  | 3, _ => nmX3
  | 4, _ => nmX4
  | 5, _ => nmX5
  | k + 6, h => absurd h (by omega)
theorem cl_all {ci : Nat} (h : ci < 6) : clz[ci]? = some (rN ci, cTT ci, nFl ci) := match ci, h with
  | 0, _ => rfl
  | 1, _ => rfl
  | 2, _ => rfl
  | 3, _ => rfl
  | 4, _ => rfl
  | 5, _ => rfl
  | k + 6, h => absurd h (by omega)
/-- a field's type, by its number in fTy -/
def fTyB (ci k : Nat) : Bool := match fTy ci k with | 0 => decide (cTy ci k = .int) | 1 => decide (cTy ci k = .boolean) | 2 => decide (cTy ci k = .char) | 3 => (match cTy ci k with | .object _ => true | .array _ => true | _ => false) | _ => false
theorem fty_all {ci : Nat} (h : ci < 6) {k : Nat} (hk : k < nFl ci) : fTyB ci k = true := by
  have h1 : (List.range 6).all (fun ci => (List.range (nFl ci)).all (fun k => fTyB ci k)) = true := by decide +kernel
  exact List.all_eq_true.mp (List.all_eq_true.mp h1 ci (List.mem_range.mpr h)) k (List.mem_range.mpr hk)
theorem acl_lt (k : Nat) : aCl k < 6 := by unfold aCl; split <;> decide
