section
-- ===== PART A: goes FIRST, ahead of the names: the tables' words, and 'selects' of the private methods out of them =====
/-- a private method of a class that the tables say can be made, by its rows of tables_1 -/
def lw_okq (q : MethodName × Nat) : Prop := (q.1.cls ≠ "java/lang/invoke/MethodHandle" ∧ q.1.cls ≠ "java/lang/invoke/VarHandle") ∧ Cond.instantiable q.1.cls q.2 ∈ tables_1 ∧ Cond.privateMethod q.1 ∈ tables_1 ∧ Cond.instanceMethod q.1 ∈ tables_1
theorem lw_p0 : lw_okq (⟨"CoatedBridges", "startTrial", "()LCoatedBridges$State;"⟩, 9) := ⟨⟨by decide +kernel, by decide +kernel⟩, List.mem_of_getElem? (i := 12) (by decide +kernel), List.mem_of_getElem? (i := 238) (by decide +kernel), List.mem_of_getElem? (i := 239) (by decide +kernel)⟩
theorem lw_p1 : lw_okq (⟨"CoatedBridges", "settle", "(I)I"⟩, 9) := ⟨⟨by decide +kernel, by decide +kernel⟩, List.mem_of_getElem? (i := 12) (by decide +kernel), List.mem_of_getElem? (i := 268) (by decide +kernel), List.mem_of_getElem? (i := 269) (by decide +kernel)⟩
theorem lw_p2 : lw_okq (⟨"CoatedBridges", "dropOldest", "()V"⟩, 9) := ⟨⟨by decide +kernel, by decide +kernel⟩, List.mem_of_getElem? (i := 12) (by decide +kernel), List.mem_of_getElem? (i := 272) (by decide +kernel), List.mem_of_getElem? (i := 273) (by decide +kernel)⟩
theorem lw_p3 : lw_okq (⟨"CoatedBridges$State", "oneBridgeOn", "(II)I"⟩, 11) := ⟨⟨by decide +kernel, by decide +kernel⟩, List.mem_of_getElem? (i := 20) (by decide +kernel), List.mem_of_getElem? (i := 333) (by decide +kernel), List.mem_of_getElem? (i := 334) (by decide +kernel)⟩
theorem lw_p4 : lw_okq (⟨"CoatedBridges$State", "receive", "(I)V"⟩, 11) := ⟨⟨by decide +kernel, by decide +kernel⟩, List.mem_of_getElem? (i := 20) (by decide +kernel), List.mem_of_getElem? (i := 363) (by decide +kernel), List.mem_of_getElem? (i := 364) (by decide +kernel)⟩
theorem lw_p5 : lw_okq (⟨"CoatedBridges$State", "paintBridges", "()V"⟩, 11) := ⟨⟨by decide +kernel, by decide +kernel⟩, List.mem_of_getElem? (i := 20) (by decide +kernel), List.mem_of_getElem? (i := 379) (by decide +kernel), List.mem_of_getElem? (i := 380) (by decide +kernel)⟩
theorem lw_p6 : lw_okq (⟨"CoatedBridges$State", "wearBridges", "(I)V"⟩, 11) := ⟨⟨by decide +kernel, by decide +kernel⟩, List.mem_of_getElem? (i := 20) (by decide +kernel), List.mem_of_getElem? (i := 391) (by decide +kernel), List.mem_of_getElem? (i := 392) (by decide +kernel)⟩
theorem lw_p7 : lw_okq (⟨"CoatedBridges$State", "letIslandsWait", "()I"⟩, 11) := ⟨⟨by decide +kernel, by decide +kernel⟩, List.mem_of_getElem? (i := 20) (by decide +kernel), List.mem_of_getElem? (i := 403) (by decide +kernel), List.mem_of_getElem? (i := 404) (by decide +kernel)⟩
theorem lw_p8 : lw_okq (⟨"CoatedBridges$State", "payFerry", "(LCoatedBridges$Island;)V"⟩, 11) := ⟨⟨by decide +kernel, by decide +kernel⟩, List.mem_of_getElem? (i := 20) (by decide +kernel), List.mem_of_getElem? (i := 407) (by decide +kernel), List.mem_of_getElem? (i := 408) (by decide +kernel)⟩
theorem lw_p9 : lw_okq (⟨"CoatedBridges$Book", "dropFirst", "()V"⟩, 3) := ⟨⟨by decide +kernel, by decide +kernel⟩, List.mem_of_getElem? (i := 39) (by decide +kernel), List.mem_of_getElem? (i := 420) (by decide +kernel), List.mem_of_getElem? (i := 421) (by decide +kernel)⟩
theorem lw_p10 : lw_okq (⟨"CoatedBridges", "obeyText", "(LCoatedBridges$State;)Z"⟩, 9) := ⟨⟨by decide +kernel, by decide +kernel⟩, List.mem_of_getElem? (i := 12) (by decide +kernel), List.mem_of_getElem? (i := 580) (by decide +kernel), List.mem_of_getElem? (i := 581) (by decide +kernel)⟩
theorem lw_p11 : lw_okq (⟨"CoatedBridges$Text", "take", "(C)Z"⟩, 5) := ⟨⟨by decide +kernel, by decide +kernel⟩, List.mem_of_getElem? (i := 179) (by decide +kernel), List.mem_of_getElem? (i := 591) (by decide +kernel), List.mem_of_getElem? (i := 592) (by decide +kernel)⟩
theorem lw_p12 : lw_okq (⟨"CoatedBridges$Text", "readNumber", "(I)Z"⟩, 5) := ⟨⟨by decide +kernel, by decide +kernel⟩, List.mem_of_getElem? (i := 179) (by decide +kernel), List.mem_of_getElem? (i := 595) (by decide +kernel), List.mem_of_getElem? (i := 596) (by decide +kernel)⟩
theorem lw_p13 : lw_okq (⟨"CoatedBridges$Text", "atDigit", "()Z"⟩, 5) := ⟨⟨by decide +kernel, by decide +kernel⟩, List.mem_of_getElem? (i := 179) (by decide +kernel), List.mem_of_getElem? (i := 599) (by decide +kernel), List.mem_of_getElem? (i := 600) (by decide +kernel)⟩
theorem lw_p14 : lw_okq (⟨"CoatedBridges", "noteFault", "(III)V"⟩, 9) := ⟨⟨by decide +kernel, by decide +kernel⟩, List.mem_of_getElem? (i := 12) (by decide +kernel), List.mem_of_getElem? (i := 603) (by decide +kernel), List.mem_of_getElem? (i := 604) (by decide +kernel)⟩
theorem lw_p15 : lw_okq (⟨"CoatedBridges", "obeyOrder", "(LCoatedBridges$State;)I"⟩, 9) := ⟨⟨by decide +kernel, by decide +kernel⟩, List.mem_of_getElem? (i := 12) (by decide +kernel), List.mem_of_getElem? (i := 607) (by decide +kernel), List.mem_of_getElem? (i := 608) (by decide +kernel)⟩
def lw_privs_1 : List (MethodName × Nat) := [(⟨"CoatedBridges", "startTrial", "()LCoatedBridges$State;"⟩, 9), (⟨"CoatedBridges", "settle", "(I)I"⟩, 9), (⟨"CoatedBridges", "dropOldest", "()V"⟩, 9), (⟨"CoatedBridges$State", "oneBridgeOn", "(II)I"⟩, 11), (⟨"CoatedBridges$State", "receive", "(I)V"⟩, 11), (⟨"CoatedBridges$State", "paintBridges", "()V"⟩, 11), (⟨"CoatedBridges$State", "wearBridges", "(I)V"⟩, 11), (⟨"CoatedBridges$State", "letIslandsWait", "()I"⟩, 11), (⟨"CoatedBridges$State", "payFerry", "(LCoatedBridges$Island;)V"⟩, 11), (⟨"CoatedBridges$Book", "dropFirst", "()V"⟩, 3), (⟨"CoatedBridges", "obeyText", "(LCoatedBridges$State;)Z"⟩, 9), (⟨"CoatedBridges$Text", "take", "(C)Z"⟩, 5), (⟨"CoatedBridges$Text", "readNumber", "(I)Z"⟩, 5), (⟨"CoatedBridges$Text", "atDigit", "()Z"⟩, 5), (⟨"CoatedBridges", "noteFault", "(III)V"⟩, 9), (⟨"CoatedBridges", "obeyOrder", "(LCoatedBridges$State;)I"⟩, 9)]
theorem lw_r1 : ∀ q ∈ lw_privs_1, lw_okq q := List.forall_mem_cons.mpr ⟨lw_p0, List.forall_mem_cons.mpr ⟨lw_p1, List.forall_mem_cons.mpr ⟨lw_p2, List.forall_mem_cons.mpr ⟨lw_p3, List.forall_mem_cons.mpr ⟨lw_p4, List.forall_mem_cons.mpr ⟨lw_p5, List.forall_mem_cons.mpr ⟨lw_p6, List.forall_mem_cons.mpr ⟨lw_p7, List.forall_mem_cons.mpr ⟨lw_p8, List.forall_mem_cons.mpr ⟨lw_p9, List.forall_mem_cons.mpr ⟨lw_p10, List.forall_mem_cons.mpr ⟨lw_p11, List.forall_mem_cons.mpr ⟨lw_p12, List.forall_mem_cons.mpr ⟨lw_p13, List.forall_mem_cons.mpr ⟨lw_p14, List.forall_mem_cons.mpr ⟨lw_p15, fun _ h => absurd h List.not_mem_nil⟩⟩⟩⟩⟩⟩⟩⟩⟩⟩⟩⟩⟩⟩⟩⟩
theorem lw_p16 : lw_okq (⟨"CoatedBridgesModel", "errorIsland", "(I)I"⟩, 15) := ⟨⟨by decide +kernel, by decide +kernel⟩, List.mem_of_getElem? (i := 615) (by decide +kernel), List.mem_of_getElem? (i := 672) (by decide +kernel), List.mem_of_getElem? (i := 673) (by decide +kernel)⟩
theorem lw_p17 : lw_okq (⟨"CoatedBridgesModel", "records", "()V"⟩, 15) := ⟨⟨by decide +kernel, by decide +kernel⟩, List.mem_of_getElem? (i := 615) (by decide +kernel), List.mem_of_getElem? (i := 681) (by decide +kernel), List.mem_of_getElem? (i := 682) (by decide +kernel)⟩
theorem lw_p18 : lw_okq (⟨"CoatedBridgesModel", "goIsland", "(I)I"⟩, 15) := ⟨⟨by decide +kernel, by decide +kernel⟩, List.mem_of_getElem? (i := 615) (by decide +kernel), List.mem_of_getElem? (i := 688) (by decide +kernel), List.mem_of_getElem? (i := 689) (by decide +kernel)⟩
theorem lw_p19 : lw_okq (⟨"CoatedBridgesModel", "laysIsland", "(III)V"⟩, 15) := ⟨⟨by decide +kernel, by decide +kernel⟩, List.mem_of_getElem? (i := 615) (by decide +kernel), List.mem_of_getElem? (i := 692) (by decide +kernel), List.mem_of_getElem? (i := 693) (by decide +kernel)⟩
theorem lw_p20 : lw_okq (⟨"CoatedBridgesModel", "errorBridge", "(III)I"⟩, 15) := ⟨⟨by decide +kernel, by decide +kernel⟩, List.mem_of_getElem? (i := 615) (by decide +kernel), List.mem_of_getElem? (i := 700) (by decide +kernel), List.mem_of_getElem? (i := 701) (by decide +kernel)⟩
theorem lw_p21 : lw_okq (⟨"CoatedBridgesModel", "isIsland", "(I)Z"⟩, 15) := ⟨⟨by decide +kernel, by decide +kernel⟩, List.mem_of_getElem? (i := 615) (by decide +kernel), List.mem_of_getElem? (i := 704) (by decide +kernel), List.mem_of_getElem? (i := 705) (by decide +kernel)⟩
theorem lw_p22 : lw_okq (⟨"CoatedBridgesModel", "goBridge", "(III)I"⟩, 15) := ⟨⟨by decide +kernel, by decide +kernel⟩, List.mem_of_getElem? (i := 615) (by decide +kernel), List.mem_of_getElem? (i := 708) (by decide +kernel), List.mem_of_getElem? (i := 709) (by decide +kernel)⟩
theorem lw_p23 : lw_okq (⟨"CoatedBridgesModel", "lays", "(III)V"⟩, 15) := ⟨⟨by decide +kernel, by decide +kernel⟩, List.mem_of_getElem? (i := 615) (by decide +kernel), List.mem_of_getElem? (i := 712) (by decide +kernel), List.mem_of_getElem? (i := 713) (by decide +kernel)⟩
theorem lw_p24 : lw_okq (⟨"CoatedBridgesModel", "errorSend", "(II)I"⟩, 15) := ⟨⟨by decide +kernel, by decide +kernel⟩, List.mem_of_getElem? (i := 615) (by decide +kernel), List.mem_of_getElem? (i := 720) (by decide +kernel), List.mem_of_getElem? (i := 721) (by decide +kernel)⟩
theorem lw_p25 : lw_okq (⟨"CoatedBridgesModel", "isBridge", "(I)Z"⟩, 15) := ⟨⟨by decide +kernel, by decide +kernel⟩, List.mem_of_getElem? (i := 615) (by decide +kernel), List.mem_of_getElem? (i := 724) (by decide +kernel), List.mem_of_getElem? (i := 725) (by decide +kernel)⟩
theorem lw_p26 : lw_okq (⟨"CoatedBridgesModel", "reasonOf", "(I)I"⟩, 15) := ⟨⟨by decide +kernel, by decide +kernel⟩, List.mem_of_getElem? (i := 615) (by decide +kernel), List.mem_of_getElem? (i := 728) (by decide +kernel), List.mem_of_getElem? (i := 729) (by decide +kernel)⟩
theorem lw_p27 : lw_okq (⟨"CoatedBridgesModel", "isPainted", "(I)Z"⟩, 15) := ⟨⟨by decide +kernel, by decide +kernel⟩, List.mem_of_getElem? (i := 615) (by decide +kernel), List.mem_of_getElem? (i := 732) (by decide +kernel), List.mem_of_getElem? (i := 733) (by decide +kernel)⟩
theorem lw_p28 : lw_okq (⟨"CoatedBridgesModel", "of", "(II)I"⟩, 15) := ⟨⟨by decide +kernel, by decide +kernel⟩, List.mem_of_getElem? (i := 615) (by decide +kernel), List.mem_of_getElem? (i := 736) (by decide +kernel), List.mem_of_getElem? (i := 737) (by decide +kernel)⟩
theorem lw_p29 : lw_okq (⟨"CoatedBridgesModel", "painted", "()I"⟩, 15) := ⟨⟨by decide +kernel, by decide +kernel⟩, List.mem_of_getElem? (i := 615) (by decide +kernel), List.mem_of_getElem? (i := 740) (by decide +kernel), List.mem_of_getElem? (i := 741) (by decide +kernel)⟩
theorem lw_p30 : lw_okq (⟨"CoatedBridgesModel", "cutOff", "(I)I"⟩, 15) := ⟨⟨by decide +kernel, by decide +kernel⟩, List.mem_of_getElem? (i := 615) (by decide +kernel), List.mem_of_getElem? (i := 744) (by decide +kernel), List.mem_of_getElem? (i := 745) (by decide +kernel)⟩
theorem lw_p31 : lw_okq (⟨"CoatedBridgesModel", "reached", "(II)I"⟩, 15) := ⟨⟨by decide +kernel, by decide +kernel⟩, List.mem_of_getElem? (i := 615) (by decide +kernel), List.mem_of_getElem? (i := 749) (by decide +kernel), List.mem_of_getElem? (i := 750) (by decide +kernel)⟩
def lw_privs_2 : List (MethodName × Nat) := [(⟨"CoatedBridgesModel", "errorIsland", "(I)I"⟩, 15), (⟨"CoatedBridgesModel", "records", "()V"⟩, 15), (⟨"CoatedBridgesModel", "goIsland", "(I)I"⟩, 15), (⟨"CoatedBridgesModel", "laysIsland", "(III)V"⟩, 15), (⟨"CoatedBridgesModel", "errorBridge", "(III)I"⟩, 15), (⟨"CoatedBridgesModel", "isIsland", "(I)Z"⟩, 15), (⟨"CoatedBridgesModel", "goBridge", "(III)I"⟩, 15), (⟨"CoatedBridgesModel", "lays", "(III)V"⟩, 15), (⟨"CoatedBridgesModel", "errorSend", "(II)I"⟩, 15), (⟨"CoatedBridgesModel", "isBridge", "(I)Z"⟩, 15), (⟨"CoatedBridgesModel", "reasonOf", "(I)I"⟩, 15), (⟨"CoatedBridgesModel", "isPainted", "(I)Z"⟩, 15), (⟨"CoatedBridgesModel", "of", "(II)I"⟩, 15), (⟨"CoatedBridgesModel", "painted", "()I"⟩, 15), (⟨"CoatedBridgesModel", "cutOff", "(I)I"⟩, 15), (⟨"CoatedBridgesModel", "reached", "(II)I"⟩, 15)]
theorem lw_r2 : ∀ q ∈ lw_privs_2, lw_okq q := List.forall_mem_cons.mpr ⟨lw_p16, List.forall_mem_cons.mpr ⟨lw_p17, List.forall_mem_cons.mpr ⟨lw_p18, List.forall_mem_cons.mpr ⟨lw_p19, List.forall_mem_cons.mpr ⟨lw_p20, List.forall_mem_cons.mpr ⟨lw_p21, List.forall_mem_cons.mpr ⟨lw_p22, List.forall_mem_cons.mpr ⟨lw_p23, List.forall_mem_cons.mpr ⟨lw_p24, List.forall_mem_cons.mpr ⟨lw_p25, List.forall_mem_cons.mpr ⟨lw_p26, List.forall_mem_cons.mpr ⟨lw_p27, List.forall_mem_cons.mpr ⟨lw_p28, List.forall_mem_cons.mpr ⟨lw_p29, List.forall_mem_cons.mpr ⟨lw_p30, List.forall_mem_cons.mpr ⟨lw_p31, fun _ h => absurd h List.not_mem_nil⟩⟩⟩⟩⟩⟩⟩⟩⟩⟩⟩⟩⟩⟩⟩⟩
theorem lw_p32 : lw_okq (⟨"CoatedBridgesModel", "isOpen", "(I)Z"⟩, 15) := ⟨⟨by decide +kernel, by decide +kernel⟩, List.mem_of_getElem? (i := 615) (by decide +kernel), List.mem_of_getElem? (i := 753) (by decide +kernel), List.mem_of_getElem? (i := 754) (by decide +kernel)⟩
theorem lw_p33 : lw_okq (⟨"CoatedBridgesModel", "goSend", "(I)I"⟩, 15) := ⟨⟨by decide +kernel, by decide +kernel⟩, List.mem_of_getElem? (i := 615) (by decide +kernel), List.mem_of_getElem? (i := 758) (by decide +kernel), List.mem_of_getElem? (i := 759) (by decide +kernel)⟩
theorem lw_p34 : lw_okq (⟨"CoatedBridgesModel", "adds", "(III)V"⟩, 15) := ⟨⟨by decide +kernel, by decide +kernel⟩, List.mem_of_getElem? (i := 615) (by decide +kernel), List.mem_of_getElem? (i := 762) (by decide +kernel), List.mem_of_getElem? (i := 763) (by decide +kernel)⟩
theorem lw_p35 : lw_okq (⟨"CoatedBridgesModel", "errorRecall", "(I)I"⟩, 15) := ⟨⟨by decide +kernel, by decide +kernel⟩, List.mem_of_getElem? (i := 615) (by decide +kernel), List.mem_of_getElem? (i := 770) (by decide +kernel), List.mem_of_getElem? (i := 771) (by decide +kernel)⟩
theorem lw_p36 : lw_okq (⟨"CoatedBridgesModel", "goRecall", "(I)I"⟩, 15) := ⟨⟨by decide +kernel, by decide +kernel⟩, List.mem_of_getElem? (i := 615) (by decide +kernel), List.mem_of_getElem? (i := 774) (by decide +kernel), List.mem_of_getElem? (i := 775) (by decide +kernel)⟩
theorem lw_p37 : lw_okq (⟨"CoatedBridgesModel", "errorPay", "(I)I"⟩, 15) := ⟨⟨by decide +kernel, by decide +kernel⟩, List.mem_of_getElem? (i := 615) (by decide +kernel), List.mem_of_getElem? (i := 782) (by decide +kernel), List.mem_of_getElem? (i := 783) (by decide +kernel)⟩
theorem lw_p38 : lw_okq (⟨"CoatedBridgesModel", "goPay", "(I)I"⟩, 15) := ⟨⟨by decide +kernel, by decide +kernel⟩, List.mem_of_getElem? (i := 615) (by decide +kernel), List.mem_of_getElem? (i := 787) (by decide +kernel), List.mem_of_getElem? (i := 788) (by decide +kernel)⟩
theorem lw_p39 : lw_okq (⟨"CoatedBridgesModel", "errorDays", "(I)I"⟩, 15) := ⟨⟨by decide +kernel, by decide +kernel⟩, List.mem_of_getElem? (i := 615) (by decide +kernel), List.mem_of_getElem? (i := 795) (by decide +kernel), List.mem_of_getElem? (i := 796) (by decide +kernel)⟩
theorem lw_p40 : lw_okq (⟨"CoatedBridgesModel", "endsDays", "(I)I"⟩, 15) := ⟨⟨by decide +kernel, by decide +kernel⟩, List.mem_of_getElem? (i := 615) (by decide +kernel), List.mem_of_getElem? (i := 799) (by decide +kernel), List.mem_of_getElem? (i := 800) (by decide +kernel)⟩
theorem lw_p41 : lw_okq (⟨"CoatedBridgesModel", "endsDay", "()I"⟩, 15) := ⟨⟨by decide +kernel, by decide +kernel⟩, List.mem_of_getElem? (i := 615) (by decide +kernel), List.mem_of_getElem? (i := 803) (by decide +kernel), List.mem_of_getElem? (i := 804) (by decide +kernel)⟩
theorem lw_p42 : lw_okq (⟨"CoatedBridgesModel", "paints", "(I)V"⟩, 15) := ⟨⟨by decide +kernel, by decide +kernel⟩, List.mem_of_getElem? (i := 615) (by decide +kernel), List.mem_of_getElem? (i := 807) (by decide +kernel), List.mem_of_getElem? (i := 808) (by decide +kernel)⟩
theorem lw_p43 : lw_okq (⟨"CoatedBridgesModel", "wears", "(I)V"⟩, 15) := ⟨⟨by decide +kernel, by decide +kernel⟩, List.mem_of_getElem? (i := 615) (by decide +kernel), List.mem_of_getElem? (i := 811) (by decide +kernel), List.mem_of_getElem? (i := 812) (by decide +kernel)⟩
theorem lw_p44 : lw_okq (⟨"CoatedBridgesModel", "waits", "(IZ)I"⟩, 15) := ⟨⟨by decide +kernel, by decide +kernel⟩, List.mem_of_getElem? (i := 615) (by decide +kernel), List.mem_of_getElem? (i := 815) (by decide +kernel), List.mem_of_getElem? (i := 816) (by decide +kernel)⟩
theorem lw_p45 : lw_okq (⟨"CoatedBridgesModel", "ofIsland", "(II)I"⟩, 15) := ⟨⟨by decide +kernel, by decide +kernel⟩, List.mem_of_getElem? (i := 615) (by decide +kernel), List.mem_of_getElem? (i := 819) (by decide +kernel), List.mem_of_getElem? (i := 820) (by decide +kernel)⟩
theorem lw_p46 : lw_okq (⟨"CoatedBridgesModel", "addsIsland", "(II)V"⟩, 15) := ⟨⟨by decide +kernel, by decide +kernel⟩, List.mem_of_getElem? (i := 615) (by decide +kernel), List.mem_of_getElem? (i := 823) (by decide +kernel), List.mem_of_getElem? (i := 824) (by decide +kernel)⟩
theorem lw_p47 : lw_okq (⟨"CoatedBridgesModel", "books", "(I)V"⟩, 15) := ⟨⟨by decide +kernel, by decide +kernel⟩, List.mem_of_getElem? (i := 615) (by decide +kernel), List.mem_of_getElem? (i := 827) (by decide +kernel), List.mem_of_getElem? (i := 828) (by decide +kernel)⟩
def lw_privs_3 : List (MethodName × Nat) := [(⟨"CoatedBridgesModel", "isOpen", "(I)Z"⟩, 15), (⟨"CoatedBridgesModel", "goSend", "(I)I"⟩, 15), (⟨"CoatedBridgesModel", "adds", "(III)V"⟩, 15), (⟨"CoatedBridgesModel", "errorRecall", "(I)I"⟩, 15), (⟨"CoatedBridgesModel", "goRecall", "(I)I"⟩, 15), (⟨"CoatedBridgesModel", "errorPay", "(I)I"⟩, 15), (⟨"CoatedBridgesModel", "goPay", "(I)I"⟩, 15), (⟨"CoatedBridgesModel", "errorDays", "(I)I"⟩, 15), (⟨"CoatedBridgesModel", "endsDays", "(I)I"⟩, 15), (⟨"CoatedBridgesModel", "endsDay", "()I"⟩, 15), (⟨"CoatedBridgesModel", "paints", "(I)V"⟩, 15), (⟨"CoatedBridgesModel", "wears", "(I)V"⟩, 15), (⟨"CoatedBridgesModel", "waits", "(IZ)I"⟩, 15), (⟨"CoatedBridgesModel", "ofIsland", "(II)I"⟩, 15), (⟨"CoatedBridgesModel", "addsIsland", "(II)V"⟩, 15), (⟨"CoatedBridgesModel", "books", "(I)V"⟩, 15)]
theorem lw_r3 : ∀ q ∈ lw_privs_3, lw_okq q := List.forall_mem_cons.mpr ⟨lw_p32, List.forall_mem_cons.mpr ⟨lw_p33, List.forall_mem_cons.mpr ⟨lw_p34, List.forall_mem_cons.mpr ⟨lw_p35, List.forall_mem_cons.mpr ⟨lw_p36, List.forall_mem_cons.mpr ⟨lw_p37, List.forall_mem_cons.mpr ⟨lw_p38, List.forall_mem_cons.mpr ⟨lw_p39, List.forall_mem_cons.mpr ⟨lw_p40, List.forall_mem_cons.mpr ⟨lw_p41, List.forall_mem_cons.mpr ⟨lw_p42, List.forall_mem_cons.mpr ⟨lw_p43, List.forall_mem_cons.mpr ⟨lw_p44, List.forall_mem_cons.mpr ⟨lw_p45, List.forall_mem_cons.mpr ⟨lw_p46, List.forall_mem_cons.mpr ⟨lw_p47, fun _ h => absurd h List.not_mem_nil⟩⟩⟩⟩⟩⟩⟩⟩⟩⟩⟩⟩⟩⟩⟩⟩
theorem lw_p48 : lw_okq (⟨"CoatedBridgesModel", "bestOne", "()I"⟩, 15) := ⟨⟨by decide +kernel, by decide +kernel⟩, List.mem_of_getElem? (i := 615) (by decide +kernel), List.mem_of_getElem? (i := 831) (by decide +kernel), List.mem_of_getElem? (i := 832) (by decide +kernel)⟩
theorem lw_p49 : lw_okq (⟨"CoatedBridgesModel", "stateOf", "(I)I"⟩, 15) := ⟨⟨by decide +kernel, by decide +kernel⟩, List.mem_of_getElem? (i := 615) (by decide +kernel), List.mem_of_getElem? (i := 850) (by decide +kernel), List.mem_of_getElem? (i := 851) (by decide +kernel)⟩
theorem lw_p50 : lw_okq (⟨"CoatedBridgesModel", "openAt", "(I)I"⟩, 15) := ⟨⟨by decide +kernel, by decide +kernel⟩, List.mem_of_getElem? (i := 615) (by decide +kernel), List.mem_of_getElem? (i := 858) (by decide +kernel), List.mem_of_getElem? (i := 859) (by decide +kernel)⟩
theorem lw_p51 : lw_okq (⟨"CoatedBridgesModel", "fewestTo", "(I)I"⟩, 15) := ⟨⟨by decide +kernel, by decide +kernel⟩, List.mem_of_getElem? (i := 615) (by decide +kernel), List.mem_of_getElem? (i := 862) (by decide +kernel), List.mem_of_getElem? (i := 863) (by decide +kernel)⟩
theorem lw_p52 : lw_okq (⟨"CoatedBridgesModel", "lowest", "(I)I"⟩, 15) := ⟨⟨by decide +kernel, by decide +kernel⟩, List.mem_of_getElem? (i := 615) (by decide +kernel), List.mem_of_getElem? (i := 878) (by decide +kernel), List.mem_of_getElem? (i := 879) (by decide +kernel)⟩
theorem lw_p53 : lw_okq (⟨"CoatedBridgesModel", "setOf", "(I)I"⟩, 15) := ⟨⟨by decide +kernel, by decide +kernel⟩, List.mem_of_getElem? (i := 615) (by decide +kernel), List.mem_of_getElem? (i := 920) (by decide +kernel), List.mem_of_getElem? (i := 921) (by decide +kernel)⟩
theorem lw_p54 : lw_okq (⟨"CoatedBridgesModel", "neededOnes", "()I"⟩, 15) := ⟨⟨by decide +kernel, by decide +kernel⟩, List.mem_of_getElem? (i := 615) (by decide +kernel), List.mem_of_getElem? (i := 924) (by decide +kernel), List.mem_of_getElem? (i := 925) (by decide +kernel)⟩
theorem lw_p55 : lw_okq (⟨"CoatedBridgesModel", "groups", "()I"⟩, 15) := ⟨⟨by decide +kernel, by decide +kernel⟩, List.mem_of_getElem? (i := 615) (by decide +kernel), List.mem_of_getElem? (i := 928) (by decide +kernel), List.mem_of_getElem? (i := 929) (by decide +kernel)⟩
theorem lw_p56 : lw_okq (⟨"CoatedBridgesModel", "ofIslands", "(IZ)I"⟩, 15) := ⟨⟨by decide +kernel, by decide +kernel⟩, List.mem_of_getElem? (i := 615) (by decide +kernel), List.mem_of_getElem? (i := 932) (by decide +kernel), List.mem_of_getElem? (i := 933) (by decide +kernel)⟩
theorem lw_p57 : lw_okq (⟨"CoatedBridgesModel", "doesAll", "()I"⟩, 15) := ⟨⟨by decide +kernel, by decide +kernel⟩, List.mem_of_getElem? (i := 615) (by decide +kernel), List.mem_of_getElem? (i := 948) (by decide +kernel), List.mem_of_getElem? (i := 949) (by decide +kernel)⟩
theorem lw_p58 : lw_okq (⟨"CoatedBridgesModel", "takesOrder", "()V"⟩, 15) := ⟨⟨by decide +kernel, by decide +kernel⟩, List.mem_of_getElem? (i := 615) (by decide +kernel), List.mem_of_getElem? (i := 952) (by decide +kernel), List.mem_of_getElem? (i := 953) (by decide +kernel)⟩
theorem lw_p59 : lw_okq (⟨"CoatedBridgesModel", "here", "()I"⟩, 15) := ⟨⟨by decide +kernel, by decide +kernel⟩, List.mem_of_getElem? (i := 615) (by decide +kernel), List.mem_of_getElem? (i := 956) (by decide +kernel), List.mem_of_getElem? (i := 957) (by decide +kernel)⟩
theorem lw_p60 : lw_okq (⟨"CoatedBridgesModel", "takes", "(Z)V"⟩, 15) := ⟨⟨by decide +kernel, by decide +kernel⟩, List.mem_of_getElem? (i := 615) (by decide +kernel), List.mem_of_getElem? (i := 960) (by decide +kernel), List.mem_of_getElem? (i := 961) (by decide +kernel)⟩
theorem lw_p61 : lw_okq (⟨"CoatedBridgesModel", "takesNumber", "(I)V"⟩, 15) := ⟨⟨by decide +kernel, by decide +kernel⟩, List.mem_of_getElem? (i := 615) (by decide +kernel), List.mem_of_getElem? (i := 964) (by decide +kernel), List.mem_of_getElem? (i := 965) (by decide +kernel)⟩
theorem lw_p62 : lw_okq (⟨"CoatedBridgesModel", "errorOfOrder", "()I"⟩, 15) := ⟨⟨by decide +kernel, by decide +kernel⟩, List.mem_of_getElem? (i := 615) (by decide +kernel), List.mem_of_getElem? (i := 968) (by decide +kernel), List.mem_of_getElem? (i := 969) (by decide +kernel)⟩
theorem lw_p63 : lw_okq (⟨"CoatedBridgesModel", "doesOrder", "()I"⟩, 15) := ⟨⟨by decide +kernel, by decide +kernel⟩, List.mem_of_getElem? (i := 615) (by decide +kernel), List.mem_of_getElem? (i := 972) (by decide +kernel), List.mem_of_getElem? (i := 973) (by decide +kernel)⟩
def lw_privs_4 : List (MethodName × Nat) := [(⟨"CoatedBridgesModel", "bestOne", "()I"⟩, 15), (⟨"CoatedBridgesModel", "stateOf", "(I)I"⟩, 15), (⟨"CoatedBridgesModel", "openAt", "(I)I"⟩, 15), (⟨"CoatedBridgesModel", "fewestTo", "(I)I"⟩, 15), (⟨"CoatedBridgesModel", "lowest", "(I)I"⟩, 15), (⟨"CoatedBridgesModel", "setOf", "(I)I"⟩, 15), (⟨"CoatedBridgesModel", "neededOnes", "()I"⟩, 15), (⟨"CoatedBridgesModel", "groups", "()I"⟩, 15), (⟨"CoatedBridgesModel", "ofIslands", "(IZ)I"⟩, 15), (⟨"CoatedBridgesModel", "doesAll", "()I"⟩, 15), (⟨"CoatedBridgesModel", "takesOrder", "()V"⟩, 15), (⟨"CoatedBridgesModel", "here", "()I"⟩, 15), (⟨"CoatedBridgesModel", "takes", "(Z)V"⟩, 15), (⟨"CoatedBridgesModel", "takesNumber", "(I)V"⟩, 15), (⟨"CoatedBridgesModel", "errorOfOrder", "()I"⟩, 15), (⟨"CoatedBridgesModel", "doesOrder", "()I"⟩, 15)]
theorem lw_r4 : ∀ q ∈ lw_privs_4, lw_okq q := List.forall_mem_cons.mpr ⟨lw_p48, List.forall_mem_cons.mpr ⟨lw_p49, List.forall_mem_cons.mpr ⟨lw_p50, List.forall_mem_cons.mpr ⟨lw_p51, List.forall_mem_cons.mpr ⟨lw_p52, List.forall_mem_cons.mpr ⟨lw_p53, List.forall_mem_cons.mpr ⟨lw_p54, List.forall_mem_cons.mpr ⟨lw_p55, List.forall_mem_cons.mpr ⟨lw_p56, List.forall_mem_cons.mpr ⟨lw_p57, List.forall_mem_cons.mpr ⟨lw_p58, List.forall_mem_cons.mpr ⟨lw_p59, List.forall_mem_cons.mpr ⟨lw_p60, List.forall_mem_cons.mpr ⟨lw_p61, List.forall_mem_cons.mpr ⟨lw_p62, List.forall_mem_cons.mpr ⟨lw_p63, fun _ h => absurd h List.not_mem_nil⟩⟩⟩⟩⟩⟩⟩⟩⟩⟩⟩⟩⟩⟩⟩⟩
def lw_privs : List (MethodName × Nat) := lw_privs_1 ++ (lw_privs_2 ++ (lw_privs_3 ++ (lw_privs_4)))
def lw_tbl : List Cond := k2_sels lw_privs ++ tables_1
theorem lw_privs_ok : ∀ q ∈ lw_privs, lw_okq q := by
  show ∀ q ∈ lw_privs_1 ++ (lw_privs_2 ++ (lw_privs_3 ++ (lw_privs_4))), lw_okq q
  exact List.forall_mem_append.mpr ⟨lw_r1, List.forall_mem_append.mpr ⟨lw_r2, List.forall_mem_append.mpr ⟨lw_r3, lw_r4⟩⟩⟩
/-- the streams that the claim lets the run draw from -/
abbrev lw_cs : List Choice := [Jvm.Choice.named "NaN.bits"]
theorem lw_bits : nanBits ∈ lw_cs := by first | decide | exact List.mem_cons_self | simp [lw_cs, nanBits]
end
section
/-! PRINTED by gen.py out of the claim's own tables: classes, normalised code, links. Methods by number:
0 CoatedBridges$Book.<init>()V locals 1 depth 1 heads []
1 CoatedBridges$Book.copyFrom(LCoatedBridges$Book;)V locals 3 depth 0 heads [10]
2 CoatedBridges$Book.note(II)V locals 3 depth 1 heads []
3 CoatedBridges$Book.dropFirst()V locals 2 depth 0 heads [2]
4 CoatedBridges$Book.dayAgo(I)I locals 2 depth 0 heads []
5 CoatedBridges$Book.complaintsAgo(I)I locals 2 depth 0 heads []
6 CoatedBridges$Bridge.<init>()V locals 1 depth 1 heads []
7 CoatedBridges$Bridge.begin(III)V locals 4 depth 0 heads []
8 CoatedBridges$Bridge.copyFrom(LCoatedBridges$Bridge;)V locals 2 depth 0 heads []
9 CoatedBridges$Bridge.takeCrew()V locals 1 depth 0 heads []
10 CoatedBridges$Bridge.loseCrew()V locals 1 depth 0 heads []
11 CoatedBridges$Bridge.paint(II)V locals 3 depth 1 heads []
12 CoatedBridges$Bridge.wearOff()V locals 1 depth 1 heads []
13 CoatedBridges$Bridge.daysUntilRusted()I locals 2 depth 0 heads [2]
14 CoatedBridges$Island.<init>()V locals 1 depth 1 heads []
15 CoatedBridges$Island.begin(I)V locals 2 depth 0 heads []
16 CoatedBridges$Island.copyFrom(LCoatedBridges$Island;)V locals 2 depth 0 heads []
17 CoatedBridges$Island.waitAlone(I)Z locals 2 depth 1 heads []
18 CoatedBridges$State.<init>()V locals 2 depth 2 heads [60, 87]
19 CoatedBridges$State.copyFrom(LCoatedBridges$State;)V locals 3 depth 1 heads [10, 49, 80]
20 CoatedBridges$State.hasIsland(I)Z locals 2 depth 0 heads []
21 CoatedBridges$State.hasBridge(I)Z locals 2 depth 0 heads []
22 CoatedBridges$State.addIsland(I)I locals 2 depth 1 heads []
23 CoatedBridges$State.addBridge(III)I locals 4 depth 1 heads []
24 CoatedBridges$State.sendCrew(II)I locals 6 depth 4 heads []
25 CoatedBridges$State.callBack(I)I locals 2 depth 1 heads []
26 CoatedBridges$State.payIn(I)I locals 2 depth 1 heads []
27 CoatedBridges$State.changeSetting(II)I locals 4 depth 0 heads []
28 CoatedBridges$State.endDays(I)I locals 4 depth 4 heads [33]
29 CoatedBridges$State.endDay()I locals 5 depth 3 heads [58]
30 CoatedBridges$State.paintBridges()V locals 3 depth 2 heads [9]
31 CoatedBridges$State.wearBridges(I)V locals 3 depth 2 heads [2]
32 CoatedBridges$State.letIslandsWait()I locals 5 depth 2 heads [11]
33 CoatedBridges$State.payFerry(LCoatedBridges$Island;)V locals 2 depth 0 heads []
34 CoatedBridges$State.receive(I)V locals 2 depth 0 heads []
35 CoatedBridges$State.freeCrews()I locals 1 depth 1 heads []
36 CoatedBridges$State.reasonAgainst(I)I locals 2 depth 3 heads []
37 CoatedBridges$State.bridgeToPaintNext()I locals 6 depth 2 heads [33]
38 CoatedBridges$State.bridgesThatAre(I)I locals 4 depth 0 heads [4]
39 CoatedBridges$State.reachFrom(II)I locals 6 depth 1 heads [7]
40 CoatedBridges$State.oneBridgeOn(II)I locals 6 depth 0 heads [5]
41 CoatedBridges$State.lostWithout(I)I locals 2 depth 2 heads []
42 CoatedBridges$State.neededBridges()I locals 4 depth 2 heads [11]
43 CoatedBridges$State.bridgesTo(I)I locals 4 depth 1 heads [4]
44 CoatedBridges$State.openBridgesAt(I)I locals 4 depth 1 heads [4]
45 CoatedBridges$State.groups()I locals 4 depth 2 heads [6]
46 CoatedBridges$State.lowestOnes()I locals 3 depth 2 heads [4]
47 CoatedBridges$State.coatsTogether()I locals 3 depth 0 heads [4]
48 CoatedBridges$State.complaintsSoFar()I locals 3 depth 0 heads [4]
49 CoatedBridges$State.longestWaitSoFar()I locals 3 depth 1 heads [4]
50 CoatedBridges$Text.<init>()V locals 1 depth 1 heads []
51 CoatedBridges$Text.append(C)Z locals 2 depth 0 heads []
52 CoatedBridges$Text.readOrder(I)Z locals 4 depth 2 heads [44]
53 CoatedBridges$Text.numbersOf(C)I locals 1 depth 0 heads []
54 CoatedBridges$Text.take(C)Z locals 2 depth 0 heads []
55 CoatedBridges$Text.readNumber(I)Z locals 4 depth 1 heads [4]
56 CoatedBridges$Text.atDigit()Z locals 1 depth 0 heads []
57 CoatedBridges.<init>()V locals 2 depth 3 heads [47]
58 CoatedBridges.island(I)I locals 2 depth 3 heads []
59 CoatedBridges.bridge(III)I locals 4 depth 3 heads []
60 CoatedBridges.send(II)I locals 3 depth 5 heads []
61 CoatedBridges.recall(I)I locals 2 depth 3 heads []
62 CoatedBridges.pay(I)I locals 2 depth 3 heads []
63 CoatedBridges.days(I)I locals 2 depth 5 heads []
64 CoatedBridges.set(II)I locals 3 depth 3 heads []
65 CoatedBridges.bridgeOf(II)I locals 4 depth 3 heads []
66 CoatedBridges.islandOf(II)I locals 4 depth 2 heads []
67 CoatedBridges.reach(I)I locals 2 depth 2 heads []
68 CoatedBridges.book(II)I locals 3 depth 1 heads []
69 CoatedBridges.why(II)I locals 4 depth 4 heads []
70 CoatedBridges.best()I locals 1 depth 3 heads []
71 CoatedBridges.rustsIn(I)I locals 3 depth 1 heads []
72 CoatedBridges.paintedIn(I)I locals 4 depth 4 heads [40]
73 CoatedBridges.aloneIn()I locals 4 depth 4 heads [17]
74 CoatedBridges.ifDays(I)I locals 5 depth 4 heads [24]
75 CoatedBridges.mean()I locals 1 depth 1 heads []
76 CoatedBridges.count(I)I locals 2 depth 3 heads []
77 CoatedBridges.undo()I locals 2 depth 0 heads []
78 CoatedBridges.type(I)I locals 2 depth 1 heads []
79 CoatedBridges.clearText()I locals 2 depth 0 heads []
80 CoatedBridges.fault(I)I locals 2 depth 7 heads []
81 CoatedBridges.play()I locals 1 depth 7 heads []
82 CoatedBridges.startTrial()LCoatedBridges$State; locals 1 depth 2 heads []
83 CoatedBridges.settle(I)I locals 3 depth 1 heads []
84 CoatedBridges.dropOldest()V locals 3 depth 0 heads [9]
85 CoatedBridges.obeyText(LCoatedBridges$State;)Z locals 4 depth 6 heads [7]
86 CoatedBridges.noteFault(III)V locals 4 depth 0 heads []
87 CoatedBridges.obeyOrder(LCoatedBridges$State;)I locals 3 depth 5 heads []
88 CoatedBridges.holds(II)Z locals 2 depth 0 heads []
89 CoatedBridges.lowestIn(I)I locals 1 depth 1 heads []
90 CoatedBridges.bitsOf(F)I locals 4 depth 0 heads [15, 42]
91 CoatedBridgesModel.<init>()V locals 1 depth 1 heads []
92 CoatedBridgesModel.in(III)Z locals 3 depth 0 heads []
93 CoatedBridgesModel.copies([II[II)V locals 5 depth 0 heads [3]
94 CoatedBridgesModel.records()V locals 2 depth 1 heads [10]
95 CoatedBridgesModel.isIsland(I)Z locals 2 depth 1 heads []
96 CoatedBridgesModel.isBridge(I)Z locals 2 depth 1 heads []
97 CoatedBridgesModel.of(II)I locals 3 depth 0 heads []
98 CoatedBridgesModel.lays(III)V locals 4 depth 0 heads []
99 CoatedBridgesModel.adds(III)V locals 4 depth 0 heads []
100 CoatedBridgesModel.ofIsland(II)I locals 3 depth 0 heads []
101 CoatedBridgesModel.laysIsland(III)V locals 4 depth 0 heads []
102 CoatedBridgesModel.addsIsland(II)V locals 3 depth 0 heads []
103 CoatedBridgesModel.isPainted(I)Z locals 2 depth 1 heads []
104 CoatedBridgesModel.isOpen(I)Z locals 2 depth 1 heads []
105 CoatedBridgesModel.stateOf(I)I locals 2 depth 2 heads []
106 CoatedBridgesModel.reached(II)I locals 7 depth 2 heads [7, 19]
107 CoatedBridgesModel.cutOff(I)I locals 2 depth 3 heads []
108 CoatedBridgesModel.painted()I locals 3 depth 1 heads [4]
109 CoatedBridgesModel.reasonOf(I)I locals 2 depth 4 heads []
110 CoatedBridgesModel.bestOne()I locals 4 depth 5 heads [5]
111 CoatedBridgesModel.goIsland(I)I locals 4 depth 1 heads [9]
112 CoatedBridgesModel.goBridge(III)I locals 6 depth 1 heads [11]
113 CoatedBridgesModel.goSend(I)I locals 3 depth 4 heads []
114 CoatedBridgesModel.goRecall(I)I locals 2 depth 1 heads []
115 CoatedBridgesModel.goPay(I)I locals 2 depth 0 heads []
116 CoatedBridgesModel.paints(I)V locals 3 depth 1 heads []
117 CoatedBridgesModel.wears(I)V locals 3 depth 1 heads []
118 CoatedBridgesModel.waits(IZ)I locals 5 depth 1 heads []
119 CoatedBridgesModel.books(I)V locals 3 depth 0 heads [3]
120 CoatedBridgesModel.endsDay()I locals 5 depth 6 heads [2, 31, 62, 124, 236]
121 CoatedBridgesModel.endsDays(I)I locals 4 depth 7 heads [4]
122 CoatedBridgesModel.errorIsland(I)I locals 2 depth 1 heads []
123 CoatedBridgesModel.errorBridge(III)I locals 5 depth 2 heads []
124 CoatedBridgesModel.errorSend(II)I locals 4 depth 5 heads []
125 CoatedBridgesModel.errorRecall(I)I locals 2 depth 2 heads []
126 CoatedBridgesModel.errorPay(I)I locals 2 depth 1 heads []
127 CoatedBridgesModel.errorDays(I)I locals 2 depth 1 heads []
128 CoatedBridgesModel.island(I)I locals 3 depth 2 heads []
129 CoatedBridgesModel.bridge(III)I locals 5 depth 3 heads []
130 CoatedBridgesModel.send(II)I locals 4 depth 6 heads []
131 CoatedBridgesModel.recall(I)I locals 3 depth 3 heads []
132 CoatedBridgesModel.pay(I)I locals 3 depth 2 heads []
133 CoatedBridgesModel.days(I)I locals 3 depth 8 heads []
134 CoatedBridgesModel.mostOf(I)I locals 1 depth 0 heads []
135 CoatedBridgesModel.set(II)I locals 4 depth 2 heads []
136 CoatedBridgesModel.undo()I locals 1 depth 1 heads []
137 CoatedBridgesModel.bridgeOf(II)I locals 3 depth 4 heads []
138 CoatedBridgesModel.openAt(I)I locals 4 depth 2 heads [4]
139 CoatedBridgesModel.fewestTo(I)I locals 7 depth 2 heads [4, 24]
140 CoatedBridgesModel.islandOf(II)I locals 3 depth 3 heads []
141 CoatedBridgesModel.reach(I)I locals 2 depth 3 heads []
142 CoatedBridgesModel.book(II)I locals 3 depth 1 heads []
143 CoatedBridgesModel.lowest(I)I locals 3 depth 0 heads [2]
144 CoatedBridgesModel.why(II)I locals 4 depth 5 heads []
145 CoatedBridgesModel.best()I locals 1 depth 6 heads []
146 CoatedBridgesModel.rustsIn(I)I locals 2 depth 2 heads []
147 CoatedBridgesModel.paintedIn(I)I locals 4 depth 7 heads [37]
148 CoatedBridgesModel.aloneIn()I locals 4 depth 7 heads [23]
149 CoatedBridgesModel.ifDays(I)I locals 3 depth 8 heads []
150 CoatedBridgesModel.mean()I locals 3 depth 2 heads [4]
151 CoatedBridgesModel.setOf(I)I locals 4 depth 3 heads [4]
152 CoatedBridgesModel.neededOnes()I locals 3 depth 4 heads [4]
153 CoatedBridgesModel.groups()I locals 3 depth 3 heads [4]
154 CoatedBridgesModel.ofIslands(IZ)I locals 6 depth 1 heads [5]
155 CoatedBridgesModel.count(I)I locals 2 depth 5 heads []
156 CoatedBridgesModel.type(I)I locals 2 depth 1 heads []
157 CoatedBridgesModel.clearText()I locals 2 depth 0 heads []
158 CoatedBridgesModel.here()I locals 1 depth 0 heads []
159 CoatedBridgesModel.takes(Z)V locals 2 depth 0 heads []
160 CoatedBridgesModel.takesNumber(I)V locals 4 depth 1 heads [4]
161 CoatedBridgesModel.takesOrder()V locals 2 depth 2 heads [95]
162 CoatedBridgesModel.errorOfOrder()I locals 1 depth 6 heads []
163 CoatedBridgesModel.doesOrder()I locals 1 depth 8 heads []
164 CoatedBridgesModel.doesAll()I locals 4 depth 9 heads [12]
165 CoatedBridgesModel.fault(I)I locals 3 depth 10 heads []
166 CoatedBridgesModel.play()I locals 2 depth 10 heads []
167 java/lang/Float.isNaN(F)Z locals 1 depth 0 heads []
168 java/lang/Float.floatToIntBits(F)I locals 1 depth 1 heads []
169 java/lang/Integer.numberOfTrailingZeros(I)I locals 2 depth 0 heads []
170 java/lang/Integer.bitCount(I)I locals 1 depth 0 heads []
171 java/lang/Math.max(II)I locals 2 depth 0 heads []
172 java/lang/Math.min(II)I locals 2 depth 0 heads []
173 CoatedBridgesLaw.law([I)Z locals 4 depth 11 heads [18]
-/
def RX0 : String := "CoatedBridges$Book"
def TX0 : u_T := fun k => match k with
  | 0 => ("CoatedBridges$Book", "days", "[I", true)
  | 1 => ("CoatedBridges$Book", "complaints", "[I", true)
  | _ => ("CoatedBridges$Book", "length", "I", false)
def tyX0 : Nat → FieldType := fun k => match k with
  | 0 => .array .int
  | 1 => .array .int
  | _ => .int
theorem nmX0 : ∀ a, a < 3 → ∀ b, b < 3 → a ≠ b → (TX0 a).2.1 ≠ (TX0 b).2.1 := by decide +kernel
theorem tyX0_ok : ∀ k, k < 3 → parseFieldDescriptor (TX0 k).2.2.1 = some (tyX0 k) := by decide +kernel
def RX1 : String := "CoatedBridges$Bridge"
def TX1 : u_T := fun k => match k with
  | 0 => ("CoatedBridges$Bridge", "one", "I", false)
  | 1 => ("CoatedBridges$Bridge", "other", "I", false)
  | 2 => ("CoatedBridges$Bridge", "ends", "I", false)
  | 3 => ("CoatedBridges$Bridge", "wear", "I", false)
  | 4 => ("CoatedBridges$Bridge", "coat", "I", false)
  | 5 => ("CoatedBridges$Bridge", "condition", "I", false)
  | 6 => ("CoatedBridges$Bridge", "timesSent", "I", false)
  | 7 => ("CoatedBridges$Bridge", "closedDays", "I", false)
  | _ => ("CoatedBridges$Bridge", "paintCoins", "I", false)
def tyX1 : Nat → FieldType := fun k => match k with
  | 0 => .int
  | 1 => .int
  | 2 => .int
  | 3 => .int
  | 4 => .int
  | 5 => .int
  | 6 => .int
  | 7 => .int
  | _ => .int
theorem nmX1 : ∀ a, a < 9 → ∀ b, b < 9 → a ≠ b → (TX1 a).2.1 ≠ (TX1 b).2.1 := by decide +kernel
theorem tyX1_ok : ∀ k, k < 9 → parseFieldDescriptor (TX1 k).2.2.1 = some (tyX1 k) := by decide +kernel
def RX2 : String := "CoatedBridges$Island"
def TX2 : u_T := fun k => match k with
  | 0 => ("CoatedBridges$Island", "fare", "I", false)
  | 1 => ("CoatedBridges$Island", "waited", "I", false)
  | 2 => ("CoatedBridges$Island", "longestWait", "I", false)
  | 3 => ("CoatedBridges$Island", "complaints", "I", false)
  | _ => ("CoatedBridges$Island", "ferryDays", "I", false)
def tyX2 : Nat → FieldType := fun k => match k with
  | 0 => .int
  | 1 => .int
  | 2 => .int
  | 3 => .int
  | _ => .int
theorem nmX2 : ∀ a, a < 5 → ∀ b, b < 5 → a ≠ b → (TX2 a).2.1 ≠ (TX2 b).2.1 := by decide +kernel
theorem tyX2_ok : ∀ k, k < 5 → parseFieldDescriptor (TX2 k).2.2.1 = some (tyX2 k) := by decide +kernel
def RX3 : String := "CoatedBridges$State"
def TX3 : u_T := fun k => match k with
  | 0 => ("CoatedBridges$State", "islands", "[LCoatedBridges$Island;", true)
  | 1 => ("CoatedBridges$State", "bridges", "[LCoatedBridges$Bridge;", true)
  | 2 => ("CoatedBridges$State", "settings", "[I", true)
  | 3 => ("CoatedBridges$State", "complaintBook", "LCoatedBridges$Book;", true)
  | 4 => ("CoatedBridges$State", "islandCount", "I", false)
  | 5 => ("CoatedBridges$State", "bridgeCount", "I", false)
  | 6 => ("CoatedBridges$State", "now", "I", false)
  | 7 => ("CoatedBridges$State", "purse", "I", false)
  | 8 => ("CoatedBridges$State", "paintCoins", "I", false)
  | 9 => ("CoatedBridges$State", "ferryCoins", "I", false)
  | _ => ("CoatedBridges$State", "comeCoins", "I", false)
def tyX3 : Nat → FieldType := fun k => match k with
  | 0 => .array (.object "CoatedBridges$Island")
  | 1 => .array (.object "CoatedBridges$Bridge")
  | 2 => .array .int
  | 3 => .object "CoatedBridges$Book"
  | 4 => .int
  | 5 => .int
  | 6 => .int
  | 7 => .int
  | 8 => .int
  | 9 => .int
  | _ => .int
theorem nmX3 : ∀ a, a < 11 → ∀ b, b < 11 → a ≠ b → (TX3 a).2.1 ≠ (TX3 b).2.1 := by decide +kernel
theorem tyX3_ok : ∀ k, k < 11 → parseFieldDescriptor (TX3 k).2.2.1 = some (tyX3 k) := by decide +kernel
def RX4 : String := "CoatedBridges$Text"
def TX4 : u_T := fun k => match k with
  | 0 => ("CoatedBridges$Text", "characters", "[C", true)
  | 1 => ("CoatedBridges$Text", "length", "I", false)
  | 2 => ("CoatedBridges$Text", "numbers", "[I", true)
  | 3 => ("CoatedBridges$Text", "kind", "C", false)
  | _ => ("CoatedBridges$Text", "at", "I", false)
def tyX4 : Nat → FieldType := fun k => match k with
  | 0 => .array .char
  | 1 => .int
  | 2 => .array .int
  | 3 => .char
  | _ => .int
theorem nmX4 : ∀ a, a < 5 → ∀ b, b < 5 → a ≠ b → (TX4 a).2.1 ≠ (TX4 b).2.1 := by decide +kernel
theorem tyX4_ok : ∀ k, k < 5 → parseFieldDescriptor (TX4 k).2.2.1 = some (tyX4 k) := by decide +kernel
def RX5 : String := "CoatedBridges"
def TX5 : u_T := fun k => match k with
  | 0 => ("CoatedBridges", "state", "LCoatedBridges$State;", false)
  | 1 => ("CoatedBridges", "trial", "LCoatedBridges$State;", false)
  | 2 => ("CoatedBridges", "history", "[LCoatedBridges$State;", true)
  | 3 => ("CoatedBridges", "historyLength", "I", false)
  | 4 => ("CoatedBridges", "text", "LCoatedBridges$Text;", true)
  | 5 => ("CoatedBridges", "ordersDone", "I", false)
  | 6 => ("CoatedBridges", "faultPosition", "I", false)
  | 7 => ("CoatedBridges", "faultReason", "I", false)
  | _ => ("CoatedBridges", "faultCause", "I", false)
def tyX5 : Nat → FieldType := fun k => match k with
  | 0 => .object "CoatedBridges$State"
  | 1 => .object "CoatedBridges$State"
  | 2 => .array (.object "CoatedBridges$State")
  | 3 => .int
  | 4 => .object "CoatedBridges$Text"
  | 5 => .int
  | 6 => .int
  | 7 => .int
  | _ => .int
theorem nmX5 : ∀ a, a < 9 → ∀ b, b < 9 → a ≠ b → (TX5 a).2.1 ≠ (TX5 b).2.1 := by decide +kernel
theorem tyX5_ok : ∀ k, k < 9 → parseFieldDescriptor (TX5 k).2.2.1 = some (tyX5 k) := by decide +kernel
def RX6 : String := "CoatedBridgesModel"
def TX6 : u_T := fun k => match k with
  | 0 => ("CoatedBridgesModel", "s", "[I", true)
  | 1 => ("CoatedBridgesModel", "aside", "[I", true)
  | 2 => ("CoatedBridgesModel", "before", "[I", true)
  | 3 => ("CoatedBridgesModel", "past", "[I", true)
  | 4 => ("CoatedBridgesModel", "known", "I", false)
  | 5 => ("CoatedBridgesModel", "text", "[I", true)
  | 6 => ("CoatedBridgesModel", "length", "I", false)
  | 7 => ("CoatedBridgesModel", "wasOpen", "[Z", true)
  | 8 => ("CoatedBridgesModel", "spot", "I", false)
  | 9 => ("CoatedBridgesModel", "begin", "I", false)
  | 10 => ("CoatedBridgesModel", "isForm", "Z", false)
  | 11 => ("CoatedBridgesModel", "letter", "I", false)
  | 12 => ("CoatedBridgesModel", "tells", "[I", true)
  | 13 => ("CoatedBridgesModel", "faultReason", "I", false)
  | _ => ("CoatedBridgesModel", "faultCause", "I", false)
def tyX6 : Nat → FieldType := fun k => match k with
  | 0 => .array .int
  | 1 => .array .int
  | 2 => .array .int
  | 3 => .array .int
  | 4 => .int
  | 5 => .array .int
  | 6 => .int
  | 7 => .array .boolean
  | 8 => .int
  | 9 => .int
  | 10 => .boolean
  | 11 => .int
  | 12 => .array .int
  | 13 => .int
  | _ => .int
theorem nmX6 : ∀ a, a < 15 → ∀ b, b < 15 → a ≠ b → (TX6 a).2.1 ≠ (TX6 b).2.1 := by decide +kernel
theorem tyX6_ok : ∀ k, k < 15 → parseFieldDescriptor (TX6 k).2.2.1 = some (tyX6 k) := by decide +kernel
abbrev AEnt : Type := Nat × Instr × Nat × Nat
def rN (o : Nat) : String := match o with
  | 0 => "CoatedBridges$Book"
  | 1 => "CoatedBridges$Bridge"
  | 2 => "CoatedBridges$Island"
  | 3 => "CoatedBridges$State"
  | 4 => "CoatedBridges$Text"
  | 5 => "CoatedBridges"
  | 6 => "CoatedBridgesModel"
  | 7 => "CoatedBridgesLaw"
  | 8 => "java/lang/Integer"
  | 9 => "java/lang/Math"
  | _ => "java/lang/Float"
def nFl (ci : Nat) : Nat := match ci with
  | 0 => 3
  | 1 => 9
  | 2 => 5
  | 3 => 11
  | 4 => 5
  | 5 => 9
  | 6 => 15
  | _ => 0
def fTy (ci k : Nat) : Nat := match ci with
  | 0 => (match k with
    | 0 => 3
    | 1 => 3
    | 2 => 0
    | _ => 0)
  | 1 => (match k with
    | 0 => 0
    | 1 => 0
    | 2 => 0
    | 3 => 0
    | 4 => 0
    | 5 => 0
    | 6 => 0
    | 7 => 0
    | 8 => 0
    | _ => 0)
  | 2 => (match k with
    | 0 => 0
    | 1 => 0
    | 2 => 0
    | 3 => 0
    | 4 => 0
    | _ => 0)
  | 3 => (match k with
    | 0 => 3
    | 1 => 3
    | 2 => 3
    | 3 => 3
    | 4 => 0
    | 5 => 0
    | 6 => 0
    | 7 => 0
    | 8 => 0
    | 9 => 0
    | 10 => 0
    | _ => 0)
  | 4 => (match k with
    | 0 => 3
    | 1 => 0
    | 2 => 3
    | 3 => 2
    | 4 => 0
    | _ => 0)
  | 5 => (match k with
    | 0 => 3
    | 1 => 3
    | 2 => 3
    | 3 => 0
    | 4 => 3
    | 5 => 0
    | 6 => 0
    | 7 => 0
    | 8 => 0
    | _ => 0)
  | 6 => (match k with
    | 0 => 3
    | 1 => 3
    | 2 => 3
    | 3 => 3
    | 4 => 0
    | 5 => 3
    | 6 => 0
    | 7 => 3
    | 8 => 0
    | 9 => 0
    | 10 => 1
    | 11 => 0
    | 12 => 3
    | 13 => 0
    | 14 => 0
    | _ => 0)
  | _ => 0
def cTT (ci : Nat) : u_T := match ci with
  | 0 => TX0
  | 1 => TX1
  | 2 => TX2
  | 3 => TX3
  | 4 => TX4
  | 5 => TX5
  | _ => TX6
def cTy (ci : Nat) : Nat → FieldType := match ci with
  | 0 => tyX0
  | 1 => tyX1
  | 2 => tyX2
  | 3 => tyX3
  | 4 => tyX4
  | 5 => tyX5
  | _ => tyX6
abbrev clz : List vw_C := [(RX0, TX0, 3), (RX1, TX1, 9), (RX2, TX2, 5), (RX3, TX3, 11), (RX4, TX4, 5), (RX5, TX5, 9), (RX6, TX6, 15)]
/-- the class of the objects in an array of references, by the array's kind -/
def aCl (k : Nat) : Nat := match k with
  | 13 => 2
  | 14 => 1
  | _ => 3
-- 0 CoatedBridges$Book.<init>()V
def pg0 : List AEnt := [(0, .aload 0, 1, 99), (1, .nop, 4, 99), (4, .aload 0, 5, 99), (5, .iconst (8), 7, 99), (7, .newarray .int, 9, 99), (9, .putfield 0, 12, 99), (12, .aload 0, 13, 99), (13, .iconst (8), 15, 99), (15, .newarray .int, 17, 99), (17, .putfield 1, 20, 99), (20, .return_, 21, 99)]
def ac0 : List Instr := [.aload_n 0, .invokespecial 3, .aload_n 0, .bipush 8, .newarray .int, .putfield 9, .aload_n 0, .bipush 8, .newarray .int, .putfield 15, .return_]
-- 1 CoatedBridges$Book.copyFrom(LCoatedBridges$Book;)V
def pg1 : List AEnt := [(0, .aload 0, 1, 99), (1, .aload 1, 2, 99), (2, .getfield 2, 5, 99), (5, .putfield 2, 8, 99), (8, .iconst (0), 9, 99), (9, .istore 2, 10, 99), (10, .iload 2, 11, 3), (11, .iconst (8), 13, 99), (13, .if_icmp .ge 46, 16, 99), (16, .aload 0, 17, 99), (17, .getfield 0, 20, 99), (20, .iload 2, 21, 99), (21, .aload 1, 22, 99), (22, .getfield 0, 25, 99), (25, .iload 2, 26, 99), (26, .iaload, 27, 99), (27, .iastore, 28, 99), (28, .aload 0, 29, 99), (29, .getfield 1, 32, 99), (32, .iload 2, 33, 99), (33, .aload 1, 34, 99), (34, .getfield 1, 37, 99), (37, .iload 2, 38, 99), (38, .iaload, 39, 99), (39, .iastore, 40, 99), (40, .iinc 2 (1), 43, 99), (43, .goto 10, 46, 99), (46, .return_, 47, 99)]
def ac1 : List Instr := [.aload_n 0, .aload_n 1, .getfield 18, .putfield 18, .iconst 0, .istore_n 2, .iload_n 2, .bipush 8, .if_icmp .ge 33, .aload_n 0, .getfield 9, .iload_n 2, .aload_n 1, .getfield 9, .iload_n 2, .iaload, .iastore, .aload_n 0, .getfield 15, .iload_n 2, .aload_n 1, .getfield 15, .iload_n 2, .iaload, .iastore, .iinc 2 1, .goto (-33), .return_]
-- 2 CoatedBridges$Book.note(II)V
def pg2 : List AEnt := [(0, .aload 0, 1, 99), (1, .getfield 2, 4, 99), (4, .iconst (8), 6, 99), (6, .if_icmp .lt 13, 9, 99), (9, .aload 0, 10, 99), (10, .invokevirtual 3, 13, 99), (13, .aload 0, 14, 99), (14, .getfield 0, 17, 99), (17, .aload 0, 18, 99), (18, .getfield 2, 21, 99), (21, .iload 1, 22, 99), (22, .iastore, 23, 99), (23, .aload 0, 24, 99), (24, .getfield 1, 27, 99), (27, .aload 0, 28, 99), (28, .getfield 2, 31, 99), (31, .iload 2, 32, 99), (32, .iastore, 33, 99), (33, .aload 0, 34, 99), (34, .dup, 35, 99), (35, .getfield 2, 38, 99), (38, .iconst (1), 39, 99), (39, .iadd, 40, 99), (40, .putfield 2, 43, 99), (43, .return_, 44, 99)]
def ac2 : List Instr := [.aload_n 0, .getfield 18, .bipush 8, .if_icmp .lt 7, .aload_n 0, .invokevirtual 22, .aload_n 0, .getfield 9, .aload_n 0, .getfield 18, .iload_n 1, .iastore, .aload_n 0, .getfield 15, .aload_n 0, .getfield 18, .iload_n 2, .iastore, .aload_n 0, .dup, .getfield 18, .iconst 1, .iadd, .putfield 18, .return_]
-- 3 CoatedBridges$Book.dropFirst()V
def pg3 : List AEnt := [(0, .iconst (1), 1, 99), (1, .istore 1, 2, 99), (2, .iload 1, 3, 2), (3, .iconst (8), 5, 99), (5, .if_icmp .ge 42, 8, 99), (8, .aload 0, 9, 99), (9, .getfield 0, 12, 99), (12, .iload 1, 13, 99), (13, .iconst (1), 14, 99), (14, .isub, 15, 99), (15, .aload 0, 16, 99), (16, .getfield 0, 19, 99), (19, .iload 1, 20, 99), (20, .iaload, 21, 99), (21, .iastore, 22, 99), (22, .aload 0, 23, 99), (23, .getfield 1, 26, 99), (26, .iload 1, 27, 99), (27, .iconst (1), 28, 99), (28, .isub, 29, 99), (29, .aload 0, 30, 99), (30, .getfield 1, 33, 99), (33, .iload 1, 34, 99), (34, .iaload, 35, 99), (35, .iastore, 36, 99), (36, .iinc 1 (1), 39, 99), (39, .goto 2, 42, 99), (42, .aload 0, 43, 99), (43, .iconst (7), 45, 99), (45, .putfield 2, 48, 99), (48, .return_, 49, 99)]
def ac3 : List Instr := [.iconst 1, .istore_n 1, .iload_n 1, .bipush 8, .if_icmp .ge 37, .aload_n 0, .getfield 9, .iload_n 1, .iconst 1, .isub, .aload_n 0, .getfield 9, .iload_n 1, .iaload, .iastore, .aload_n 0, .getfield 15, .iload_n 1, .iconst 1, .isub, .aload_n 0, .getfield 15, .iload_n 1, .iaload, .iastore, .iinc 1 1, .goto (-37), .aload_n 0, .bipush 7, .putfield 18, .return_]
-- 4 CoatedBridges$Book.dayAgo(I)I
def pg4 : List AEnt := [(0, .iload 1, 1, 99), (1, .aload 0, 2, 99), (2, .getfield 2, 5, 99), (5, .if_icmp .ge 24, 8, 99), (8, .aload 0, 9, 99), (9, .getfield 0, 12, 99), (12, .aload 0, 13, 99), (13, .getfield 2, 16, 99), (16, .iconst (1), 17, 99), (17, .isub, 18, 99), (18, .iload 1, 19, 99), (19, .isub, 20, 99), (20, .iaload, 21, 99), (21, .goto 26, 24, 99), (24, .iconst (-1000004), 26, 99), (26, .ireturn, 27, 99)]
def ac4 : List Instr := [.iload_n 1, .aload_n 0, .getfield 18, .if_icmp .ge 19, .aload_n 0, .getfield 9, .aload_n 0, .getfield 18, .iconst 1, .isub, .iload_n 1, .isub, .iaload, .goto 5, .ldc 25, .ireturn]
-- 5 CoatedBridges$Book.complaintsAgo(I)I
def pg5 : List AEnt := [(0, .iload 1, 1, 99), (1, .aload 0, 2, 99), (2, .getfield 2, 5, 99), (5, .if_icmp .ge 24, 8, 99), (8, .aload 0, 9, 99), (9, .getfield 1, 12, 99), (12, .aload 0, 13, 99), (13, .getfield 2, 16, 99), (16, .iconst (1), 17, 99), (17, .isub, 18, 99), (18, .iload 1, 19, 99), (19, .isub, 20, 99), (20, .iaload, 21, 99), (21, .goto 26, 24, 99), (24, .iconst (-1000004), 26, 99), (26, .ireturn, 27, 99)]
def ac5 : List Instr := [.iload_n 1, .aload_n 0, .getfield 18, .if_icmp .ge 19, .aload_n 0, .getfield 15, .aload_n 0, .getfield 18, .iconst 1, .isub, .iload_n 1, .isub, .iaload, .goto 5, .ldc 25, .ireturn]
-- 6 CoatedBridges$Bridge.<init>()V
def pg6 : List AEnt := [(0, .aload 0, 1, 99), (1, .nop, 4, 99), (4, .return_, 5, 99)]
def ac6 : List Instr := [.aload_n 0, .invokespecial 3, .return_]
-- 7 CoatedBridges$Bridge.begin(III)V
def pg7 : List AEnt := [(0, .aload 0, 1, 99), (1, .iload 1, 2, 99), (2, .putfield 100, 5, 99), (5, .aload 0, 6, 99), (6, .iload 2, 7, 99), (7, .putfield 101, 10, 99), (10, .aload 0, 11, 99), (11, .iconst (1), 12, 99), (12, .iload 1, 13, 99), (13, .ishl, 14, 99), (14, .iconst (1), 15, 99), (15, .iload 2, 16, 99), (16, .ishl, 17, 99), (17, .ior, 18, 99), (18, .putfield 102, 21, 99), (21, .aload 0, 22, 99), (22, .iload 3, 23, 99), (23, .putfield 103, 26, 99), (26, .aload 0, 27, 99), (27, .iconst (100), 29, 99), (29, .putfield 104, 32, 99), (32, .aload 0, 33, 99), (33, .iconst (0), 34, 99), (34, .putfield 105, 37, 99), (37, .aload 0, 38, 99), (38, .iconst (0), 39, 99), (39, .putfield 106, 42, 99), (42, .aload 0, 43, 99), (43, .iconst (0), 44, 99), (44, .putfield 107, 47, 99), (47, .aload 0, 48, 99), (48, .iconst (0), 49, 99), (49, .putfield 108, 52, 99), (52, .return_, 53, 99)]
def ac7 : List Instr := [.aload_n 0, .iload_n 1, .putfield 9, .aload_n 0, .iload_n 2, .putfield 15, .aload_n 0, .iconst 1, .iload_n 1, .ishl, .iconst 1, .iload_n 2, .ishl, .ior, .putfield 18, .aload_n 0, .iload_n 3, .putfield 21, .aload_n 0, .bipush 100, .putfield 24, .aload_n 0, .iconst 0, .putfield 27, .aload_n 0, .iconst 0, .putfield 30, .aload_n 0, .iconst 0, .putfield 33, .aload_n 0, .iconst 0, .putfield 36, .return_]
-- 8 CoatedBridges$Bridge.copyFrom(LCoatedBridges$Bridge;)V
def pg8 : List AEnt := [(0, .aload 0, 1, 99), (1, .aload 1, 2, 99), (2, .getfield 100, 5, 99), (5, .putfield 100, 8, 99), (8, .aload 0, 9, 99), (9, .aload 1, 10, 99), (10, .getfield 101, 13, 99), (13, .putfield 101, 16, 99), (16, .aload 0, 17, 99), (17, .aload 1, 18, 99), (18, .getfield 102, 21, 99), (21, .putfield 102, 24, 99), (24, .aload 0, 25, 99), (25, .aload 1, 26, 99), (26, .getfield 103, 29, 99), (29, .putfield 103, 32, 99), (32, .aload 0, 33, 99), (33, .aload 1, 34, 99), (34, .getfield 104, 37, 99), (37, .putfield 104, 40, 99), (40, .aload 0, 41, 99), (41, .aload 1, 42, 99), (42, .getfield 105, 45, 99), (45, .putfield 105, 48, 99), (48, .aload 0, 49, 99), (49, .aload 1, 50, 99), (50, .getfield 106, 53, 99), (53, .putfield 106, 56, 99), (56, .aload 0, 57, 99), (57, .aload 1, 58, 99), (58, .getfield 107, 61, 99), (61, .putfield 107, 64, 99), (64, .aload 0, 65, 99), (65, .aload 1, 66, 99), (66, .getfield 108, 69, 99), (69, .putfield 108, 72, 99), (72, .return_, 73, 99)]
def ac8 : List Instr := [.aload_n 0, .aload_n 1, .getfield 9, .putfield 9, .aload_n 0, .aload_n 1, .getfield 15, .putfield 15, .aload_n 0, .aload_n 1, .getfield 18, .putfield 18, .aload_n 0, .aload_n 1, .getfield 21, .putfield 21, .aload_n 0, .aload_n 1, .getfield 24, .putfield 24, .aload_n 0, .aload_n 1, .getfield 27, .putfield 27, .aload_n 0, .aload_n 1, .getfield 30, .putfield 30, .aload_n 0, .aload_n 1, .getfield 33, .putfield 33, .aload_n 0, .aload_n 1, .getfield 36, .putfield 36, .return_]
-- 9 CoatedBridges$Bridge.takeCrew()V
def pg9 : List AEnt := [(0, .aload 0, 1, 99), (1, .iconst (1), 2, 99), (2, .putfield 105, 5, 99), (5, .aload 0, 6, 99), (6, .dup, 7, 99), (7, .getfield 106, 10, 99), (10, .iconst (1), 11, 99), (11, .iadd, 12, 99), (12, .putfield 106, 15, 99), (15, .return_, 16, 99)]
def ac9 : List Instr := [.aload_n 0, .iconst 1, .putfield 27, .aload_n 0, .dup, .getfield 30, .iconst 1, .iadd, .putfield 30, .return_]
-- 10 CoatedBridges$Bridge.loseCrew()V
def pg10 : List AEnt := [(0, .aload 0, 1, 99), (1, .aload 0, 2, 99), (2, .getfield 104, 5, 99), (5, .ifCond .ne 12, 8, 99), (8, .iconst (2), 9, 99), (9, .goto 13, 12, 99), (12, .iconst (0), 13, 99), (13, .putfield 105, 16, 99), (16, .return_, 17, 99)]
def ac10 : List Instr := [.aload_n 0, .aload_n 0, .getfield 24, .ifCond .ne 7, .iconst 2, .goto 4, .iconst 0, .putfield 27, .return_]
-- 11 CoatedBridges$Bridge.paint(II)V
def pg11 : List AEnt := [(0, .aload 0, 1, 99), (1, .dup, 2, 99), (2, .getfield 108, 5, 99), (5, .iload 2, 6, 99), (6, .iadd, 7, 99), (7, .putfield 108, 10, 99), (10, .aload 0, 11, 99), (11, .aload 0, 12, 99), (12, .getfield 104, 15, 99), (15, .iload 1, 16, 99), (16, .iadd, 17, 99), (17, .iconst (100), 19, 99), (19, .invokestatic 172, 22, 99), (22, .putfield 104, 25, 99), (25, .aload 0, 26, 99), (26, .getfield 104, 29, 99), (29, .iconst (100), 31, 99), (31, .if_icmp .ne 38, 34, 99), (34, .aload 0, 35, 99), (35, .invokevirtual 10, 38, 99), (38, .return_, 39, 99)]
def ac11 : List Instr := [.aload_n 0, .dup, .getfield 36, .iload_n 2, .iadd, .putfield 36, .aload_n 0, .aload_n 0, .getfield 24, .iload_n 1, .iadd, .bipush 100, .invokestatic 39, .putfield 24, .aload_n 0, .getfield 24, .bipush 100, .if_icmp .ne 7, .aload_n 0, .invokevirtual 45, .return_]
-- 12 CoatedBridges$Bridge.wearOff()V
def pg12 : List AEnt := [(0, .aload 0, 1, 99), (1, .aload 0, 2, 99), (2, .getfield 104, 5, 99), (5, .aload 0, 6, 99), (6, .getfield 103, 9, 99), (9, .isub, 10, 99), (10, .iconst (0), 11, 99), (11, .invokestatic 171, 14, 99), (14, .putfield 104, 17, 99), (17, .aload 0, 18, 99), (18, .getfield 104, 21, 99), (21, .ifCond .ne 29, 24, 99), (24, .aload 0, 25, 99), (25, .iconst (2), 26, 99), (26, .putfield 105, 29, 99), (29, .return_, 30, 99)]
def ac12 : List Instr := [.aload_n 0, .aload_n 0, .getfield 24, .aload_n 0, .getfield 21, .isub, .iconst 0, .invokestatic 48, .putfield 24, .aload_n 0, .getfield 24, .ifCond .ne 8, .aload_n 0, .iconst 2, .putfield 27, .return_]
-- 13 CoatedBridges$Bridge.daysUntilRusted()I
def pg13 : List AEnt := [(0, .iconst (0), 1, 99), (1, .istore 1, 2, 99), (2, .iload 1, 3, 2), (3, .iconst (100), 5, 99), (5, .if_icmp .ge 27, 8, 99), (8, .iload 1, 9, 99), (9, .aload 0, 10, 99), (10, .getfield 103, 13, 99), (13, .imul, 14, 99), (14, .aload 0, 15, 99), (15, .getfield 104, 18, 99), (18, .if_icmp .ge 27, 21, 99), (21, .iinc 1 (1), 24, 99), (24, .goto 2, 27, 99), (27, .iload 1, 28, 99), (28, .ireturn, 29, 99)]
def ac13 : List Instr := [.iconst 0, .istore_n 1, .iload_n 1, .bipush 100, .if_icmp .ge 22, .iload_n 1, .aload_n 0, .getfield 21, .imul, .aload_n 0, .getfield 24, .if_icmp .ge 9, .iinc 1 1, .goto (-22), .iload_n 1, .ireturn]
-- 14 CoatedBridges$Island.<init>()V
def pg14 : List AEnt := [(0, .aload 0, 1, 99), (1, .nop, 4, 99), (4, .return_, 5, 99)]
def ac14 : List Instr := [.aload_n 0, .invokespecial 1, .return_]
-- 15 CoatedBridges$Island.begin(I)V
def pg15 : List AEnt := [(0, .aload 0, 1, 99), (1, .iload 1, 2, 99), (2, .putfield 200, 5, 99), (5, .aload 0, 6, 99), (6, .iconst (0), 7, 99), (7, .putfield 201, 10, 99), (10, .aload 0, 11, 99), (11, .iconst (0), 12, 99), (12, .putfield 202, 15, 99), (15, .aload 0, 16, 99), (16, .iconst (0), 17, 99), (17, .putfield 203, 20, 99), (20, .aload 0, 21, 99), (21, .iconst (0), 22, 99), (22, .putfield 204, 25, 99), (25, .return_, 26, 99)]
def ac15 : List Instr := [.aload_n 0, .iload_n 1, .putfield 7, .aload_n 0, .iconst 0, .putfield 13, .aload_n 0, .iconst 0, .putfield 16, .aload_n 0, .iconst 0, .putfield 19, .aload_n 0, .iconst 0, .putfield 22, .return_]
-- 16 CoatedBridges$Island.copyFrom(LCoatedBridges$Island;)V
def pg16 : List AEnt := [(0, .aload 0, 1, 99), (1, .aload 1, 2, 99), (2, .getfield 200, 5, 99), (5, .putfield 200, 8, 99), (8, .aload 0, 9, 99), (9, .aload 1, 10, 99), (10, .getfield 201, 13, 99), (13, .putfield 201, 16, 99), (16, .aload 0, 17, 99), (17, .aload 1, 18, 99), (18, .getfield 202, 21, 99), (21, .putfield 202, 24, 99), (24, .aload 0, 25, 99), (25, .aload 1, 26, 99), (26, .getfield 203, 29, 99), (29, .putfield 203, 32, 99), (32, .aload 0, 33, 99), (33, .aload 1, 34, 99), (34, .getfield 204, 37, 99), (37, .putfield 204, 40, 99), (40, .return_, 41, 99)]
def ac16 : List Instr := [.aload_n 0, .aload_n 1, .getfield 7, .putfield 7, .aload_n 0, .aload_n 1, .getfield 13, .putfield 13, .aload_n 0, .aload_n 1, .getfield 16, .putfield 16, .aload_n 0, .aload_n 1, .getfield 19, .putfield 19, .aload_n 0, .aload_n 1, .getfield 22, .putfield 22, .return_]
-- 17 CoatedBridges$Island.waitAlone(I)Z
def pg17 : List AEnt := [(0, .aload 0, 1, 99), (1, .dup, 2, 99), (2, .getfield 201, 5, 99), (5, .iconst (1), 6, 99), (6, .iadd, 7, 99), (7, .putfield 201, 10, 99), (10, .aload 0, 11, 99), (11, .aload 0, 12, 99), (12, .getfield 202, 15, 99), (15, .aload 0, 16, 99), (16, .getfield 201, 19, 99), (19, .invokestatic 171, 22, 99), (22, .putfield 202, 25, 99), (25, .aload 0, 26, 99), (26, .getfield 201, 29, 99), (29, .iload 1, 30, 99), (30, .if_icmp .gt 35, 33, 99), (33, .iconst (0), 34, 99), (34, .freturn, 35, 99), (35, .aload 0, 36, 99), (36, .dup, 37, 99), (37, .getfield 203, 40, 99), (40, .iconst (1), 41, 99), (41, .iadd, 42, 99), (42, .putfield 203, 45, 99), (45, .iconst (1), 46, 99), (46, .freturn, 47, 99)]
def ac17 : List Instr := [.aload_n 0, .dup, .getfield 13, .iconst 1, .iadd, .putfield 13, .aload_n 0, .aload_n 0, .getfield 16, .aload_n 0, .getfield 13, .invokestatic 25, .putfield 16, .aload_n 0, .getfield 13, .iload_n 1, .if_icmp .gt 5, .iconst 0, .ireturn, .aload_n 0, .dup, .getfield 19, .iconst 1, .iadd, .putfield 19, .iconst 1, .ireturn]
-- 18 CoatedBridges$State.<init>()V
def pg18_0 : List AEnt := [(0, .aload 0, 1, 99), (1, .nop, 4, 99), (4, .aload 0, 5, 99), (5, .iconst (8), 7, 99), (7, .anewarray 13, 10, 99), (10, .putfield 300, 13, 99), (13, .aload 0, 14, 99), (14, .iconst (14), 16, 99), (16, .anewarray 14, 19, 99), (19, .putfield 301, 22, 99), (22, .aload 0, 23, 99), (23, .getstatic 0, 26, 99), (26, .invokedynamic 0, 29, 99), (29, .checkcast 0, 32, 99), (32, .putfield 302, 35, 99), (35, .aload 0, 36, 99), (36, .new 0, 39, 99), (39, .dup, 40, 99), (40, .invokevirtual 0, 43, 99), (43, .putfield 303, 46, 99), (46, .aload 0, 47, 99), (47, .iconst (1), 48, 99), (48, .putfield 304, 51, 99), (51, .aload 0, 52, 99), (52, .iconst (200), 55, 99), (55, .putfield 307, 58, 99), (58, .iconst (0), 59, 99), (59, .istore 1, 60, 99), (60, .iload 1, 61, 2), (61, .iconst (8), 63, 99), (63, .if_icmp .ge 85, 66, 99), (66, .aload 0, 67, 99), (67, .getfield 300, 70, 99), (70, .iload 1, 71, 99), (71, .new 2, 74, 99), (74, .dup, 75, 99), (75, .invokevirtual 14, 78, 99), (78, .multianewarray 13 0, 79, 99), (79, .iinc 1 (1), 82, 99), (82, .goto 60, 85, 99)]
def pg18_1 : List AEnt := [(85, .iconst (0), 86, 99), (86, .istore 1, 87, 99), (87, .iload 1, 88, 2), (88, .iconst (14), 90, 99), (90, .if_icmp .ge 112, 93, 99), (93, .aload 0, 94, 99), (94, .getfield 301, 97, 99), (97, .iload 1, 98, 99), (98, .new 1, 101, 99), (101, .dup, 102, 99), (102, .invokevirtual 6, 105, 99), (105, .multianewarray 14 0, 106, 99), (106, .iinc 1 (1), 109, 99), (109, .goto 87, 112, 99), (112, .return_, 113, 99)]
def pg18 : List AEnt := pg18_0 ++ (pg18_1)
def ac18_0 : List Instr := [.aload_n 0, .invokespecial 3, .aload_n 0, .bipush 8, .anewarray 9, .putfield 11, .aload_n 0, .bipush 14, .anewarray 17, .putfield 19, .aload_n 0, .getstatic 23, .invokevirtual 27, .checkcast 28, .putfield 32, .aload_n 0, .new 35, .dup, .invokespecial 37, .putfield 38, .aload_n 0, .iconst 1, .putfield 42, .aload_n 0, .sipush 200, .putfield 46, .iconst 0, .istore_n 1, .iload_n 1, .bipush 8, .if_icmp .ge 22, .aload_n 0, .getfield 11, .iload_n 1, .new 9, .dup, .invokespecial 49, .aastore, .iinc 1 1, .goto (-22)]
def ac18_1 : List Instr := [.iconst 0, .istore_n 1, .iload_n 1, .bipush 14, .if_icmp .ge 22, .aload_n 0, .getfield 19, .iload_n 1, .new 17, .dup, .invokespecial 50, .aastore, .iinc 1 1, .goto (-22), .return_]
def ac18 : List Instr := ac18_0 ++ (ac18_1)
-- 19 CoatedBridges$State.copyFrom(LCoatedBridges$State;)V
def pg19_0 : List AEnt := [(0, .aload 0, 1, 99), (1, .aload 1, 2, 99), (2, .getfield 304, 5, 99), (5, .putfield 304, 8, 99), (8, .iconst (0), 9, 99), (9, .istore 2, 10, 99), (10, .iload 2, 11, 3), (11, .aload 0, 12, 99), (12, .getfield 304, 15, 99), (15, .if_icmp .ge 39, 18, 99), (18, .aload 0, 19, 99), (19, .getfield 300, 22, 99), (22, .iload 2, 23, 99), (23, .instanceof 13, 24, 99), (24, .aload 1, 25, 99), (25, .getfield 300, 28, 99), (28, .iload 2, 29, 99), (29, .instanceof 13, 30, 99), (30, .invokevirtual 16, 33, 99), (33, .iinc 2 (1), 36, 99), (36, .goto 10, 39, 99), (39, .aload 0, 40, 99), (40, .aload 1, 41, 99), (41, .getfield 305, 44, 99), (44, .putfield 305, 47, 99), (47, .iconst (0), 48, 99), (48, .istore 2, 49, 99), (49, .iload 2, 50, 3), (50, .aload 0, 51, 99), (51, .getfield 305, 54, 99), (54, .if_icmp .ge 78, 57, 99), (57, .aload 0, 58, 99), (58, .getfield 301, 61, 99), (61, .iload 2, 62, 99), (62, .instanceof 14, 63, 99), (63, .aload 1, 64, 99), (64, .getfield 301, 67, 99), (67, .iload 2, 68, 99), (68, .instanceof 14, 69, 99), (69, .invokevirtual 8, 72, 99)]
def pg19_1 : List AEnt := [(72, .iinc 2 (1), 75, 99), (75, .goto 49, 78, 99), (78, .iconst (0), 79, 99), (79, .istore 2, 80, 99), (80, .iload 2, 81, 3), (81, .iconst (8), 83, 99), (83, .if_icmp .ge 104, 86, 99), (86, .aload 0, 87, 99), (87, .getfield 302, 90, 99), (90, .iload 2, 91, 99), (91, .aload 1, 92, 99), (92, .getfield 302, 95, 99), (95, .iload 2, 96, 99), (96, .iaload, 97, 99), (97, .iastore, 98, 99), (98, .iinc 2 (1), 101, 99), (101, .goto 80, 104, 99), (104, .aload 0, 105, 99), (105, .getfield 303, 108, 99), (108, .aload 1, 109, 99), (109, .getfield 303, 112, 99), (112, .invokevirtual 1, 115, 99), (115, .aload 0, 116, 99), (116, .aload 1, 117, 99), (117, .getfield 306, 120, 99), (120, .putfield 306, 123, 99), (123, .aload 0, 124, 99), (124, .aload 1, 125, 99), (125, .getfield 307, 128, 99), (128, .putfield 307, 131, 99), (131, .aload 0, 132, 99), (132, .aload 1, 133, 99), (133, .getfield 308, 136, 99), (136, .putfield 308, 139, 99), (139, .aload 0, 140, 99), (140, .aload 1, 141, 99), (141, .getfield 309, 144, 99), (144, .putfield 309, 147, 99), (147, .aload 0, 148, 99), (148, .aload 1, 149, 99)]
def pg19_2 : List AEnt := [(149, .getfield 310, 152, 99), (152, .putfield 310, 155, 99), (155, .return_, 156, 99)]
def pg19 : List AEnt := pg19_0 ++ (pg19_1 ++ (pg19_2))
def ac19_0 : List Instr := [.aload_n 0, .aload_n 1, .getfield 42, .putfield 42, .iconst 0, .istore_n 2, .iload_n 2, .aload_n 0, .getfield 42, .if_icmp .ge 24, .aload_n 0, .getfield 11, .iload_n 2, .aaload, .aload_n 1, .getfield 11, .iload_n 2, .aaload, .invokevirtual 51, .iinc 2 1, .goto (-26), .aload_n 0, .aload_n 1, .getfield 55, .putfield 55, .iconst 0, .istore_n 2, .iload_n 2, .aload_n 0, .getfield 55, .if_icmp .ge 24, .aload_n 0, .getfield 19, .iload_n 2, .aaload, .aload_n 1, .getfield 19, .iload_n 2, .aaload, .invokevirtual 58]
def ac19_1 : List Instr := [.iinc 2 1, .goto (-26), .iconst 0, .istore_n 2, .iload_n 2, .bipush 8, .if_icmp .ge 21, .aload_n 0, .getfield 32, .iload_n 2, .aload_n 1, .getfield 32, .iload_n 2, .iaload, .iastore, .iinc 2 1, .goto (-21), .aload_n 0, .getfield 38, .aload_n 1, .getfield 38, .invokevirtual 61, .aload_n 0, .aload_n 1, .getfield 64, .putfield 64, .aload_n 0, .aload_n 1, .getfield 46, .putfield 46, .aload_n 0, .aload_n 1, .getfield 67, .putfield 67, .aload_n 0, .aload_n 1, .getfield 70, .putfield 70, .aload_n 0, .aload_n 1]
def ac19_2 : List Instr := [.getfield 73, .putfield 73, .return_]
def ac19 : List Instr := ac19_0 ++ (ac19_1 ++ (ac19_2))
-- 20 CoatedBridges$State.hasIsland(I)Z
def pg20 : List AEnt := [(0, .iload 1, 1, 99), (1, .ifCond .lt 16, 4, 99), (4, .iload 1, 5, 99), (5, .aload 0, 6, 99), (6, .getfield 304, 9, 99), (9, .if_icmp .ge 16, 12, 99), (12, .iconst (1), 13, 99), (13, .goto 17, 16, 99), (16, .iconst (0), 17, 99), (17, .freturn, 18, 99)]
def ac20 : List Instr := [.iload_n 1, .ifCond .lt 15, .iload_n 1, .aload_n 0, .getfield 42, .if_icmp .ge 7, .iconst 1, .goto 4, .iconst 0, .ireturn]
-- 21 CoatedBridges$State.hasBridge(I)Z
def pg21 : List AEnt := [(0, .iload 1, 1, 99), (1, .ifCond .lt 16, 4, 99), (4, .iload 1, 5, 99), (5, .aload 0, 6, 99), (6, .getfield 305, 9, 99), (9, .if_icmp .ge 16, 12, 99), (12, .iconst (1), 13, 99), (13, .goto 17, 16, 99), (16, .iconst (0), 17, 99), (17, .freturn, 18, 99)]
def ac21 : List Instr := [.iload_n 1, .ifCond .lt 15, .iload_n 1, .aload_n 0, .getfield 55, .if_icmp .ge 7, .iconst 1, .goto 4, .iconst 0, .ireturn]
-- 22 CoatedBridges$State.addIsland(I)I
def pg22 : List AEnt := [(0, .iload 1, 1, 99), (1, .ifCond .lt 10, 4, 99), (4, .iload 1, 5, 99), (5, .iconst (99), 7, 99), (7, .if_icmp .le 13, 10, 99), (10, .iconst (-1000001), 12, 99), (12, .ireturn, 13, 99), (13, .aload 0, 14, 99), (14, .getfield 304, 17, 99), (17, .iconst (8), 19, 99), (19, .if_icmp .lt 25, 22, 99), (22, .iconst (-1000003), 24, 99), (24, .ireturn, 25, 99), (25, .aload 0, 26, 99), (26, .getfield 300, 29, 99), (29, .aload 0, 30, 99), (30, .getfield 304, 33, 99), (33, .instanceof 13, 34, 99), (34, .iload 1, 35, 99), (35, .invokevirtual 15, 38, 99), (38, .aload 0, 39, 99), (39, .dup, 40, 99), (40, .getfield 304, 43, 99), (43, .iconst (1), 44, 99), (44, .iadd, 45, 99), (45, .putfield 304, 48, 99), (48, .aload 0, 49, 99), (49, .getfield 304, 52, 99), (52, .iconst (1), 53, 99), (53, .isub, 54, 99), (54, .ireturn, 55, 99)]
def ac22 : List Instr := [.iload_n 1, .ifCond .lt 9, .iload_n 1, .bipush 99, .if_icmp .le 6, .ldc 76, .ireturn, .aload_n 0, .getfield 42, .bipush 8, .if_icmp .lt 6, .ldc 77, .ireturn, .aload_n 0, .getfield 11, .aload_n 0, .getfield 42, .aaload, .iload_n 1, .invokevirtual 78, .aload_n 0, .dup, .getfield 42, .iconst 1, .iadd, .putfield 42, .aload_n 0, .getfield 42, .iconst 1, .isub, .ireturn]
-- 23 CoatedBridges$State.addBridge(III)I
def pg23_0 : List AEnt := [(0, .aload 0, 1, 99), (1, .iload 1, 2, 99), (2, .invokevirtual 20, 5, 99), (5, .ifCond .eq 32, 8, 99), (8, .aload 0, 9, 99), (9, .iload 2, 10, 99), (10, .invokevirtual 20, 13, 99), (13, .ifCond .eq 32, 16, 99), (16, .iload 1, 17, 99), (17, .iload 2, 18, 99), (18, .if_icmp .eq 32, 21, 99), (21, .iload 3, 22, 99), (22, .iconst (1), 23, 99), (23, .if_icmp .lt 32, 26, 99), (26, .iload 3, 27, 99), (27, .iconst (9), 29, 99), (29, .if_icmp .le 35, 32, 99), (32, .iconst (-1000001), 34, 99), (34, .ireturn, 35, 99), (35, .aload 0, 36, 99), (36, .getfield 305, 39, 99), (39, .iconst (14), 41, 99), (41, .if_icmp .lt 47, 44, 99), (44, .iconst (-1000003), 46, 99), (46, .ireturn, 47, 99), (47, .aload 0, 48, 99), (48, .getfield 301, 51, 99), (51, .aload 0, 52, 99), (52, .getfield 305, 55, 99), (55, .instanceof 14, 56, 99), (56, .iload 1, 57, 99), (57, .iload 2, 58, 99), (58, .iload 3, 59, 99), (59, .invokevirtual 7, 62, 99), (62, .aload 0, 63, 99), (63, .dup, 64, 99), (64, .getfield 305, 67, 99), (67, .iconst (1), 68, 99), (68, .iadd, 69, 99), (69, .putfield 305, 72, 99)]
def pg23_1 : List AEnt := [(72, .aload 0, 73, 99), (73, .getfield 305, 76, 99), (76, .iconst (1), 77, 99), (77, .isub, 78, 99), (78, .ireturn, 79, 99)]
def pg23 : List AEnt := pg23_0 ++ (pg23_1)
def ac23_0 : List Instr := [.aload_n 0, .iload_n 1, .invokevirtual 82, .ifCond .eq 27, .aload_n 0, .iload_n 2, .invokevirtual 82, .ifCond .eq 19, .iload_n 1, .iload_n 2, .if_icmp .eq 14, .iload_n 3, .iconst 1, .if_icmp .lt 9, .iload_n 3, .bipush 9, .if_icmp .le 6, .ldc 76, .ireturn, .aload_n 0, .getfield 55, .bipush 14, .if_icmp .lt 6, .ldc 77, .ireturn, .aload_n 0, .getfield 19, .aload_n 0, .getfield 55, .aaload, .iload_n 1, .iload_n 2, .iload_n 3, .invokevirtual 86, .aload_n 0, .dup, .getfield 55, .iconst 1, .iadd, .putfield 55]
def ac23_1 : List Instr := [.aload_n 0, .getfield 55, .iconst 1, .isub, .ireturn]
def ac23 : List Instr := ac23_0 ++ (ac23_1)
-- 24 CoatedBridges$State.sendCrew(II)I
def pg24_0 : List AEnt := [(0, .aload 0, 1, 99), (1, .iload 1, 2, 99), (2, .invokevirtual 21, 5, 99), (5, .ifCond .eq 17, 8, 99), (8, .iload 2, 9, 99), (9, .ifCond .lt 17, 12, 99), (12, .iload 2, 13, 99), (13, .iconst (1), 14, 99), (14, .if_icmp .le 20, 17, 99), (17, .iconst (-1000001), 19, 99), (19, .ireturn, 20, 99), (20, .aload 0, 21, 99), (21, .iload 1, 22, 99), (22, .invokevirtual 36, 25, 99), (25, .istore 3, 26, 99), (26, .iload 2, 27, 99), (27, .iconst (1), 28, 99), (28, .if_icmp .ne 40, 31, 99), (31, .iload 3, 32, 99), (32, .iconst (4), 33, 99), (33, .if_icmp .ne 40, 36, 99), (36, .iconst (1), 37, 99), (37, .goto 41, 40, 99), (40, .iconst (0), 41, 99), (41, .istore 4, 43, 99), (43, .iload 3, 44, 99), (44, .ifCond .eq 55, 47, 99), (47, .iload 4, 49, 99), (49, .ifCond .ne 55, 52, 99), (52, .iconst (-1000002), 54, 99), (54, .ireturn, 55, 99), (55, .aload 0, 56, 99), (56, .iload 1, 57, 99), (57, .invokevirtual 41, 60, 99), (60, .istore 5, 62, 99), (62, .aload 0, 63, 99), (63, .getfield 301, 66, 99), (66, .iload 1, 67, 99), (67, .instanceof 14, 68, 99), (68, .invokevirtual 9, 71, 99)]
def pg24_1 : List AEnt := [(71, .iload 5, 73, 99), (73, .ireturn, 74, 99)]
def pg24 : List AEnt := pg24_0 ++ (pg24_1)
def ac24_0 : List Instr := [.aload_n 0, .iload_n 1, .invokevirtual 89, .ifCond .eq 12, .iload_n 2, .ifCond .lt 8, .iload_n 2, .iconst 1, .if_icmp .le 6, .ldc 76, .ireturn, .aload_n 0, .iload_n 1, .invokevirtual 92, .istore_n 3, .iload_n 2, .iconst 1, .if_icmp .ne 12, .iload_n 3, .iconst 4, .if_icmp .ne 7, .iconst 1, .goto 4, .iconst 0, .istore 4, .iload_n 3, .ifCond .eq 11, .iload 4, .ifCond .ne 6, .ldc 96, .ireturn, .aload_n 0, .iload_n 1, .invokevirtual 97, .istore 5, .aload_n 0, .getfield 19, .iload_n 1, .aaload, .invokevirtual 100]
def ac24_1 : List Instr := [.iload 5, .ireturn]
def ac24 : List Instr := ac24_0 ++ (ac24_1)
-- 25 CoatedBridges$State.callBack(I)I
def pg25 : List AEnt := [(0, .aload 0, 1, 99), (1, .iload 1, 2, 99), (2, .invokevirtual 21, 5, 99), (5, .ifCond .ne 11, 8, 99), (8, .iconst (-1000001), 10, 99), (10, .ireturn, 11, 99), (11, .aload 0, 12, 99), (12, .getfield 301, 15, 99), (15, .iload 1, 16, 99), (16, .instanceof 14, 17, 99), (17, .getfield 105, 20, 99), (20, .iconst (1), 21, 99), (21, .if_icmp .eq 27, 24, 99), (24, .iconst (-1000002), 26, 99), (26, .ireturn, 27, 99), (27, .aload 0, 28, 99), (28, .getfield 301, 31, 99), (31, .iload 1, 32, 99), (32, .instanceof 14, 33, 99), (33, .invokevirtual 10, 36, 99), (36, .aload 0, 37, 99), (37, .getfield 301, 40, 99), (40, .iload 1, 41, 99), (41, .instanceof 14, 42, 99), (42, .getfield 104, 45, 99), (45, .ireturn, 46, 99)]
def ac25 : List Instr := [.aload_n 0, .iload_n 1, .invokevirtual 89, .ifCond .ne 6, .ldc 76, .ireturn, .aload_n 0, .getfield 19, .iload_n 1, .aaload, .getfield 103, .iconst 1, .if_icmp .eq 6, .ldc 96, .ireturn, .aload_n 0, .getfield 19, .iload_n 1, .aaload, .invokevirtual 106, .aload_n 0, .getfield 19, .iload_n 1, .aaload, .getfield 109, .ireturn]
-- 26 CoatedBridges$State.payIn(I)I
def pg26 : List AEnt := [(0, .iload 1, 1, 99), (1, .iconst (1), 2, 99), (2, .if_icmp .lt 12, 5, 99), (5, .iload 1, 6, 99), (6, .iconst (999), 9, 99), (9, .if_icmp .le 15, 12, 99), (12, .iconst (-1000001), 14, 99), (14, .ireturn, 15, 99), (15, .aload 0, 16, 99), (16, .getfield 307, 19, 99), (19, .iload 1, 20, 99), (20, .iadd, 21, 99), (21, .iconst (999999), 23, 99), (23, .if_icmp .le 29, 26, 99), (26, .iconst (-1000003), 28, 99), (28, .ireturn, 29, 99), (29, .aload 0, 30, 99), (30, .iload 1, 31, 99), (31, .invokevirtual 34, 34, 99), (34, .aload 0, 35, 99), (35, .getfield 307, 38, 99), (38, .ireturn, 39, 99)]
def ac26 : List Instr := [.iload_n 1, .iconst 1, .if_icmp .lt 10, .iload_n 1, .sipush 999, .if_icmp .le 6, .ldc 76, .ireturn, .aload_n 0, .getfield 46, .iload_n 1, .iadd, .ldc 112, .if_icmp .le 6, .ldc 77, .ireturn, .aload_n 0, .iload_n 1, .invokevirtual 113, .aload_n 0, .getfield 46, .ireturn]
-- 27 CoatedBridges$State.changeSetting(II)I
def pg27 : List AEnt := [(0, .iload 1, 1, 99), (1, .ifCond .lt 28, 4, 99), (4, .iload 1, 5, 99), (5, .iconst (8), 7, 99), (7, .if_icmp .ge 28, 10, 99), (10, .iload 2, 11, 99), (11, .getstatic 1, 14, 99), (14, .iload 1, 15, 99), (15, .laload, 16, 99), (16, .if_icmp .lt 28, 19, 99), (19, .iload 2, 20, 99), (20, .getstatic 2, 23, 99), (23, .iload 1, 24, 99), (24, .laload, 25, 99), (25, .if_icmp .le 31, 28, 99), (28, .iconst (-1000001), 30, 99), (30, .ireturn, 31, 99), (31, .aload 0, 32, 99), (32, .getfield 302, 35, 99), (35, .iload 1, 36, 99), (36, .iaload, 37, 99), (37, .istore 3, 38, 99), (38, .aload 0, 39, 99), (39, .getfield 302, 42, 99), (42, .iload 1, 43, 99), (43, .iload 2, 44, 99), (44, .iastore, 45, 99), (45, .iload 3, 46, 99), (46, .ireturn, 47, 99)]
def ac27 : List Instr := [.iload_n 1, .ifCond .lt 27, .iload_n 1, .bipush 8, .if_icmp .ge 21, .iload_n 2, .getstatic 116, .iload_n 1, .iaload, .if_icmp .lt 12, .iload_n 2, .getstatic 119, .iload_n 1, .iaload, .if_icmp .le 6, .ldc 76, .ireturn, .aload_n 0, .getfield 32, .iload_n 1, .iaload, .istore_n 3, .aload_n 0, .getfield 32, .iload_n 1, .iload_n 2, .iastore, .iload_n 3, .ireturn]
-- 28 CoatedBridges$State.endDays(I)I
def pg28 : List AEnt := [(0, .iload 1, 1, 99), (1, .iconst (1), 2, 99), (2, .if_icmp .lt 11, 5, 99), (5, .iload 1, 6, 99), (6, .iconst (99), 8, 99), (8, .if_icmp .le 14, 11, 99), (11, .iconst (-1000001), 13, 99), (13, .ireturn, 14, 99), (14, .aload 0, 15, 99), (15, .getfield 306, 18, 99), (18, .iload 1, 19, 99), (19, .iadd, 20, 99), (20, .iconst (9999), 23, 99), (23, .if_icmp .le 29, 26, 99), (26, .iconst (-1000003), 28, 99), (28, .ireturn, 29, 99), (29, .iconst (0), 30, 99), (30, .istore 2, 31, 99), (31, .iconst (0), 32, 99), (32, .istore 3, 33, 99), (33, .iload 3, 34, 4), (34, .iload 1, 35, 99), (35, .if_icmp .ge 51, 38, 99), (38, .iload 2, 39, 99), (39, .aload 0, 40, 99), (40, .invokevirtual 29, 43, 99), (43, .iadd, 44, 99), (44, .istore 2, 45, 99), (45, .iinc 3 (1), 48, 99), (48, .goto 33, 51, 99), (51, .iload 2, 52, 99), (52, .ireturn, 53, 99)]
def ac28 : List Instr := [.iload_n 1, .iconst 1, .if_icmp .lt 9, .iload_n 1, .bipush 99, .if_icmp .le 6, .ldc 76, .ireturn, .aload_n 0, .getfield 64, .iload_n 1, .iadd, .sipush 9999, .if_icmp .le 6, .ldc 77, .ireturn, .iconst 0, .istore_n 2, .iconst 0, .istore_n 3, .iload_n 3, .iload_n 1, .if_icmp .ge 16, .iload_n 2, .aload_n 0, .invokevirtual 122, .iadd, .istore_n 2, .iinc 3 1, .goto (-15), .iload_n 2, .ireturn]
-- 29 CoatedBridges$State.endDay()I
def pg29_0 : List AEnt := [(0, .aload 0, 1, 99), (1, .iconst (0), 2, 99), (2, .invokevirtual 38, 5, 99), (5, .istore 1, 6, 99), (6, .aload 0, 7, 99), (7, .invokevirtual 30, 10, 99), (10, .aload 0, 11, 99), (11, .iload 1, 12, 99), (12, .invokevirtual 31, 15, 99), (15, .aload 0, 16, 99), (16, .invokevirtual 32, 19, 99), (19, .istore 2, 20, 99), (20, .iload 2, 21, 99), (21, .ifCond .le 36, 24, 99), (24, .aload 0, 25, 99), (25, .getfield 303, 28, 99), (28, .aload 0, 29, 99), (29, .getfield 306, 32, 99), (32, .iload 2, 33, 99), (33, .invokevirtual 2, 36, 99), (36, .aload 0, 37, 99), (37, .dup, 38, 99), (38, .getfield 306, 41, 99), (41, .iconst (1), 42, 99), (42, .iadd, 43, 99), (43, .putfield 306, 46, 99), (46, .aload 0, 47, 99), (47, .aload 0, 48, 99), (48, .getfield 302, 51, 99), (51, .iconst (5), 52, 99), (52, .iaload, 53, 99), (53, .invokevirtual 34, 56, 99), (56, .iconst (0), 57, 99), (57, .istore 3, 58, 99), (58, .iload 3, 59, 4), (59, .iconst (4), 60, 99), (60, .if_icmp .ge 108, 63, 99), (63, .aload 0, 64, 99), (64, .getfield 302, 67, 99), (67, .iconst (6), 69, 99)]
def pg29_1 : List AEnt := [(69, .iaload, 70, 99), (70, .iconst (1), 71, 99), (71, .if_icmp .ne 108, 74, 99), (74, .aload 0, 75, 99), (75, .invokevirtual 37, 78, 99), (78, .istore 4, 80, 99), (80, .aload 0, 81, 99), (81, .iload 4, 83, 99), (83, .invokevirtual 21, 86, 99), (86, .ifCond .ne 92, 89, 99), (89, .goto 108, 92, 99), (92, .aload 0, 93, 99), (93, .getfield 301, 96, 99), (96, .iload 4, 98, 99), (98, .instanceof 14, 99, 99), (99, .invokevirtual 9, 102, 99), (102, .iinc 3 (1), 105, 99), (105, .goto 58, 108, 99), (108, .iload 2, 109, 99), (109, .ireturn, 110, 99)]
def pg29 : List AEnt := pg29_0 ++ (pg29_1)
def ac29_0 : List Instr := [.aload_n 0, .iconst 0, .invokevirtual 126, .istore_n 1, .aload_n 0, .invokevirtual 129, .aload_n 0, .iload_n 1, .invokevirtual 132, .aload_n 0, .invokevirtual 135, .istore_n 2, .iload_n 2, .ifCond .le 15, .aload_n 0, .getfield 38, .aload_n 0, .getfield 64, .iload_n 2, .invokevirtual 138, .aload_n 0, .dup, .getfield 64, .iconst 1, .iadd, .putfield 64, .aload_n 0, .aload_n 0, .getfield 32, .iconst 5, .iaload, .invokevirtual 113, .iconst 0, .istore_n 3, .iload_n 3, .iconst 4, .if_icmp .ge 48, .aload_n 0, .getfield 32, .bipush 6]
def ac29_1 : List Instr := [.iaload, .iconst 1, .if_icmp .ne 37, .aload_n 0, .invokevirtual 142, .istore 4, .aload_n 0, .iload 4, .invokevirtual 89, .ifCond .ne 6, .goto 19, .aload_n 0, .getfield 19, .iload 4, .aaload, .invokevirtual 100, .iinc 3 1, .goto (-47), .iload_n 2, .ireturn]
def ac29 : List Instr := ac29_0 ++ (ac29_1)
-- 30 CoatedBridges$State.paintBridges()V
def pg30_0 : List AEnt := [(0, .aload 0, 1, 99), (1, .getfield 302, 4, 99), (4, .iconst (2), 5, 99), (5, .iaload, 6, 99), (6, .istore 1, 7, 99), (7, .iconst (0), 8, 99), (8, .istore 2, 9, 99), (9, .iload 2, 10, 3), (10, .aload 0, 11, 99), (11, .getfield 305, 14, 99), (14, .if_icmp .ge 80, 17, 99), (17, .aload 0, 18, 99), (18, .getfield 301, 21, 99), (21, .iload 2, 22, 99), (22, .instanceof 14, 23, 99), (23, .getfield 105, 26, 99), (26, .iconst (1), 27, 99), (27, .if_icmp .ne 74, 30, 99), (30, .aload 0, 31, 99), (31, .getfield 307, 34, 99), (34, .iload 1, 35, 99), (35, .if_icmp .lt 74, 38, 99), (38, .aload 0, 39, 99), (39, .dup, 40, 99), (40, .getfield 307, 43, 99), (43, .iload 1, 44, 99), (44, .isub, 45, 99), (45, .putfield 307, 48, 99), (48, .aload 0, 49, 99), (49, .dup, 50, 99), (50, .getfield 308, 53, 99), (53, .iload 1, 54, 99), (54, .iadd, 55, 99), (55, .putfield 308, 58, 99), (58, .aload 0, 59, 99), (59, .getfield 301, 62, 99), (62, .iload 2, 63, 99), (63, .instanceof 14, 64, 99), (64, .aload 0, 65, 99), (65, .getfield 302, 68, 99)]
def pg30_1 : List AEnt := [(68, .iconst (1), 69, 99), (69, .iaload, 70, 99), (70, .iload 1, 71, 99), (71, .invokevirtual 11, 74, 99), (74, .iinc 2 (1), 77, 99), (77, .goto 9, 80, 99), (80, .return_, 81, 99)]
def pg30 : List AEnt := pg30_0 ++ (pg30_1)
def ac30_0 : List Instr := [.aload_n 0, .getfield 32, .iconst 2, .iaload, .istore_n 1, .iconst 0, .istore_n 2, .iload_n 2, .aload_n 0, .getfield 55, .if_icmp .ge 66, .aload_n 0, .getfield 19, .iload_n 2, .aaload, .getfield 103, .iconst 1, .if_icmp .ne 47, .aload_n 0, .getfield 46, .iload_n 1, .if_icmp .lt 39, .aload_n 0, .dup, .getfield 46, .iload_n 1, .isub, .putfield 46, .aload_n 0, .dup, .getfield 67, .iload_n 1, .iadd, .putfield 67, .aload_n 0, .getfield 19, .iload_n 2, .aaload, .aload_n 0, .getfield 32]
def ac30_1 : List Instr := [.iconst 1, .iaload, .iload_n 1, .invokevirtual 145, .iinc 2 1, .goto (-68), .return_]
def ac30 : List Instr := ac30_0 ++ (ac30_1)
-- 31 CoatedBridges$State.wearBridges(I)V
def pg31 : List AEnt := [(0, .iconst (0), 1, 99), (1, .istore 2, 2, 99), (2, .iload 2, 3, 3), (3, .aload 0, 4, 99), (4, .getfield 305, 7, 99), (7, .if_icmp .ge 60, 10, 99), (10, .iload 1, 11, 99), (11, .iload 2, 12, 99), (12, .invokestatic 88, 15, 99), (15, .ifCond .eq 27, 18, 99), (18, .aload 0, 19, 99), (19, .getfield 301, 22, 99), (22, .iload 2, 23, 99), (23, .instanceof 14, 24, 99), (24, .invokevirtual 12, 27, 99), (27, .aload 0, 28, 99), (28, .getfield 301, 31, 99), (31, .iload 2, 32, 99), (32, .instanceof 14, 33, 99), (33, .getfield 105, 36, 99), (36, .ifCond .eq 54, 39, 99), (39, .aload 0, 40, 99), (40, .getfield 301, 43, 99), (43, .iload 2, 44, 99), (44, .instanceof 14, 45, 99), (45, .dup, 46, 99), (46, .getfield 107, 49, 99), (49, .iconst (1), 50, 99), (50, .iadd, 51, 99), (51, .putfield 107, 54, 99), (54, .iinc 2 (1), 57, 99), (57, .goto 2, 60, 99), (60, .return_, 61, 99)]
def ac31 : List Instr := [.iconst 0, .istore_n 2, .iload_n 2, .aload_n 0, .getfield 55, .if_icmp .ge 53, .iload_n 1, .iload_n 2, .invokestatic 148, .ifCond .eq 12, .aload_n 0, .getfield 19, .iload_n 2, .aaload, .invokevirtual 152, .aload_n 0, .getfield 19, .iload_n 2, .aaload, .getfield 103, .ifCond .eq 18, .aload_n 0, .getfield 19, .iload_n 2, .aaload, .dup, .getfield 155, .iconst 1, .iadd, .putfield 155, .iinc 2 1, .goto (-55), .return_]
-- 32 CoatedBridges$State.letIslandsWait()I
def pg32_0 : List AEnt := [(0, .aload 0, 1, 99), (1, .iconst (0), 2, 99), (2, .iconst (-1), 3, 99), (3, .invokevirtual 39, 6, 99), (6, .istore 1, 7, 99), (7, .iconst (0), 8, 99), (8, .istore 2, 9, 99), (9, .iconst (1), 10, 99), (10, .istore 3, 11, 99), (11, .iload 3, 12, 4), (12, .aload 0, 13, 99), (13, .getfield 304, 16, 99), (16, .if_icmp .ge 98, 19, 99), (19, .aload 0, 20, 99), (20, .getfield 300, 23, 99), (23, .iload 3, 24, 99), (24, .instanceof 13, 25, 99), (25, .astore 4, 27, 99), (27, .iload 1, 28, 99), (28, .iload 3, 29, 99), (29, .invokestatic 88, 32, 99), (32, .ifCond .eq 44, 35, 99), (35, .aload 4, 37, 99), (37, .iconst (0), 38, 99), (38, .putfield 201, 41, 99), (41, .goto 92, 44, 99), (44, .aload 0, 45, 99), (45, .getfield 302, 48, 99), (48, .iconst (3), 49, 99), (49, .iaload, 50, 99), (50, .iconst (1), 51, 99), (51, .if_icmp .ne 75, 54, 99), (54, .aload 0, 55, 99), (55, .getfield 307, 58, 99), (58, .aload 4, 60, 99), (60, .getfield 200, 63, 99), (63, .if_icmp .lt 75, 66, 99), (66, .aload 0, 67, 99), (67, .aload 4, 69, 99), (69, .invokevirtual 33, 72, 99)]
def pg32_1 : List AEnt := [(72, .goto 92, 75, 99), (75, .aload 4, 77, 99), (77, .aload 0, 78, 99), (78, .getfield 302, 81, 99), (81, .iconst (4), 82, 99), (82, .iaload, 83, 99), (83, .invokevirtual 17, 86, 99), (86, .ifCond .eq 92, 89, 99), (89, .iinc 2 (1), 92, 99), (92, .iinc 3 (1), 95, 99), (95, .goto 11, 98, 99), (98, .iload 2, 99, 99), (99, .ireturn, 100, 99)]
def pg32 : List AEnt := pg32_0 ++ (pg32_1)
def ac32_0 : List Instr := [.aload_n 0, .iconst 0, .iconst (-1), .invokevirtual 158, .istore_n 1, .iconst 0, .istore_n 2, .iconst 1, .istore_n 3, .iload_n 3, .aload_n 0, .getfield 42, .if_icmp .ge 82, .aload_n 0, .getfield 11, .iload_n 3, .aaload, .astore 4, .iload_n 1, .iload_n 3, .invokestatic 148, .ifCond .eq 12, .aload 4, .iconst 0, .putfield 162, .goto 51, .aload_n 0, .getfield 32, .iconst 3, .iaload, .iconst 1, .if_icmp .ne 24, .aload_n 0, .getfield 46, .aload 4, .getfield 165, .if_icmp .lt 12, .aload_n 0, .aload 4, .invokevirtual 168]
def ac32_1 : List Instr := [.goto 20, .aload 4, .aload_n 0, .getfield 32, .iconst 4, .iaload, .invokevirtual 171, .ifCond .eq 6, .iinc 2 1, .iinc 3 1, .goto (-84), .iload_n 2, .ireturn]
def ac32 : List Instr := ac32_0 ++ (ac32_1)
-- 33 CoatedBridges$State.payFerry(LCoatedBridges$Island;)V
def pg33 : List AEnt := [(0, .aload 0, 1, 99), (1, .dup, 2, 99), (2, .getfield 307, 5, 99), (5, .aload 1, 6, 99), (6, .getfield 200, 9, 99), (9, .isub, 10, 99), (10, .putfield 307, 13, 99), (13, .aload 0, 14, 99), (14, .dup, 15, 99), (15, .getfield 309, 18, 99), (18, .aload 1, 19, 99), (19, .getfield 200, 22, 99), (22, .iadd, 23, 99), (23, .putfield 309, 26, 99), (26, .aload 1, 27, 99), (27, .dup, 28, 99), (28, .getfield 204, 31, 99), (31, .iconst (1), 32, 99), (32, .iadd, 33, 99), (33, .putfield 204, 36, 99), (36, .aload 1, 37, 99), (37, .iconst (0), 38, 99), (38, .putfield 201, 41, 99), (41, .return_, 42, 99)]
def ac33 : List Instr := [.aload_n 0, .dup, .getfield 46, .aload_n 1, .getfield 165, .isub, .putfield 46, .aload_n 0, .dup, .getfield 70, .aload_n 1, .getfield 165, .iadd, .putfield 70, .aload_n 1, .dup, .getfield 174, .iconst 1, .iadd, .putfield 174, .aload_n 1, .iconst 0, .putfield 162, .return_]
-- 34 CoatedBridges$State.receive(I)V
def pg34 : List AEnt := [(0, .aload 0, 1, 99), (1, .dup, 2, 99), (2, .getfield 307, 5, 99), (5, .iload 1, 6, 99), (6, .iadd, 7, 99), (7, .putfield 307, 10, 99), (10, .aload 0, 11, 99), (11, .dup, 12, 99), (12, .getfield 310, 15, 99), (15, .iload 1, 16, 99), (16, .iadd, 17, 99), (17, .putfield 310, 20, 99), (20, .return_, 21, 99)]
def ac34 : List Instr := [.aload_n 0, .dup, .getfield 46, .iload_n 1, .iadd, .putfield 46, .aload_n 0, .dup, .getfield 73, .iload_n 1, .iadd, .putfield 73, .return_]
-- 35 CoatedBridges$State.freeCrews()I
def pg35 : List AEnt := [(0, .iconst (0), 1, 99), (1, .aload 0, 2, 99), (2, .getfield 302, 5, 99), (5, .iconst (0), 6, 99), (6, .iaload, 7, 99), (7, .aload 0, 8, 99), (8, .iconst (1), 9, 99), (9, .invokevirtual 38, 12, 99), (12, .invokestatic 170, 15, 99), (15, .isub, 16, 99), (16, .invokestatic 171, 19, 99), (19, .ireturn, 20, 99)]
def ac35 : List Instr := [.iconst 0, .aload_n 0, .getfield 32, .iconst 0, .iaload, .aload_n 0, .iconst 1, .invokevirtual 126, .invokestatic 177, .isub, .invokestatic 182, .ireturn]
-- 36 CoatedBridges$State.reasonAgainst(I)I
def pg36 : List AEnt := [(0, .aload 0, 1, 99), (1, .getfield 301, 4, 99), (4, .iload 1, 5, 99), (5, .instanceof 14, 6, 99), (6, .getfield 105, 9, 99), (9, .iconst (1), 10, 99), (10, .if_icmp .ne 15, 13, 99), (13, .iconst (1), 14, 99), (14, .ireturn, 15, 99), (15, .aload 0, 16, 99), (16, .getfield 301, 19, 99), (19, .iload 1, 20, 99), (20, .instanceof 14, 21, 99), (21, .getfield 104, 24, 99), (24, .iconst (100), 26, 99), (26, .if_icmp .ne 31, 29, 99), (29, .iconst (2), 30, 99), (30, .ireturn, 31, 99), (31, .aload 0, 32, 99), (32, .invokevirtual 35, 35, 99), (35, .ifCond .ne 40, 38, 99), (38, .iconst (3), 39, 99), (39, .ireturn, 40, 99), (40, .aload 0, 41, 99), (41, .iload 1, 42, 99), (42, .invokevirtual 41, 45, 99), (45, .ifCond .ne 52, 48, 99), (48, .iconst (0), 49, 99), (49, .goto 53, 52, 99), (52, .iconst (4), 53, 99), (53, .ireturn, 54, 99)]
def ac36 : List Instr := [.aload_n 0, .getfield 19, .iload_n 1, .aaload, .getfield 103, .iconst 1, .if_icmp .ne 5, .iconst 1, .ireturn, .aload_n 0, .getfield 19, .iload_n 1, .aaload, .getfield 109, .bipush 100, .if_icmp .ne 5, .iconst 2, .ireturn, .aload_n 0, .invokevirtual 187, .ifCond .ne 5, .iconst 3, .ireturn, .aload_n 0, .iload_n 1, .invokevirtual 97, .ifCond .ne 7, .iconst 0, .goto 4, .iconst 4, .ireturn]
-- 37 CoatedBridges$State.bridgeToPaintNext()I
def pg37_0 : List AEnt := [(0, .aload 0, 1, 99), (1, .invokevirtual 35, 4, 99), (4, .ifCond .ne 10, 7, 99), (7, .iconst (-1000004), 9, 99), (9, .ireturn, 10, 99), (10, .aload 0, 11, 99), (11, .iconst (0), 12, 99), (12, .iconst (-1), 13, 99), (13, .invokevirtual 39, 16, 99), (16, .istore 1, 17, 99), (17, .iconst (-1000004), 19, 99), (19, .istore 2, 20, 99), (20, .aload 0, 21, 99), (21, .getfield 302, 24, 99), (24, .iconst (7), 26, 99), (26, .iaload, 27, 99), (27, .iconst (1), 28, 99), (28, .iadd, 29, 99), (29, .istore 3, 30, 99), (30, .iconst (0), 31, 99), (31, .istore 4, 33, 99), (33, .iload 4, 35, 5), (35, .aload 0, 36, 99), (36, .getfield 305, 39, 99), (39, .if_icmp .ge 95, 42, 99), (42, .aload 0, 43, 99), (43, .getfield 301, 46, 99), (46, .iload 4, 48, 99), (48, .instanceof 14, 49, 99), (49, .astore 5, 51, 99), (51, .aload 5, 53, 99), (53, .getfield 105, 56, 99), (56, .iconst (1), 57, 99), (57, .if_icmp .eq 89, 60, 99), (60, .aload 5, 62, 99), (62, .getfield 104, 65, 99), (65, .iload 3, 66, 99), (66, .if_icmp .ge 89, 69, 99), (69, .aload 0, 70, 99), (70, .iconst (0), 71, 99)]
def pg37_1 : List AEnt := [(71, .iload 4, 73, 99), (73, .invokevirtual 39, 76, 99), (76, .iload 1, 77, 99), (77, .if_icmp .ne 89, 80, 99), (80, .aload 5, 82, 99), (82, .getfield 104, 85, 99), (85, .istore 3, 86, 99), (86, .iload 4, 88, 99), (88, .istore 2, 89, 99), (89, .iinc 4 (1), 92, 99), (92, .goto 33, 95, 99), (95, .iload 2, 96, 99), (96, .ireturn, 97, 99)]
def pg37 : List AEnt := pg37_0 ++ (pg37_1)
def ac37_0 : List Instr := [.aload_n 0, .invokevirtual 187, .ifCond .ne 6, .ldc 190, .ireturn, .aload_n 0, .iconst 0, .iconst (-1), .invokevirtual 158, .istore_n 1, .ldc 190, .istore_n 2, .aload_n 0, .getfield 32, .bipush 7, .iaload, .iconst 1, .iadd, .istore_n 3, .iconst 0, .istore 4, .iload 4, .aload_n 0, .getfield 55, .if_icmp .ge 56, .aload_n 0, .getfield 19, .iload 4, .aaload, .astore 5, .aload 5, .getfield 103, .iconst 1, .if_icmp .eq 32, .aload 5, .getfield 109, .iload_n 3, .if_icmp .ge 23, .aload_n 0, .iconst 0]
def ac37_1 : List Instr := [.iload 4, .invokevirtual 158, .iload_n 1, .if_icmp .ne 12, .aload 5, .getfield 109, .istore_n 3, .iload 4, .istore_n 2, .iinc 4 1, .goto (-59), .iload_n 2, .ireturn]
def ac37 : List Instr := ac37_0 ++ (ac37_1)
-- 38 CoatedBridges$State.bridgesThatAre(I)I
def pg38 : List AEnt := [(0, .iconst (0), 1, 99), (1, .istore 2, 2, 99), (2, .iconst (0), 3, 99), (3, .istore 3, 4, 99), (4, .iload 3, 5, 4), (5, .aload 0, 6, 99), (6, .getfield 305, 9, 99), (9, .if_icmp .ge 37, 12, 99), (12, .aload 0, 13, 99), (13, .getfield 301, 16, 99), (16, .iload 3, 17, 99), (17, .instanceof 14, 18, 99), (18, .getfield 105, 21, 99), (21, .iload 1, 22, 99), (22, .if_icmp .ne 31, 25, 99), (25, .iload 2, 26, 99), (26, .iconst (1), 27, 99), (27, .iload 3, 28, 99), (28, .ishl, 29, 99), (29, .ior, 30, 99), (30, .istore 2, 31, 99), (31, .iinc 3 (1), 34, 99), (34, .goto 4, 37, 99), (37, .iload 2, 38, 99), (38, .ireturn, 39, 99)]
def ac38 : List Instr := [.iconst 0, .istore_n 2, .iconst 0, .istore_n 3, .iload_n 3, .aload_n 0, .getfield 55, .if_icmp .ge 28, .aload_n 0, .getfield 19, .iload_n 3, .aaload, .getfield 103, .iload_n 1, .if_icmp .ne 9, .iload_n 2, .iconst 1, .iload_n 3, .ishl, .ior, .istore_n 2, .iinc 3 1, .goto (-30), .iload_n 2, .ireturn]
-- 39 CoatedBridges$State.reachFrom(II)I
def pg39 : List AEnt := [(0, .iconst (1), 1, 99), (1, .iload 1, 2, 99), (2, .ishl, 3, 99), (3, .istore 3, 4, 99), (4, .iconst (0), 5, 99), (5, .istore 4, 7, 99), (7, .iload 4, 9, 5), (9, .iconst (8), 11, 99), (11, .if_icmp .ge 39, 14, 99), (14, .aload 0, 15, 99), (15, .iload 3, 16, 99), (16, .iload 2, 17, 99), (17, .invokevirtual 40, 20, 99), (20, .istore 5, 22, 99), (22, .iload 5, 24, 99), (24, .iload 3, 25, 99), (25, .if_icmp .ne 30, 28, 99), (28, .iload 3, 29, 99), (29, .ireturn, 30, 99), (30, .iload 5, 32, 99), (32, .istore 3, 33, 99), (33, .iinc 4 (1), 36, 99), (36, .goto 7, 39, 99), (39, .iload 3, 40, 99), (40, .ireturn, 41, 99)]
def ac39 : List Instr := [.iconst 1, .iload_n 1, .ishl, .istore_n 3, .iconst 0, .istore 4, .iload 4, .bipush 8, .if_icmp .ge 28, .aload_n 0, .iload_n 3, .iload_n 2, .invokevirtual 191, .istore 5, .iload 5, .iload_n 3, .if_icmp .ne 5, .iload_n 3, .ireturn, .iload 5, .istore_n 3, .iinc 4 1, .goto (-29), .iload_n 3, .ireturn]
-- 40 CoatedBridges$State.oneBridgeOn(II)I
def pg40 : List AEnt := [(0, .iload 1, 1, 99), (1, .istore 3, 2, 99), (2, .iconst (0), 3, 99), (3, .istore 4, 5, 99), (5, .iload 4, 7, 5), (7, .aload 0, 8, 99), (8, .getfield 305, 11, 99), (11, .if_icmp .ge 61, 14, 99), (14, .aload 0, 15, 99), (15, .getfield 301, 18, 99), (18, .iload 4, 20, 99), (20, .instanceof 14, 21, 99), (21, .astore 5, 23, 99), (23, .aload 5, 25, 99), (25, .getfield 105, 28, 99), (28, .ifCond .ne 55, 31, 99), (31, .iload 4, 33, 99), (33, .iload 2, 34, 99), (34, .if_icmp .eq 55, 37, 99), (37, .iload 1, 38, 99), (38, .aload 5, 40, 99), (40, .getfield 102, 43, 99), (43, .iand, 44, 99), (44, .ifCond .eq 55, 47, 99), (47, .iload 3, 48, 99), (48, .aload 5, 50, 99), (50, .getfield 102, 53, 99), (53, .ior, 54, 99), (54, .istore 3, 55, 99), (55, .iinc 4 (1), 58, 99), (58, .goto 5, 61, 99), (61, .iload 3, 62, 99), (62, .ireturn, 63, 99)]
def ac40 : List Instr := [.iload_n 1, .istore_n 3, .iconst 0, .istore 4, .iload 4, .aload_n 0, .getfield 55, .if_icmp .ge 50, .aload_n 0, .getfield 19, .iload 4, .aaload, .astore 5, .aload 5, .getfield 103, .ifCond .ne 27, .iload 4, .iload_n 2, .if_icmp .eq 21, .iload_n 1, .aload 5, .getfield 194, .iand, .ifCond .eq 11, .iload_n 3, .aload 5, .getfield 194, .ior, .istore_n 3, .iinc 4 1, .goto (-53), .iload_n 3, .ireturn]
-- 41 CoatedBridges$State.lostWithout(I)I
def pg41 : List AEnt := [(0, .aload 0, 1, 99), (1, .iconst (0), 2, 99), (2, .iconst (-1), 3, 99), (3, .invokevirtual 39, 6, 99), (6, .aload 0, 7, 99), (7, .iconst (0), 8, 99), (8, .iload 1, 9, 99), (9, .invokevirtual 39, 12, 99), (12, .iconst (-1), 13, 99), (13, .ixor, 14, 99), (14, .iand, 15, 99), (15, .ireturn, 16, 99)]
def ac41 : List Instr := [.aload_n 0, .iconst 0, .iconst (-1), .invokevirtual 158, .aload_n 0, .iconst 0, .iload_n 1, .invokevirtual 158, .iconst (-1), .ixor, .iand, .ireturn]
-- 42 CoatedBridges$State.neededBridges()I
def pg42 : List AEnt := [(0, .aload 0, 1, 99), (1, .iconst (0), 2, 99), (2, .iconst (-1), 3, 99), (3, .invokevirtual 39, 6, 99), (6, .istore 1, 7, 99), (7, .iconst (0), 8, 99), (8, .istore 2, 9, 99), (9, .iconst (0), 10, 99), (10, .istore 3, 11, 99), (11, .iload 3, 12, 4), (12, .aload 0, 13, 99), (13, .getfield 305, 16, 99), (16, .if_icmp .ge 53, 19, 99), (19, .aload 0, 20, 99), (20, .getfield 301, 23, 99), (23, .iload 3, 24, 99), (24, .instanceof 14, 25, 99), (25, .getfield 105, 28, 99), (28, .ifCond .ne 47, 31, 99), (31, .aload 0, 32, 99), (32, .iconst (0), 33, 99), (33, .iload 3, 34, 99), (34, .invokevirtual 39, 37, 99), (37, .iload 1, 38, 99), (38, .if_icmp .eq 47, 41, 99), (41, .iload 2, 42, 99), (42, .iconst (1), 43, 99), (43, .iload 3, 44, 99), (44, .ishl, 45, 99), (45, .ior, 46, 99), (46, .istore 2, 47, 99), (47, .iinc 3 (1), 50, 99), (50, .goto 11, 53, 99), (53, .iload 2, 54, 99), (54, .ireturn, 55, 99)]
def ac42 : List Instr := [.aload_n 0, .iconst 0, .iconst (-1), .invokevirtual 158, .istore_n 1, .iconst 0, .istore_n 2, .iconst 0, .istore_n 3, .iload_n 3, .aload_n 0, .getfield 55, .if_icmp .ge 37, .aload_n 0, .getfield 19, .iload_n 3, .aaload, .getfield 103, .ifCond .ne 19, .aload_n 0, .iconst 0, .iload_n 3, .invokevirtual 158, .iload_n 1, .if_icmp .eq 9, .iload_n 2, .iconst 1, .iload_n 3, .ishl, .ior, .istore_n 2, .iinc 3 1, .goto (-39), .iload_n 2, .ireturn]
-- 43 CoatedBridges$State.bridgesTo(I)I
def pg43 : List AEnt := [(0, .iconst (1), 1, 99), (1, .istore 2, 2, 99), (2, .iconst (0), 3, 99), (3, .istore 3, 4, 99), (4, .iload 3, 5, 4), (5, .iconst (8), 7, 99), (7, .if_icmp .ge 33, 10, 99), (10, .iload 2, 11, 99), (11, .iload 1, 12, 99), (12, .invokestatic 88, 15, 99), (15, .ifCond .eq 20, 18, 99), (18, .iload 3, 19, 99), (19, .ireturn, 20, 99), (20, .aload 0, 21, 99), (21, .iload 2, 22, 99), (22, .iconst (-1), 23, 99), (23, .invokevirtual 40, 26, 99), (26, .istore 2, 27, 99), (27, .iinc 3 (1), 30, 99), (30, .goto 4, 33, 99), (33, .iconst (-1000004), 35, 99), (35, .ireturn, 36, 99)]
def ac43 : List Instr := [.iconst 1, .istore_n 2, .iconst 0, .istore_n 3, .iload_n 3, .bipush 8, .if_icmp .ge 26, .iload_n 2, .iload_n 1, .invokestatic 148, .ifCond .eq 5, .iload_n 3, .ireturn, .aload_n 0, .iload_n 2, .iconst (-1), .invokevirtual 191, .istore_n 2, .iinc 3 1, .goto (-26), .ldc 190, .ireturn]
-- 44 CoatedBridges$State.openBridgesAt(I)I
def pg44 : List AEnt := [(0, .iconst (0), 1, 99), (1, .istore 2, 2, 99), (2, .iconst (0), 3, 99), (3, .istore 3, 4, 99), (4, .iload 3, 5, 4), (5, .aload 0, 6, 99), (6, .getfield 305, 9, 99), (9, .if_icmp .ge 49, 12, 99), (12, .aload 0, 13, 99), (13, .getfield 301, 16, 99), (16, .iload 3, 17, 99), (17, .instanceof 14, 18, 99), (18, .getfield 105, 21, 99), (21, .ifCond .ne 43, 24, 99), (24, .aload 0, 25, 99), (25, .getfield 301, 28, 99), (28, .iload 3, 29, 99), (29, .instanceof 14, 30, 99), (30, .getfield 102, 33, 99), (33, .iload 1, 34, 99), (34, .invokestatic 88, 37, 99), (37, .ifCond .eq 43, 40, 99), (40, .iinc 2 (1), 43, 99), (43, .iinc 3 (1), 46, 99), (46, .goto 4, 49, 99), (49, .iload 2, 50, 99), (50, .ireturn, 51, 99)]
def ac44 : List Instr := [.iconst 0, .istore_n 2, .iconst 0, .istore_n 3, .iload_n 3, .aload_n 0, .getfield 55, .if_icmp .ge 40, .aload_n 0, .getfield 19, .iload_n 3, .aaload, .getfield 103, .ifCond .ne 22, .aload_n 0, .getfield 19, .iload_n 3, .aaload, .getfield 194, .iload_n 1, .invokestatic 148, .ifCond .eq 6, .iinc 2 1, .iinc 3 1, .goto (-42), .iload_n 2, .ireturn]
-- 45 CoatedBridges$State.groups()I
def pg45 : List AEnt := [(0, .iconst (0), 1, 99), (1, .istore 1, 2, 99), (2, .iconst (0), 3, 99), (3, .istore 2, 4, 99), (4, .iconst (0), 5, 99), (5, .istore 3, 6, 99), (6, .iload 3, 7, 4), (7, .aload 0, 8, 99), (8, .getfield 304, 11, 99), (11, .if_icmp .ge 40, 14, 99), (14, .iload 2, 15, 99), (15, .iload 3, 16, 99), (16, .invokestatic 88, 19, 99), (19, .ifCond .ne 34, 22, 99), (22, .iload 2, 23, 99), (23, .aload 0, 24, 99), (24, .iload 3, 25, 99), (25, .iconst (-1), 26, 99), (26, .invokevirtual 39, 29, 99), (29, .ior, 30, 99), (30, .istore 2, 31, 99), (31, .iinc 1 (1), 34, 99), (34, .iinc 3 (1), 37, 99), (37, .goto 6, 40, 99), (40, .iload 1, 41, 99), (41, .ireturn, 42, 99)]
def ac45 : List Instr := [.iconst 0, .istore_n 1, .iconst 0, .istore_n 2, .iconst 0, .istore_n 3, .iload_n 3, .aload_n 0, .getfield 42, .if_icmp .ge 29, .iload_n 2, .iload_n 3, .invokestatic 148, .ifCond .ne 15, .iload_n 2, .aload_n 0, .iload_n 3, .iconst (-1), .invokevirtual 158, .ior, .istore_n 2, .iinc 1 1, .iinc 3 1, .goto (-31), .iload_n 1, .ireturn]
-- 46 CoatedBridges$State.lowestOnes()I
def pg46 : List AEnt := [(0, .iconst (0), 1, 99), (1, .istore 1, 2, 99), (2, .iconst (0), 3, 99), (3, .istore 2, 4, 99), (4, .iload 2, 5, 3), (5, .aload 0, 6, 99), (6, .getfield 304, 9, 99), (9, .if_icmp .ge 34, 12, 99), (12, .aload 0, 13, 99), (13, .iload 2, 14, 99), (14, .iconst (-1), 15, 99), (15, .invokevirtual 39, 18, 99), (18, .invokestatic 89, 21, 99), (21, .iload 2, 22, 99), (22, .if_icmp .ne 28, 25, 99), (25, .iinc 1 (1), 28, 99), (28, .iinc 2 (1), 31, 99), (31, .goto 4, 34, 99), (34, .iload 1, 35, 99), (35, .ireturn, 36, 99)]
def ac46 : List Instr := [.iconst 0, .istore_n 1, .iconst 0, .istore_n 2, .iload_n 2, .aload_n 0, .getfield 42, .if_icmp .ge 25, .aload_n 0, .iload_n 2, .iconst (-1), .invokevirtual 158, .invokestatic 197, .iload_n 2, .if_icmp .ne 6, .iinc 1 1, .iinc 2 1, .goto (-27), .iload_n 1, .ireturn]
-- 47 CoatedBridges$State.coatsTogether()I
def pg47 : List AEnt := [(0, .iconst (0), 1, 99), (1, .istore 1, 2, 99), (2, .iconst (0), 3, 99), (3, .istore 2, 4, 99), (4, .iload 2, 5, 3), (5, .aload 0, 6, 99), (6, .getfield 305, 9, 99), (9, .if_icmp .ge 30, 12, 99), (12, .iload 1, 13, 99), (13, .aload 0, 14, 99), (14, .getfield 301, 17, 99), (17, .iload 2, 18, 99), (18, .instanceof 14, 19, 99), (19, .getfield 104, 22, 99), (22, .iadd, 23, 99), (23, .istore 1, 24, 99), (24, .iinc 2 (1), 27, 99), (27, .goto 4, 30, 99), (30, .iload 1, 31, 99), (31, .ireturn, 32, 99)]
def ac47 : List Instr := [.iconst 0, .istore_n 1, .iconst 0, .istore_n 2, .iload_n 2, .aload_n 0, .getfield 55, .if_icmp .ge 21, .iload_n 1, .aload_n 0, .getfield 19, .iload_n 2, .aaload, .getfield 109, .iadd, .istore_n 1, .iinc 2 1, .goto (-23), .iload_n 1, .ireturn]
-- 48 CoatedBridges$State.complaintsSoFar()I
def pg48 : List AEnt := [(0, .iconst (0), 1, 99), (1, .istore 1, 2, 99), (2, .iconst (0), 3, 99), (3, .istore 2, 4, 99), (4, .iload 2, 5, 3), (5, .aload 0, 6, 99), (6, .getfield 304, 9, 99), (9, .if_icmp .ge 30, 12, 99), (12, .iload 1, 13, 99), (13, .aload 0, 14, 99), (14, .getfield 300, 17, 99), (17, .iload 2, 18, 99), (18, .instanceof 13, 19, 99), (19, .getfield 203, 22, 99), (22, .iadd, 23, 99), (23, .istore 1, 24, 99), (24, .iinc 2 (1), 27, 99), (27, .goto 4, 30, 99), (30, .iload 1, 31, 99), (31, .ireturn, 32, 99)]
def ac48 : List Instr := [.iconst 0, .istore_n 1, .iconst 0, .istore_n 2, .iload_n 2, .aload_n 0, .getfield 42, .if_icmp .ge 21, .iload_n 1, .aload_n 0, .getfield 11, .iload_n 2, .aaload, .getfield 200, .iadd, .istore_n 1, .iinc 2 1, .goto (-23), .iload_n 1, .ireturn]
-- 49 CoatedBridges$State.longestWaitSoFar()I
def pg49 : List AEnt := [(0, .iconst (0), 1, 99), (1, .istore 1, 2, 99), (2, .iconst (0), 3, 99), (3, .istore 2, 4, 99), (4, .iload 2, 5, 3), (5, .aload 0, 6, 99), (6, .getfield 304, 9, 99), (9, .if_icmp .ge 32, 12, 99), (12, .iload 1, 13, 99), (13, .aload 0, 14, 99), (14, .getfield 300, 17, 99), (17, .iload 2, 18, 99), (18, .instanceof 13, 19, 99), (19, .getfield 202, 22, 99), (22, .invokestatic 171, 25, 99), (25, .istore 1, 26, 99), (26, .iinc 2 (1), 29, 99), (29, .goto 4, 32, 99), (32, .iload 1, 33, 99), (33, .ireturn, 34, 99)]
def ac49 : List Instr := [.iconst 0, .istore_n 1, .iconst 0, .istore_n 2, .iload_n 2, .aload_n 0, .getfield 42, .if_icmp .ge 23, .iload_n 1, .aload_n 0, .getfield 11, .iload_n 2, .aaload, .getfield 203, .invokestatic 182, .istore_n 1, .iinc 2 1, .goto (-25), .iload_n 1, .ireturn]
-- 50 CoatedBridges$Text.<init>()V
def pg50 : List AEnt := [(0, .aload 0, 1, 99), (1, .nop, 4, 99), (4, .aload 0, 5, 99), (5, .iconst (60), 7, 99), (7, .newarray .char, 9, 99), (9, .putfield 400, 12, 99), (12, .aload 0, 13, 99), (13, .iconst (3), 14, 99), (14, .newarray .int, 16, 99), (16, .putfield 402, 19, 99), (19, .return_, 20, 99)]
def ac50 : List Instr := [.aload_n 0, .invokespecial 3, .aload_n 0, .bipush 60, .newarray .char, .putfield 9, .aload_n 0, .iconst 3, .newarray .int, .putfield 15, .return_]
-- 51 CoatedBridges$Text.append(C)Z
def pg51 : List AEnt := [(0, .aload 0, 1, 99), (1, .getfield 401, 4, 99), (4, .iconst (60), 6, 99), (6, .if_icmp .lt 11, 9, 99), (9, .iconst (0), 10, 99), (10, .freturn, 11, 99), (11, .aload 0, 12, 99), (12, .getfield 400, 15, 99), (15, .aload 0, 16, 99), (16, .getfield 401, 19, 99), (19, .iload 1, 20, 99), (20, .castore, 21, 99), (21, .aload 0, 22, 99), (22, .dup, 23, 99), (23, .getfield 401, 26, 99), (26, .iconst (1), 27, 99), (27, .iadd, 28, 99), (28, .putfield 401, 31, 99), (31, .iconst (1), 32, 99), (32, .freturn, 33, 99)]
def ac51 : List Instr := [.aload_n 0, .getfield 19, .bipush 60, .if_icmp .lt 5, .iconst 0, .ireturn, .aload_n 0, .getfield 9, .aload_n 0, .getfield 19, .iload_n 1, .castore, .aload_n 0, .dup, .getfield 19, .iconst 1, .iadd, .putfield 19, .iconst 1, .ireturn]
-- 52 CoatedBridges$Text.readOrder(I)Z
def pg52_0 : List AEnt := [(0, .aload 0, 1, 99), (1, .iload 1, 2, 99), (2, .putfield 404, 5, 99), (5, .aload 0, 6, 99), (6, .aload 0, 7, 99), (7, .getfield 400, 10, 99), (10, .aload 0, 11, 99), (11, .getfield 404, 14, 99), (14, .caload, 15, 99), (15, .putfield 403, 18, 99), (18, .aload 0, 19, 99), (19, .getfield 403, 22, 99), (22, .invokestatic 53, 25, 99), (25, .istore 2, 26, 99), (26, .iload 2, 27, 99), (27, .ifCond .ne 32, 30, 99), (30, .iconst (0), 31, 99), (31, .freturn, 32, 99), (32, .aload 0, 33, 99), (33, .dup, 34, 99), (34, .getfield 404, 37, 99), (37, .iconst (1), 38, 99), (38, .iadd, 39, 99), (39, .putfield 404, 42, 99), (42, .iconst (0), 43, 99), (43, .istore 3, 44, 99), (44, .iload 3, 45, 4), (45, .iload 2, 46, 99), (46, .if_icmp .ge 78, 49, 99), (49, .iload 3, 50, 99), (50, .ifCond .le 62, 53, 99), (53, .aload 0, 54, 99), (54, .iconst (44), 56, 99), (56, .invokevirtual 54, 59, 99), (59, .ifCond .eq 70, 62, 99), (62, .aload 0, 63, 99), (63, .iload 3, 64, 99), (64, .invokevirtual 55, 67, 99), (67, .ifCond .ne 72, 70, 99), (70, .iconst (0), 71, 99)]
def pg52_1 : List AEnt := [(71, .freturn, 72, 99), (72, .iinc 3 (1), 75, 99), (75, .goto 44, 78, 99), (78, .aload 0, 79, 99), (79, .iconst (59), 81, 99), (81, .invokevirtual 54, 84, 99), (84, .freturn, 85, 99)]
def pg52 : List AEnt := pg52_0 ++ (pg52_1)
def ac52_0 : List Instr := [.aload_n 0, .iload_n 1, .putfield 23, .aload_n 0, .aload_n 0, .getfield 9, .aload_n 0, .getfield 23, .caload, .putfield 26, .aload_n 0, .getfield 26, .invokestatic 30, .istore_n 2, .iload_n 2, .ifCond .ne 5, .iconst 0, .ireturn, .aload_n 0, .dup, .getfield 23, .iconst 1, .iadd, .putfield 23, .iconst 0, .istore_n 3, .iload_n 3, .iload_n 2, .if_icmp .ge 32, .iload_n 3, .ifCond .le 12, .aload_n 0, .bipush 44, .invokevirtual 34, .ifCond .eq 11, .aload_n 0, .iload_n 3, .invokevirtual 38, .ifCond .ne 5, .iconst 0]
def ac52_1 : List Instr := [.ireturn, .iinc 3 1, .goto (-31), .aload_n 0, .bipush 59, .invokevirtual 34, .ireturn]
def ac52 : List Instr := ac52_0 ++ (ac52_1)
-- 53 CoatedBridges$Text.numbersOf(C)I
def pg53 : List AEnt := [(0, .iload 0, 1, 99), (1, .tableswitch 92 (98) (115) #[88, 92, 90, 92, 90, 92, 92, 90, 92, 92, 92, 92, 92, 92, 90, 92, 90, 90], 88, 99), (88, .iconst (3), 89, 99), (89, .ireturn, 90, 99), (90, .iconst (1), 91, 99), (91, .ireturn, 92, 99), (92, .iconst (0), 93, 99), (93, .ireturn, 94, 99)]
def ac53 : List Instr := [.iload_n 0, .tableswitch 91 98 115 #[87, 91, 89, 91, 89, 91, 91, 89, 91, 91, 91, 91, 91, 91, 89, 91, 89, 89], .iconst 3, .ireturn, .iconst 1, .ireturn, .iconst 0, .ireturn]
-- 54 CoatedBridges$Text.take(C)Z
def pg54 : List AEnt := [(0, .aload 0, 1, 99), (1, .getfield 404, 4, 99), (4, .aload 0, 5, 99), (5, .getfield 401, 8, 99), (8, .if_icmp .ge 24, 11, 99), (11, .aload 0, 12, 99), (12, .getfield 400, 15, 99), (15, .aload 0, 16, 99), (16, .getfield 404, 19, 99), (19, .caload, 20, 99), (20, .iload 1, 21, 99), (21, .if_icmp .eq 26, 24, 99), (24, .iconst (0), 25, 99), (25, .freturn, 26, 99), (26, .aload 0, 27, 99), (27, .dup, 28, 99), (28, .getfield 404, 31, 99), (31, .iconst (1), 32, 99), (32, .iadd, 33, 99), (33, .putfield 404, 36, 99), (36, .iconst (1), 37, 99), (37, .freturn, 38, 99)]
def ac54 : List Instr := [.aload_n 0, .getfield 23, .aload_n 0, .getfield 19, .if_icmp .ge 16, .aload_n 0, .getfield 9, .aload_n 0, .getfield 23, .caload, .iload_n 1, .if_icmp .eq 5, .iconst 0, .ireturn, .aload_n 0, .dup, .getfield 23, .iconst 1, .iadd, .putfield 23, .iconst 1, .ireturn]
-- 55 CoatedBridges$Text.readNumber(I)Z
def pg55_0 : List AEnt := [(0, .iconst (0), 1, 99), (1, .istore 2, 2, 99), (2, .iconst (0), 3, 99), (3, .istore 3, 4, 99), (4, .iload 3, 5, 4), (5, .iconst (3), 6, 99), (6, .if_icmp .ge 50, 9, 99), (9, .aload 0, 10, 99), (10, .invokevirtual 56, 13, 99), (13, .ifCond .eq 50, 16, 99), (16, .iload 2, 17, 99), (17, .iconst (10), 19, 99), (19, .imul, 20, 99), (20, .aload 0, 21, 99), (21, .getfield 400, 24, 99), (24, .aload 0, 25, 99), (25, .getfield 404, 28, 99), (28, .caload, 29, 99), (29, .iconst (48), 31, 99), (31, .isub, 32, 99), (32, .iadd, 33, 99), (33, .istore 2, 34, 99), (34, .aload 0, 35, 99), (35, .dup, 36, 99), (36, .getfield 404, 39, 99), (39, .iconst (1), 40, 99), (40, .iadd, 41, 99), (41, .putfield 404, 44, 99), (44, .iinc 3 (1), 47, 99), (47, .goto 4, 50, 99), (50, .aload 0, 51, 99), (51, .getfield 402, 54, 99), (54, .iload 1, 55, 99), (55, .iload 2, 56, 99), (56, .iastore, 57, 99), (57, .iload 3, 58, 99), (58, .ifCond .le 65, 61, 99), (61, .iconst (1), 62, 99), (62, .goto 66, 65, 99), (65, .iconst (0), 66, 99)]
def pg55_1 : List AEnt := [(66, .freturn, 67, 99)]
def pg55 : List AEnt := pg55_0 ++ (pg55_1)
def ac55_0 : List Instr := [.iconst 0, .istore_n 2, .iconst 0, .istore_n 3, .iload_n 3, .iconst 3, .if_icmp .ge 44, .aload_n 0, .invokevirtual 42, .ifCond .eq 37, .iload_n 2, .bipush 10, .imul, .aload_n 0, .getfield 9, .aload_n 0, .getfield 23, .caload, .bipush 48, .isub, .iadd, .istore_n 2, .aload_n 0, .dup, .getfield 23, .iconst 1, .iadd, .putfield 23, .iinc 3 1, .goto (-43), .aload_n 0, .getfield 15, .iload_n 1, .iload_n 2, .iastore, .iload_n 3, .ifCond .le 7, .iconst 1, .goto 4, .iconst 0]
def ac55_1 : List Instr := [.ireturn]
def ac55 : List Instr := ac55_0 ++ (ac55_1)
-- 56 CoatedBridges$Text.atDigit()Z
def pg56 : List AEnt := [(0, .aload 0, 1, 99), (1, .getfield 404, 4, 99), (4, .aload 0, 5, 99), (5, .getfield 401, 8, 99), (8, .if_icmp .ge 43, 11, 99), (11, .aload 0, 12, 99), (12, .getfield 400, 15, 99), (15, .aload 0, 16, 99), (16, .getfield 404, 19, 99), (19, .caload, 20, 99), (20, .iconst (48), 22, 99), (22, .if_icmp .lt 43, 25, 99), (25, .aload 0, 26, 99), (26, .getfield 400, 29, 99), (29, .aload 0, 30, 99), (30, .getfield 404, 33, 99), (33, .caload, 34, 99), (34, .iconst (57), 36, 99), (36, .if_icmp .gt 43, 39, 99), (39, .iconst (1), 40, 99), (40, .goto 44, 43, 99), (43, .iconst (0), 44, 99), (44, .freturn, 45, 99)]
def ac56 : List Instr := [.aload_n 0, .getfield 23, .aload_n 0, .getfield 19, .if_icmp .ge 35, .aload_n 0, .getfield 9, .aload_n 0, .getfield 23, .caload, .bipush 48, .if_icmp .lt 21, .aload_n 0, .getfield 9, .aload_n 0, .getfield 23, .caload, .bipush 57, .if_icmp .gt 7, .iconst 1, .goto 4, .iconst 0, .ireturn]
-- 57 CoatedBridges.<init>()V
def pg57 : List AEnt := [(0, .aload 0, 1, 99), (1, .nop, 4, 99), (4, .aload 0, 5, 99), (5, .new 3, 8, 99), (8, .dup, 9, 99), (9, .invokevirtual 18, 12, 99), (12, .putfield 500, 15, 99), (15, .aload 0, 16, 99), (16, .new 3, 19, 99), (19, .dup, 20, 99), (20, .invokevirtual 18, 23, 99), (23, .putfield 501, 26, 99), (26, .aload 0, 27, 99), (27, .iconst (4), 28, 99), (28, .anewarray 15, 31, 99), (31, .putfield 502, 34, 99), (34, .aload 0, 35, 99), (35, .new 4, 38, 99), (38, .dup, 39, 99), (39, .invokevirtual 50, 42, 99), (42, .putfield 504, 45, 99), (45, .iconst (0), 46, 99), (46, .istore 1, 47, 99), (47, .iload 1, 48, 2), (48, .iconst (4), 49, 99), (49, .if_icmp .ge 71, 52, 99), (52, .aload 0, 53, 99), (53, .getfield 502, 56, 99), (56, .iload 1, 57, 99), (57, .new 3, 60, 99), (60, .dup, 61, 99), (61, .invokevirtual 18, 64, 99), (64, .multianewarray 15 0, 65, 99), (65, .iinc 1 (1), 68, 99), (68, .goto 47, 71, 99), (71, .return_, 72, 99)]
def ac57 : List Instr := [.aload_n 0, .invokespecial 1, .aload_n 0, .new 7, .dup, .invokespecial 9, .putfield 10, .aload_n 0, .new 7, .dup, .invokespecial 9, .putfield 16, .aload_n 0, .iconst 4, .anewarray 7, .putfield 19, .aload_n 0, .new 23, .dup, .invokespecial 25, .putfield 26, .iconst 0, .istore_n 1, .iload_n 1, .iconst 4, .if_icmp .ge 22, .aload_n 0, .getfield 19, .iload_n 1, .new 7, .dup, .invokespecial 9, .aastore, .iinc 1 1, .goto (-21), .return_]
-- 58 CoatedBridges.island(I)I
def pg58 : List AEnt := [(0, .aload 0, 1, 99), (1, .aload 0, 2, 99), (2, .invokevirtual 82, 5, 99), (5, .iload 1, 6, 99), (6, .invokevirtual 22, 9, 99), (9, .invokevirtual 83, 12, 99), (12, .ireturn, 13, 99)]
def ac58 : List Instr := [.aload_n 0, .aload_n 0, .invokevirtual 30, .iload_n 1, .invokevirtual 34, .invokevirtual 38, .ireturn]
-- 59 CoatedBridges.bridge(III)I
def pg59 : List AEnt := [(0, .aload 0, 1, 99), (1, .aload 0, 2, 99), (2, .invokevirtual 82, 5, 99), (5, .iload 1, 6, 99), (6, .iload 2, 7, 99), (7, .iload 3, 8, 99), (8, .invokevirtual 23, 11, 99), (11, .invokevirtual 83, 14, 99), (14, .ireturn, 15, 99)]
def ac59 : List Instr := [.aload_n 0, .aload_n 0, .invokevirtual 30, .iload_n 1, .iload_n 2, .iload_n 3, .invokevirtual 41, .invokevirtual 38, .ireturn]
-- 60 CoatedBridges.send(II)I
def pg60 : List AEnt := [(0, .aload 0, 1, 99), (1, .aload 0, 2, 99), (2, .invokevirtual 82, 5, 99), (5, .iload 1, 6, 99), (6, .iload 2, 7, 99), (7, .invokevirtual 24, 10, 99), (10, .invokevirtual 83, 13, 99), (13, .ireturn, 14, 99)]
def ac60 : List Instr := [.aload_n 0, .aload_n 0, .invokevirtual 30, .iload_n 1, .iload_n 2, .invokevirtual 45, .invokevirtual 38, .ireturn]
-- 61 CoatedBridges.recall(I)I
def pg61 : List AEnt := [(0, .aload 0, 1, 99), (1, .aload 0, 2, 99), (2, .invokevirtual 82, 5, 99), (5, .iload 1, 6, 99), (6, .invokevirtual 25, 9, 99), (9, .invokevirtual 83, 12, 99), (12, .ireturn, 13, 99)]
def ac61 : List Instr := [.aload_n 0, .aload_n 0, .invokevirtual 30, .iload_n 1, .invokevirtual 49, .invokevirtual 38, .ireturn]
-- 62 CoatedBridges.pay(I)I
def pg62 : List AEnt := [(0, .aload 0, 1, 99), (1, .aload 0, 2, 99), (2, .invokevirtual 82, 5, 99), (5, .iload 1, 6, 99), (6, .invokevirtual 26, 9, 99), (9, .invokevirtual 83, 12, 99), (12, .ireturn, 13, 99)]
def ac62 : List Instr := [.aload_n 0, .aload_n 0, .invokevirtual 30, .iload_n 1, .invokevirtual 52, .invokevirtual 38, .ireturn]
-- 63 CoatedBridges.days(I)I
def pg63 : List AEnt := [(0, .aload 0, 1, 99), (1, .aload 0, 2, 99), (2, .invokevirtual 82, 5, 99), (5, .iload 1, 6, 99), (6, .invokevirtual 28, 9, 99), (9, .invokevirtual 83, 12, 99), (12, .ireturn, 13, 99)]
def ac63 : List Instr := [.aload_n 0, .aload_n 0, .invokevirtual 30, .iload_n 1, .invokevirtual 55, .invokevirtual 38, .ireturn]
-- 64 CoatedBridges.set(II)I
def pg64 : List AEnt := [(0, .aload 0, 1, 99), (1, .aload 0, 2, 99), (2, .invokevirtual 82, 5, 99), (5, .iload 1, 6, 99), (6, .iload 2, 7, 99), (7, .invokevirtual 27, 10, 99), (10, .invokevirtual 83, 13, 99), (13, .ireturn, 14, 99)]
def ac64 : List Instr := [.aload_n 0, .aload_n 0, .invokevirtual 30, .iload_n 1, .iload_n 2, .invokevirtual 58, .invokevirtual 38, .ireturn]
-- 65 CoatedBridges.bridgeOf(II)I
def pg65_0 : List AEnt := [(0, .aload 0, 1, 99), (1, .getfield 500, 4, 99), (4, .iload 1, 5, 99), (5, .invokevirtual 21, 8, 99), (8, .ifCond .ne 14, 11, 99), (11, .iconst (-1000001), 13, 99), (13, .ireturn, 14, 99), (14, .aload 0, 15, 99), (15, .getfield 500, 18, 99), (18, .getfield 301, 21, 99), (21, .iload 1, 22, 99), (22, .instanceof 14, 23, 99), (23, .astore 3, 24, 99), (24, .iload 2, 25, 99), (25, .tableswitch 136 (0) (8) #[76, 81, 86, 91, 96, 101, 106, 111, 116], 76, 99), (76, .aload 3, 77, 99), (77, .getfield 100, 80, 99), (80, .ireturn, 81, 99), (81, .aload 3, 82, 99), (82, .getfield 101, 85, 99), (85, .ireturn, 86, 99), (86, .aload 3, 87, 99), (87, .getfield 103, 90, 99), (90, .ireturn, 91, 99), (91, .aload 3, 92, 99), (92, .getfield 104, 95, 99), (95, .ireturn, 96, 99), (96, .aload 3, 97, 99), (97, .getfield 105, 100, 99), (100, .ireturn, 101, 99), (101, .aload 3, 102, 99), (102, .getfield 106, 105, 99), (105, .ireturn, 106, 99), (106, .aload 3, 107, 99), (107, .getfield 107, 110, 99), (110, .ireturn, 111, 99), (111, .aload 3, 112, 99), (112, .getfield 108, 115, 99), (115, .ireturn, 116, 99), (116, .aload 0, 117, 99)]
def pg65_1 : List AEnt := [(117, .getfield 500, 120, 99), (120, .invokevirtual 42, 123, 99), (123, .iload 1, 124, 99), (124, .invokestatic 88, 127, 99), (127, .ifCond .eq 134, 130, 99), (130, .iconst (1), 131, 99), (131, .goto 135, 134, 99), (134, .iconst (0), 135, 99), (135, .ireturn, 136, 99), (136, .iconst (-1000001), 138, 99), (138, .ireturn, 139, 99)]
def pg65 : List AEnt := pg65_0 ++ (pg65_1)
def ac65_0 : List Instr := [.aload_n 0, .getfield 10, .iload_n 1, .invokevirtual 61, .ifCond .ne 6, .ldc 65, .ireturn, .aload_n 0, .getfield 10, .getfield 66, .iload_n 1, .aaload, .astore_n 3, .iload_n 2, .tableswitch 111 0 8 #[51, 56, 61, 66, 71, 76, 81, 86, 91], .aload_n 3, .getfield 70, .ireturn, .aload_n 3, .getfield 76, .ireturn, .aload_n 3, .getfield 79, .ireturn, .aload_n 3, .getfield 82, .ireturn, .aload_n 3, .getfield 85, .ireturn, .aload_n 3, .getfield 88, .ireturn, .aload_n 3, .getfield 91, .ireturn, .aload_n 3, .getfield 94, .ireturn, .aload_n 0]
def ac65_1 : List Instr := [.getfield 10, .invokevirtual 97, .iload_n 1, .invokestatic 101, .ifCond .eq 7, .iconst 1, .goto 4, .iconst 0, .ireturn, .ldc 65, .ireturn]
def ac65 : List Instr := ac65_0 ++ (ac65_1)
-- 66 CoatedBridges.islandOf(II)I
def pg66_0 : List AEnt := [(0, .aload 0, 1, 99), (1, .getfield 500, 4, 99), (4, .iload 1, 5, 99), (5, .invokevirtual 20, 8, 99), (8, .ifCond .ne 14, 11, 99), (11, .iconst (-1000001), 13, 99), (13, .ireturn, 14, 99), (14, .aload 0, 15, 99), (15, .getfield 500, 18, 99), (18, .getfield 300, 21, 99), (21, .iload 1, 22, 99), (22, .instanceof 13, 23, 99), (23, .astore 3, 24, 99), (24, .iload 2, 25, 99), (25, .tableswitch 137 (0) (7) #[72, 94, 99, 104, 109, 114, 119, 128], 72, 99), (72, .aload 0, 73, 99), (73, .getfield 500, 76, 99), (76, .iconst (0), 77, 99), (77, .iconst (-1), 78, 99), (78, .invokevirtual 39, 81, 99), (81, .iload 1, 82, 99), (82, .invokestatic 88, 85, 99), (85, .ifCond .eq 92, 88, 99), (88, .iconst (1), 89, 99), (89, .goto 93, 92, 99), (92, .iconst (0), 93, 99), (93, .ireturn, 94, 99), (94, .aload 3, 95, 99), (95, .getfield 201, 98, 99), (98, .ireturn, 99, 99), (99, .aload 3, 100, 99), (100, .getfield 200, 103, 99), (103, .ireturn, 104, 99), (104, .aload 3, 105, 99), (105, .getfield 203, 108, 99), (108, .ireturn, 109, 99), (109, .aload 3, 110, 99), (110, .getfield 202, 113, 99), (113, .ireturn, 114, 99), (114, .aload 3, 115, 99)]
def pg66_1 : List AEnt := [(115, .getfield 204, 118, 99), (118, .ireturn, 119, 99), (119, .aload 0, 120, 99), (120, .getfield 500, 123, 99), (123, .iload 1, 124, 99), (124, .invokevirtual 44, 127, 99), (127, .ireturn, 128, 99), (128, .aload 0, 129, 99), (129, .getfield 500, 132, 99), (132, .iload 1, 133, 99), (133, .invokevirtual 43, 136, 99), (136, .ireturn, 137, 99), (137, .iconst (-1000001), 139, 99), (139, .ireturn, 140, 99)]
def pg66 : List AEnt := pg66_0 ++ (pg66_1)
def ac66_0 : List Instr := [.aload_n 0, .getfield 10, .iload_n 1, .invokevirtual 105, .ifCond .ne 6, .ldc 65, .ireturn, .aload_n 0, .getfield 10, .getfield 108, .iload_n 1, .aaload, .astore_n 3, .iload_n 2, .tableswitch 112 0 7 #[47, 69, 74, 79, 84, 89, 94, 103], .aload_n 0, .getfield 10, .iconst 0, .iconst (-1), .invokevirtual 112, .iload_n 1, .invokestatic 101, .ifCond .eq 7, .iconst 1, .goto 4, .iconst 0, .ireturn, .aload_n 3, .getfield 115, .ireturn, .aload_n 3, .getfield 120, .ireturn, .aload_n 3, .getfield 123, .ireturn, .aload_n 3, .getfield 126, .ireturn, .aload_n 3]
def ac66_1 : List Instr := [.getfield 129, .ireturn, .aload_n 0, .getfield 10, .iload_n 1, .invokevirtual 132, .ireturn, .aload_n 0, .getfield 10, .iload_n 1, .invokevirtual 135, .ireturn, .ldc 65, .ireturn]
def ac66 : List Instr := ac66_0 ++ (ac66_1)
-- 67 CoatedBridges.reach(I)I
def pg67 : List AEnt := [(0, .aload 0, 1, 99), (1, .getfield 500, 4, 99), (4, .iload 1, 5, 99), (5, .invokevirtual 20, 8, 99), (8, .ifCond .eq 23, 11, 99), (11, .aload 0, 12, 99), (12, .getfield 500, 15, 99), (15, .iload 1, 16, 99), (16, .iconst (-1), 17, 99), (17, .invokevirtual 39, 20, 99), (20, .goto 25, 23, 99), (23, .iconst (-1000001), 25, 99), (25, .ireturn, 26, 99)]
def ac67 : List Instr := [.aload_n 0, .getfield 10, .iload_n 1, .invokevirtual 105, .ifCond .eq 15, .aload_n 0, .getfield 10, .iload_n 1, .iconst (-1), .invokevirtual 112, .goto 5, .ldc 65, .ireturn]
-- 68 CoatedBridges.book(II)I
def pg68 : List AEnt := [(0, .iload 1, 1, 99), (1, .ifCond .lt 13, 4, 99), (4, .iload 2, 5, 99), (5, .ifCond .lt 13, 8, 99), (8, .iload 2, 9, 99), (9, .iconst (1), 10, 99), (10, .if_icmp .le 16, 13, 99), (13, .iconst (-1000001), 15, 99), (15, .ireturn, 16, 99), (16, .iload 2, 17, 99), (17, .ifCond .ne 34, 20, 99), (20, .aload 0, 21, 99), (21, .getfield 500, 24, 99), (24, .getfield 303, 27, 99), (27, .iload 1, 28, 99), (28, .invokevirtual 4, 31, 99), (31, .goto 45, 34, 99), (34, .aload 0, 35, 99), (35, .getfield 500, 38, 99), (38, .getfield 303, 41, 99), (41, .iload 1, 42, 99), (42, .invokevirtual 5, 45, 99), (45, .ireturn, 46, 99)]
def ac68 : List Instr := [.iload_n 1, .ifCond .lt 12, .iload_n 2, .ifCond .lt 8, .iload_n 2, .iconst 1, .if_icmp .le 6, .ldc 65, .ireturn, .iload_n 2, .ifCond .ne 17, .aload_n 0, .getfield 10, .getfield 138, .iload_n 1, .invokevirtual 142, .goto 14, .aload_n 0, .getfield 10, .getfield 138, .iload_n 1, .invokevirtual 147, .ireturn]
-- 69 CoatedBridges.why(II)I
def pg69 : List AEnt := [(0, .aload 0, 1, 99), (1, .getfield 500, 4, 99), (4, .iload 1, 5, 99), (5, .invokevirtual 21, 8, 99), (8, .ifCond .eq 20, 11, 99), (11, .iload 2, 12, 99), (12, .ifCond .lt 20, 15, 99), (15, .iload 2, 16, 99), (16, .iconst (1), 17, 99), (17, .if_icmp .le 23, 20, 99), (20, .iconst (-1000001), 22, 99), (22, .ireturn, 23, 99), (23, .aload 0, 24, 99), (24, .getfield 500, 27, 99), (27, .iload 1, 28, 99), (28, .invokevirtual 36, 31, 99), (31, .istore 3, 32, 99), (32, .iload 2, 33, 99), (33, .ifCond .ne 38, 36, 99), (36, .iload 3, 37, 99), (37, .ireturn, 38, 99), (38, .iload 3, 39, 99), (39, .iconst (4), 40, 99), (40, .if_icmp .ne 57, 43, 99), (43, .aload 0, 44, 99), (44, .getfield 500, 47, 99), (47, .iload 1, 48, 99), (48, .invokevirtual 41, 51, 99), (51, .invokestatic 89, 54, 99), (54, .goto 59, 57, 99), (57, .iconst (-1000004), 59, 99), (59, .ireturn, 60, 99)]
def ac69 : List Instr := [.aload_n 0, .getfield 10, .iload_n 1, .invokevirtual 61, .ifCond .eq 12, .iload_n 2, .ifCond .lt 8, .iload_n 2, .iconst 1, .if_icmp .le 6, .ldc 65, .ireturn, .aload_n 0, .getfield 10, .iload_n 1, .invokevirtual 150, .istore_n 3, .iload_n 2, .ifCond .ne 5, .iload_n 3, .ireturn, .iload_n 3, .iconst 4, .if_icmp .ne 17, .aload_n 0, .getfield 10, .iload_n 1, .invokevirtual 153, .invokestatic 156, .goto 5, .ldc 159, .ireturn]
-- 70 CoatedBridges.best()I
def pg70 : List AEnt := [(0, .aload 0, 1, 99), (1, .getfield 500, 4, 99), (4, .invokevirtual 37, 7, 99), (7, .ireturn, 8, 99)]
def ac70 : List Instr := [.aload_n 0, .getfield 10, .invokevirtual 160, .ireturn]
-- 71 CoatedBridges.rustsIn(I)I
def pg71 : List AEnt := [(0, .aload 0, 1, 99), (1, .getfield 500, 4, 99), (4, .iload 1, 5, 99), (5, .invokevirtual 21, 8, 99), (8, .ifCond .ne 14, 11, 99), (11, .iconst (-1000001), 13, 99), (13, .ireturn, 14, 99), (14, .aload 0, 15, 99), (15, .getfield 500, 18, 99), (18, .getfield 301, 21, 99), (21, .iload 1, 22, 99), (22, .instanceof 14, 23, 99), (23, .astore 2, 24, 99), (24, .aload 2, 25, 99), (25, .getfield 105, 28, 99), (28, .iconst (1), 29, 99), (29, .if_icmp .ne 37, 32, 99), (32, .iconst (-1000002), 34, 99), (34, .goto 41, 37, 99), (37, .aload 2, 38, 99), (38, .invokevirtual 13, 41, 99), (41, .ireturn, 42, 99)]
def ac71 : List Instr := [.aload_n 0, .getfield 10, .iload_n 1, .invokevirtual 61, .ifCond .ne 6, .ldc 65, .ireturn, .aload_n 0, .getfield 10, .getfield 66, .iload_n 1, .aaload, .astore_n 2, .aload_n 2, .getfield 85, .iconst 1, .if_icmp .ne 8, .ldc 163, .goto 7, .aload_n 2, .invokevirtual 164, .ireturn]
-- 72 CoatedBridges.paintedIn(I)I
def pg72 : List AEnt := [(0, .aload 0, 1, 99), (1, .getfield 500, 4, 99), (4, .iload 1, 5, 99), (5, .invokevirtual 21, 8, 99), (8, .ifCond .ne 14, 11, 99), (11, .iconst (-1000001), 13, 99), (13, .ireturn, 14, 99), (14, .aload 0, 15, 99), (15, .getfield 500, 18, 99), (18, .getfield 301, 21, 99), (21, .iload 1, 22, 99), (22, .instanceof 14, 23, 99), (23, .getfield 105, 26, 99), (26, .iconst (1), 27, 99), (27, .if_icmp .eq 33, 30, 99), (30, .iconst (-1000002), 32, 99), (32, .ireturn, 33, 99), (33, .aload 0, 34, 99), (34, .invokevirtual 82, 37, 99), (37, .astore 2, 38, 99), (38, .iconst (1), 39, 99), (39, .istore 3, 40, 99), (40, .iload 3, 41, 4), (41, .iconst (200), 44, 99), (44, .if_icmp .gt 72, 47, 99), (47, .aload 2, 48, 99), (48, .invokevirtual 29, 51, 99), (51, .pop, 52, 99), (52, .aload 2, 53, 99), (53, .getfield 301, 56, 99), (56, .iload 1, 57, 99), (57, .instanceof 14, 58, 99), (58, .getfield 105, 61, 99), (61, .ifCond .ne 66, 64, 99), (64, .iload 3, 65, 99), (65, .ireturn, 66, 99), (66, .iinc 3 (1), 69, 99), (69, .goto 40, 72, 99), (72, .iconst (-1000004), 74, 99), (74, .ireturn, 75, 99)]
def ac72 : List Instr := [.aload_n 0, .getfield 10, .iload_n 1, .invokevirtual 61, .ifCond .ne 6, .ldc 65, .ireturn, .aload_n 0, .getfield 10, .getfield 66, .iload_n 1, .aaload, .getfield 85, .iconst 1, .if_icmp .eq 6, .ldc 163, .ireturn, .aload_n 0, .invokevirtual 30, .astore_n 2, .iconst 1, .istore_n 3, .iload_n 3, .sipush 200, .if_icmp .gt 28, .aload_n 2, .invokevirtual 167, .pop, .aload_n 2, .getfield 66, .iload_n 1, .aaload, .getfield 85, .ifCond .ne 5, .iload_n 3, .ireturn, .iinc 3 1, .goto (-29), .ldc 159, .ireturn]
-- 73 CoatedBridges.aloneIn()I
def pg73 : List AEnt := [(0, .aload 0, 1, 99), (1, .getfield 500, 4, 99), (4, .iconst (0), 5, 99), (5, .iconst (-1), 6, 99), (6, .invokevirtual 39, 9, 99), (9, .istore 1, 10, 99), (10, .aload 0, 11, 99), (11, .invokevirtual 82, 14, 99), (14, .astore 2, 15, 99), (15, .iconst (1), 16, 99), (16, .istore 3, 17, 99), (17, .iload 3, 18, 4), (18, .iconst (200), 21, 99), (21, .if_icmp .gt 50, 24, 99), (24, .aload 2, 25, 99), (25, .invokevirtual 29, 28, 99), (28, .pop, 29, 99), (29, .iload 1, 30, 99), (30, .aload 2, 31, 99), (31, .iconst (0), 32, 99), (32, .iconst (-1), 33, 99), (33, .invokevirtual 39, 36, 99), (36, .iconst (-1), 37, 99), (37, .ixor, 38, 99), (38, .iand, 39, 99), (39, .ifCond .eq 44, 42, 99), (42, .iload 3, 43, 99), (43, .ireturn, 44, 99), (44, .iinc 3 (1), 47, 99), (47, .goto 17, 50, 99), (50, .iconst (-1000004), 52, 99), (52, .ireturn, 53, 99)]
def ac73 : List Instr := [.aload_n 0, .getfield 10, .iconst 0, .iconst (-1), .invokevirtual 112, .istore_n 1, .aload_n 0, .invokevirtual 30, .astore_n 2, .iconst 1, .istore_n 3, .iload_n 3, .sipush 200, .if_icmp .gt 29, .aload_n 2, .invokevirtual 167, .pop, .iload_n 1, .aload_n 2, .iconst 0, .iconst (-1), .invokevirtual 112, .iconst (-1), .ixor, .iand, .ifCond .eq 5, .iload_n 3, .ireturn, .iinc 3 1, .goto (-30), .ldc 159, .ireturn]
-- 74 CoatedBridges.ifDays(I)I
def pg74 : List AEnt := [(0, .iload 1, 1, 99), (1, .iconst (1), 2, 99), (2, .if_icmp .lt 11, 5, 99), (5, .iload 1, 6, 99), (6, .iconst (99), 8, 99), (8, .if_icmp .le 14, 11, 99), (11, .iconst (-1000001), 13, 99), (13, .ireturn, 14, 99), (14, .aload 0, 15, 99), (15, .invokevirtual 82, 18, 99), (18, .astore 2, 19, 99), (19, .iconst (0), 20, 99), (20, .istore 3, 21, 99), (21, .iconst (0), 22, 99), (22, .istore 4, 24, 99), (24, .iload 4, 26, 5), (26, .iload 1, 27, 99), (27, .if_icmp .ge 43, 30, 99), (30, .iload 3, 31, 99), (31, .aload 2, 32, 99), (32, .invokevirtual 29, 35, 99), (35, .iadd, 36, 99), (36, .istore 3, 37, 99), (37, .iinc 4 (1), 40, 99), (40, .goto 24, 43, 99), (43, .iload 3, 44, 99), (44, .ireturn, 45, 99)]
def ac74 : List Instr := [.iload_n 1, .iconst 1, .if_icmp .lt 9, .iload_n 1, .bipush 99, .if_icmp .le 6, .ldc 65, .ireturn, .aload_n 0, .invokevirtual 30, .astore_n 2, .iconst 0, .istore_n 3, .iconst 0, .istore 4, .iload 4, .iload_n 1, .if_icmp .ge 16, .iload_n 3, .aload_n 2, .invokevirtual 167, .iadd, .istore_n 3, .iinc 4 1, .goto (-16), .iload_n 3, .ireturn]
-- 75 CoatedBridges.mean()I
def pg75 : List AEnt := [(0, .aload 0, 1, 99), (1, .getfield 500, 4, 99), (4, .getfield 305, 7, 99), (7, .ifCond .ne 13, 10, 99), (10, .iconst (-1000004), 12, 99), (12, .ireturn, 13, 99), (13, .aload 0, 14, 99), (14, .getfield 500, 17, 99), (17, .invokevirtual 47, 20, 99), (20, .i2f, 21, 99), (21, .aload 0, 22, 99), (22, .getfield 500, 25, 99), (25, .getfield 305, 28, 99), (28, .i2f, 29, 99), (29, .fdiv, 30, 99), (30, .invokestatic 90, 33, 99), (33, .ireturn, 34, 99)]
def ac75 : List Instr := [.aload_n 0, .getfield 10, .getfield 170, .ifCond .ne 6, .ldc 159, .ireturn, .aload_n 0, .getfield 10, .invokevirtual 173, .i2f, .aload_n 0, .getfield 10, .getfield 170, .i2f, .fdiv, .invokestatic 176, .ireturn]
-- 76 CoatedBridges.count(I)I
def pg76_0 : List AEnt := [(0, .iload 1, 1, 99), (1, .ifCond .lt 10, 4, 99), (4, .iload 1, 5, 99), (5, .iconst (28), 7, 99), (7, .if_icmp .lt 13, 10, 99), (10, .iconst (-1000001), 12, 99), (12, .ireturn, 13, 99), (13, .iload 1, 14, 99), (14, .iconst (20), 16, 99), (16, .if_icmp .lt 32, 19, 99), (19, .aload 0, 20, 99), (20, .getfield 500, 23, 99), (23, .getfield 302, 26, 99), (26, .iload 1, 27, 99), (27, .iconst (20), 29, 99), (29, .isub, 30, 99), (30, .iaload, 31, 99), (31, .ireturn, 32, 99), (32, .iload 1, 33, 99), (33, .tableswitch 281 (0) (18) #[124, 132, 140, 148, 158, 167, 176, 185, 193, 201, 209, 217, 225, 233, 241, 249, 257, 265, 276], 124, 99), (124, .aload 0, 125, 99), (125, .getfield 500, 128, 99), (128, .getfield 306, 131, 99), (131, .ireturn, 132, 99), (132, .aload 0, 133, 99), (133, .getfield 500, 136, 99), (136, .getfield 304, 139, 99), (139, .ireturn, 140, 99), (140, .aload 0, 141, 99), (141, .getfield 500, 144, 99), (144, .getfield 305, 147, 99), (147, .ireturn, 148, 99), (148, .aload 0, 149, 99), (149, .getfield 500, 152, 99), (152, .iconst (0), 153, 99), (153, .iconst (-1), 154, 99), (154, .invokevirtual 39, 157, 99), (157, .ireturn, 158, 99), (158, .aload 0, 159, 99), (159, .getfield 500, 162, 99)]
def pg76_1 : List AEnt := [(162, .iconst (0), 163, 99), (163, .invokevirtual 38, 166, 99), (166, .ireturn, 167, 99), (167, .aload 0, 168, 99), (168, .getfield 500, 171, 99), (171, .iconst (1), 172, 99), (172, .invokevirtual 38, 175, 99), (175, .ireturn, 176, 99), (176, .aload 0, 177, 99), (177, .getfield 500, 180, 99), (180, .iconst (2), 181, 99), (181, .invokevirtual 38, 184, 99), (184, .ireturn, 185, 99), (185, .aload 0, 186, 99), (186, .getfield 500, 189, 99), (189, .invokevirtual 42, 192, 99), (192, .ireturn, 193, 99), (193, .aload 0, 194, 99), (194, .getfield 500, 197, 99), (197, .invokevirtual 45, 200, 99), (200, .ireturn, 201, 99), (201, .aload 0, 202, 99), (202, .getfield 500, 205, 99), (205, .invokevirtual 46, 208, 99), (208, .ireturn, 209, 99), (209, .aload 0, 210, 99), (210, .getfield 500, 213, 99), (213, .invokevirtual 35, 216, 99), (216, .ireturn, 217, 99), (217, .aload 0, 218, 99), (218, .getfield 500, 221, 99), (221, .invokevirtual 48, 224, 99), (224, .ireturn, 225, 99), (225, .aload 0, 226, 99), (226, .getfield 500, 229, 99), (229, .invokevirtual 49, 232, 99), (232, .ireturn, 233, 99), (233, .aload 0, 234, 99), (234, .getfield 500, 237, 99), (237, .getfield 307, 240, 99)]
def pg76_2 : List AEnt := [(240, .ireturn, 241, 99), (241, .aload 0, 242, 99), (242, .getfield 500, 245, 99), (245, .getfield 308, 248, 99), (248, .ireturn, 249, 99), (249, .aload 0, 250, 99), (250, .getfield 500, 253, 99), (253, .getfield 309, 256, 99), (256, .ireturn, 257, 99), (257, .aload 0, 258, 99), (258, .getfield 500, 261, 99), (261, .getfield 310, 264, 99), (264, .ireturn, 265, 99), (265, .aload 0, 266, 99), (266, .getfield 500, 269, 99), (269, .getfield 303, 272, 99), (272, .getfield 2, 275, 99), (275, .ireturn, 276, 99), (276, .aload 0, 277, 99), (277, .getfield 503, 280, 99), (280, .ireturn, 281, 99), (281, .aload 0, 282, 99), (282, .getfield 504, 285, 99), (285, .getfield 401, 288, 99), (288, .ireturn, 289, 99)]
def pg76 : List AEnt := pg76_0 ++ (pg76_1 ++ (pg76_2))
def ac76_0 : List Instr := [.iload_n 1, .ifCond .lt 9, .iload_n 1, .bipush 28, .if_icmp .lt 6, .ldc 65, .ireturn, .iload_n 1, .bipush 20, .if_icmp .lt 16, .aload_n 0, .getfield 10, .getfield 180, .iload_n 1, .bipush 20, .isub, .iaload, .ireturn, .iload_n 1, .tableswitch 248 0 18 #[91, 99, 107, 115, 125, 134, 143, 152, 160, 168, 176, 184, 192, 200, 208, 216, 224, 232, 243], .aload_n 0, .getfield 10, .getfield 184, .ireturn, .aload_n 0, .getfield 10, .getfield 187, .ireturn, .aload_n 0, .getfield 10, .getfield 170, .ireturn, .aload_n 0, .getfield 10, .iconst 0, .iconst (-1), .invokevirtual 112, .ireturn, .aload_n 0, .getfield 10]
def ac76_1 : List Instr := [.iconst 0, .invokevirtual 190, .ireturn, .aload_n 0, .getfield 10, .iconst 1, .invokevirtual 190, .ireturn, .aload_n 0, .getfield 10, .iconst 2, .invokevirtual 190, .ireturn, .aload_n 0, .getfield 10, .invokevirtual 97, .ireturn, .aload_n 0, .getfield 10, .invokevirtual 193, .ireturn, .aload_n 0, .getfield 10, .invokevirtual 196, .ireturn, .aload_n 0, .getfield 10, .invokevirtual 199, .ireturn, .aload_n 0, .getfield 10, .invokevirtual 202, .ireturn, .aload_n 0, .getfield 10, .invokevirtual 205, .ireturn, .aload_n 0, .getfield 10, .getfield 208]
def ac76_2 : List Instr := [.ireturn, .aload_n 0, .getfield 10, .getfield 211, .ireturn, .aload_n 0, .getfield 10, .getfield 212, .ireturn, .aload_n 0, .getfield 10, .getfield 215, .ireturn, .aload_n 0, .getfield 10, .getfield 138, .getfield 218, .ireturn, .aload_n 0, .getfield 221, .ireturn, .aload_n 0, .getfield 26, .getfield 224, .ireturn]
def ac76 : List Instr := ac76_0 ++ (ac76_1 ++ (ac76_2))
-- 77 CoatedBridges.undo()I
def pg77 : List AEnt := [(0, .aload 0, 1, 99), (1, .getfield 503, 4, 99), (4, .ifCond .ne 10, 7, 99), (7, .iconst (-1000002), 9, 99), (9, .ireturn, 10, 99), (10, .aload 0, 11, 99), (11, .dup, 12, 99), (12, .getfield 503, 15, 99), (15, .iconst (1), 16, 99), (16, .isub, 17, 99), (17, .putfield 503, 20, 99), (20, .aload 0, 21, 99), (21, .getfield 500, 24, 99), (24, .astore 1, 25, 99), (25, .aload 0, 26, 99), (26, .aload 0, 27, 99), (27, .getfield 502, 30, 99), (30, .aload 0, 31, 99), (31, .getfield 503, 34, 99), (34, .instanceof 15, 35, 99), (35, .putfield 500, 38, 99), (38, .aload 0, 39, 99), (39, .getfield 502, 42, 99), (42, .aload 0, 43, 99), (43, .getfield 503, 46, 99), (46, .aload 1, 47, 99), (47, .multianewarray 15 0, 48, 99), (48, .aload 0, 49, 99), (49, .getfield 503, 52, 99), (52, .ireturn, 53, 99)]
def ac77 : List Instr := [.aload_n 0, .getfield 221, .ifCond .ne 6, .ldc 163, .ireturn, .aload_n 0, .dup, .getfield 221, .iconst 1, .isub, .putfield 221, .aload_n 0, .getfield 10, .astore_n 1, .aload_n 0, .aload_n 0, .getfield 19, .aload_n 0, .getfield 221, .aaload, .putfield 10, .aload_n 0, .getfield 19, .aload_n 0, .getfield 221, .aload_n 1, .aastore, .aload_n 0, .getfield 221, .ireturn]
-- 78 CoatedBridges.type(I)I
def pg78 : List AEnt := [(0, .iload 1, 1, 99), (1, .iconst (32), 3, 99), (3, .if_icmp .lt 12, 6, 99), (6, .iload 1, 7, 99), (7, .iconst (126), 9, 99), (9, .if_icmp .le 15, 12, 99), (12, .iconst (-1000001), 14, 99), (14, .ireturn, 15, 99), (15, .aload 0, 16, 99), (16, .getfield 504, 19, 99), (19, .iload 1, 20, 99), (20, .i2c, 21, 99), (21, .invokevirtual 51, 24, 99), (24, .ifCond .eq 37, 27, 99), (27, .aload 0, 28, 99), (28, .getfield 504, 31, 99), (31, .getfield 401, 34, 99), (34, .goto 39, 37, 99), (37, .iconst (-1000003), 39, 99), (39, .ireturn, 40, 99)]
def ac78 : List Instr := [.iload_n 1, .bipush 32, .if_icmp .lt 9, .iload_n 1, .bipush 126, .if_icmp .le 6, .ldc 65, .ireturn, .aload_n 0, .getfield 26, .iload_n 1, .i2c, .invokevirtual 225, .ifCond .eq 13, .aload_n 0, .getfield 26, .getfield 224, .goto 5, .ldc 229, .ireturn]
-- 79 CoatedBridges.clearText()I
def pg79 : List AEnt := [(0, .aload 0, 1, 99), (1, .getfield 504, 4, 99), (4, .getfield 401, 7, 99), (7, .istore 1, 8, 99), (8, .aload 0, 9, 99), (9, .getfield 504, 12, 99), (12, .iconst (0), 13, 99), (13, .putfield 401, 16, 99), (16, .iload 1, 17, 99), (17, .ireturn, 18, 99)]
def ac79 : List Instr := [.aload_n 0, .getfield 26, .getfield 224, .istore_n 1, .aload_n 0, .getfield 26, .iconst 0, .putfield 224, .iload_n 1, .ireturn]
-- 80 CoatedBridges.fault(I)I
def pg80 : List AEnt := [(0, .iload 1, 1, 99), (1, .ifCond .lt 9, 4, 99), (4, .iload 1, 5, 99), (5, .iconst (2), 6, 99), (6, .if_icmp .le 12, 9, 99), (9, .iconst (-1000001), 11, 99), (11, .ireturn, 12, 99), (12, .aload 0, 13, 99), (13, .aload 0, 14, 99), (14, .invokevirtual 82, 17, 99), (17, .invokevirtual 85, 20, 99), (20, .ifCond .eq 26, 23, 99), (23, .iconst (-1000004), 25, 99), (25, .ireturn, 26, 99), (26, .iload 1, 27, 99), (27, .lookupswitch 62 #[(0, 52), (1, 57)], 52, 99), (52, .aload 0, 53, 99), (53, .getfield 506, 56, 99), (56, .ireturn, 57, 99), (57, .aload 0, 58, 99), (58, .getfield 507, 61, 99), (61, .ireturn, 62, 99), (62, .aload 0, 63, 99), (63, .getfield 508, 66, 99), (66, .ireturn, 67, 99)]
def ac80 : List Instr := [.iload_n 1, .ifCond .lt 8, .iload_n 1, .iconst 2, .if_icmp .le 6, .ldc 65, .ireturn, .aload_n 0, .aload_n 0, .invokevirtual 30, .invokevirtual 230, .ifCond .eq 6, .ldc 159, .ireturn, .iload_n 1, .lookupswitch 35 #[(0, 25), (1, 30)], .aload_n 0, .getfield 234, .ireturn, .aload_n 0, .getfield 237, .ireturn, .aload_n 0, .getfield 240, .ireturn]
-- 81 CoatedBridges.play()I
def pg81 : List AEnt := [(0, .aload 0, 1, 99), (1, .aload 0, 2, 99), (2, .aload 0, 3, 99), (3, .invokevirtual 82, 6, 99), (6, .invokevirtual 85, 9, 99), (9, .ifCond .eq 19, 12, 99), (12, .aload 0, 13, 99), (13, .getfield 505, 16, 99), (16, .goto 21, 19, 99), (19, .iconst (-1000002), 21, 99), (21, .invokevirtual 83, 24, 99), (24, .ireturn, 25, 99)]
def ac81 : List Instr := [.aload_n 0, .aload_n 0, .aload_n 0, .invokevirtual 30, .invokevirtual 230, .ifCond .eq 10, .aload_n 0, .getfield 243, .goto 5, .ldc 163, .invokevirtual 38, .ireturn]
-- 82 CoatedBridges.startTrial()LCoatedBridges$State;
def pg82 : List AEnt := [(0, .aload 0, 1, 99), (1, .getfield 501, 4, 99), (4, .aload 0, 5, 99), (5, .getfield 500, 8, 99), (8, .invokevirtual 19, 11, 99), (11, .aload 0, 12, 99), (12, .getfield 501, 15, 99), (15, .areturn, 16, 99)]
def ac82 : List Instr := [.aload_n 0, .getfield 16, .aload_n 0, .getfield 10, .invokevirtual 246, .aload_n 0, .getfield 16, .areturn]
-- 83 CoatedBridges.settle(I)I
def pg83 : List AEnt := [(0, .iload 1, 1, 99), (1, .ifCond .ge 6, 4, 99), (4, .iload 1, 5, 99), (5, .ireturn, 6, 99), (6, .aload 0, 7, 99), (7, .getfield 503, 10, 99), (10, .iconst (4), 11, 99), (11, .if_icmp .lt 18, 14, 99), (14, .aload 0, 15, 99), (15, .invokevirtual 84, 18, 99), (18, .aload 0, 19, 99), (19, .getfield 502, 22, 99), (22, .aload 0, 23, 99), (23, .getfield 503, 26, 99), (26, .instanceof 15, 27, 99), (27, .astore 2, 28, 99), (28, .aload 0, 29, 99), (29, .getfield 502, 32, 99), (32, .aload 0, 33, 99), (33, .getfield 503, 36, 99), (36, .aload 0, 37, 99), (37, .getfield 500, 40, 99), (40, .multianewarray 15 0, 41, 99), (41, .aload 0, 42, 99), (42, .dup, 43, 99), (43, .getfield 503, 46, 99), (46, .iconst (1), 47, 99), (47, .iadd, 48, 99), (48, .putfield 503, 51, 99), (51, .aload 0, 52, 99), (52, .aload 0, 53, 99), (53, .getfield 501, 56, 99), (56, .putfield 500, 59, 99), (59, .aload 0, 60, 99), (60, .aload 2, 61, 99), (61, .putfield 501, 64, 99), (64, .iload 1, 65, 99), (65, .ireturn, 66, 99)]
def ac83 : List Instr := [.iload_n 1, .ifCond .ge 5, .iload_n 1, .ireturn, .aload_n 0, .getfield 221, .iconst 4, .if_icmp .lt 7, .aload_n 0, .invokevirtual 250, .aload_n 0, .getfield 19, .aload_n 0, .getfield 221, .aaload, .astore_n 2, .aload_n 0, .getfield 19, .aload_n 0, .getfield 221, .aload_n 0, .getfield 10, .aastore, .aload_n 0, .dup, .getfield 221, .iconst 1, .iadd, .putfield 221, .aload_n 0, .aload_n 0, .getfield 16, .putfield 10, .aload_n 0, .aload_n 2, .putfield 16, .iload_n 1, .ireturn]
-- 84 CoatedBridges.dropOldest()V
def pg84 : List AEnt := [(0, .aload 0, 1, 99), (1, .getfield 502, 4, 99), (4, .iconst (0), 5, 99), (5, .instanceof 15, 6, 99), (6, .astore 1, 7, 99), (7, .iconst (1), 8, 99), (8, .istore 2, 9, 99), (9, .iload 2, 10, 3), (10, .iconst (4), 11, 99), (11, .if_icmp .ge 34, 14, 99), (14, .aload 0, 15, 99), (15, .getfield 502, 18, 99), (18, .iload 2, 19, 99), (19, .iconst (1), 20, 99), (20, .isub, 21, 99), (21, .aload 0, 22, 99), (22, .getfield 502, 25, 99), (25, .iload 2, 26, 99), (26, .instanceof 15, 27, 99), (27, .multianewarray 15 0, 28, 99), (28, .iinc 2 (1), 31, 99), (31, .goto 9, 34, 99), (34, .aload 0, 35, 99), (35, .getfield 502, 38, 99), (38, .iconst (3), 39, 99), (39, .aload 1, 40, 99), (40, .multianewarray 15 0, 41, 99), (41, .aload 0, 42, 99), (42, .iconst (3), 43, 99), (43, .putfield 503, 46, 99), (46, .return_, 47, 99)]
def ac84 : List Instr := [.aload_n 0, .getfield 19, .iconst 0, .aaload, .astore_n 1, .iconst 1, .istore_n 2, .iload_n 2, .iconst 4, .if_icmp .ge 23, .aload_n 0, .getfield 19, .iload_n 2, .iconst 1, .isub, .aload_n 0, .getfield 19, .iload_n 2, .aaload, .aastore, .iinc 2 1, .goto (-22), .aload_n 0, .getfield 19, .iconst 3, .aload_n 1, .aastore, .aload_n 0, .iconst 3, .putfield 221, .return_]
-- 85 CoatedBridges.obeyText(LCoatedBridges$State;)Z
def pg85_0 : List AEnt := [(0, .iconst (0), 1, 99), (1, .istore 2, 2, 99), (2, .aload 0, 3, 99), (3, .iconst (0), 4, 99), (4, .putfield 505, 7, 99), (7, .aload 0, 8, 3), (8, .getfield 505, 11, 99), (11, .iconst (60), 13, 99), (13, .if_icmp .ge 95, 16, 99), (16, .iload 2, 17, 99), (17, .aload 0, 18, 99), (18, .getfield 504, 21, 99), (21, .getfield 401, 24, 99), (24, .if_icmp .ge 95, 27, 99), (27, .aload 0, 28, 99), (28, .getfield 504, 31, 99), (31, .iload 2, 32, 99), (32, .invokevirtual 52, 35, 99), (35, .ifCond .ne 55, 38, 99), (38, .aload 0, 39, 99), (39, .iload 2, 40, 99), (40, .iconst (1), 41, 99), (41, .aload 0, 42, 99), (42, .getfield 504, 45, 99), (45, .getfield 404, 48, 99), (48, .iload 2, 49, 99), (49, .isub, 50, 99), (50, .invokevirtual 86, 53, 99), (53, .iconst (0), 54, 99), (54, .freturn, 55, 99), (55, .aload 0, 56, 99), (56, .aload 1, 57, 99), (57, .invokevirtual 87, 60, 99), (60, .istore 3, 61, 99), (61, .iload 3, 62, 99), (62, .ifCond .ge 74, 65, 99), (65, .aload 0, 66, 99), (66, .iload 2, 67, 99), (67, .iconst (2), 68, 99), (68, .iload 3, 69, 99)]
def pg85_1 : List AEnt := [(69, .invokevirtual 86, 72, 99), (72, .iconst (0), 73, 99), (73, .freturn, 74, 99), (74, .aload 0, 75, 99), (75, .getfield 504, 78, 99), (78, .getfield 404, 81, 99), (81, .istore 2, 82, 99), (82, .aload 0, 83, 99), (83, .dup, 84, 99), (84, .getfield 505, 87, 99), (87, .iconst (1), 88, 99), (88, .iadd, 89, 99), (89, .putfield 505, 92, 99), (92, .goto 7, 95, 99), (95, .iconst (1), 96, 99), (96, .freturn, 97, 99)]
def pg85 : List AEnt := pg85_0 ++ (pg85_1)
def ac85_0 : List Instr := [.iconst 0, .istore_n 2, .aload_n 0, .iconst 0, .putfield 243, .aload_n 0, .getfield 243, .bipush 60, .if_icmp .ge 82, .iload_n 2, .aload_n 0, .getfield 26, .getfield 224, .if_icmp .ge 71, .aload_n 0, .getfield 26, .iload_n 2, .invokevirtual 253, .ifCond .ne 20, .aload_n 0, .iload_n 2, .iconst 1, .aload_n 0, .getfield 26, .getfield 256, .iload_n 2, .isub, .invokevirtual 259, .iconst 0, .ireturn, .aload_n 0, .aload_n 1, .invokevirtual 263, .istore_n 3, .iload_n 3, .ifCond .ge 12, .aload_n 0, .iload_n 2, .iconst 2, .iload_n 3]
def ac85_1 : List Instr := [.invokevirtual 259, .iconst 0, .ireturn, .aload_n 0, .getfield 26, .getfield 256, .istore_n 2, .aload_n 0, .dup, .getfield 243, .iconst 1, .iadd, .putfield 243, .goto (-85), .iconst 1, .ireturn]
def ac85 : List Instr := ac85_0 ++ (ac85_1)
-- 86 CoatedBridges.noteFault(III)V
def pg86 : List AEnt := [(0, .aload 0, 1, 99), (1, .iload 1, 2, 99), (2, .putfield 506, 5, 99), (5, .aload 0, 6, 99), (6, .iload 2, 7, 99), (7, .putfield 507, 10, 99), (10, .aload 0, 11, 99), (11, .iload 3, 12, 99), (12, .putfield 508, 15, 99), (15, .return_, 16, 99)]
def ac86 : List Instr := [.aload_n 0, .iload_n 1, .putfield 234, .aload_n 0, .iload_n 2, .putfield 237, .aload_n 0, .iload_n 3, .putfield 240, .return_]
-- 87 CoatedBridges.obeyOrder(LCoatedBridges$State;)I
def pg87_0 : List AEnt := [(0, .aload 0, 1, 99), (1, .getfield 504, 4, 99), (4, .getfield 402, 7, 99), (7, .iconst (0), 8, 99), (8, .iaload, 9, 99), (9, .istore 2, 10, 99), (10, .aload 0, 11, 99), (11, .getfield 504, 14, 99), (14, .getfield 403, 17, 99), (17, .tableswitch 166 (98) (115) #[110, 166, 160, 166, 141, 166, 166, 104, 166, 166, 166, 166, 166, 166, 154, 166, 148, 134], 104, 99), (104, .aload 1, 105, 99), (105, .iload 2, 106, 99), (106, .invokevirtual 22, 109, 99), (109, .ireturn, 110, 99), (110, .aload 1, 111, 99), (111, .iload 2, 112, 99), (112, .aload 0, 113, 99), (113, .getfield 504, 116, 99), (116, .getfield 402, 119, 99), (119, .iconst (1), 120, 99), (120, .iaload, 121, 99), (121, .aload 0, 122, 99), (122, .getfield 504, 125, 99), (125, .getfield 402, 128, 99), (128, .iconst (2), 129, 99), (129, .iaload, 130, 99), (130, .invokevirtual 23, 133, 99), (133, .ireturn, 134, 99), (134, .aload 1, 135, 99), (135, .iload 2, 136, 99), (136, .iconst (0), 137, 99), (137, .invokevirtual 24, 140, 99), (140, .ireturn, 141, 99), (141, .aload 1, 142, 99), (142, .iload 2, 143, 99), (143, .iconst (1), 144, 99), (144, .invokevirtual 24, 147, 99), (147, .ireturn, 148, 99), (148, .aload 1, 149, 99), (149, .iload 2, 150, 99)]
def pg87_1 : List AEnt := [(150, .invokevirtual 25, 153, 99), (153, .ireturn, 154, 99), (154, .aload 1, 155, 99), (155, .iload 2, 156, 99), (156, .invokevirtual 26, 159, 99), (159, .ireturn, 160, 99), (160, .aload 1, 161, 99), (161, .iload 2, 162, 99), (162, .invokevirtual 28, 165, 99), (165, .ireturn, 166, 99), (166, .iconst (-1000001), 168, 99), (168, .ireturn, 169, 99)]
def pg87 : List AEnt := pg87_0 ++ (pg87_1)
def ac87_0 : List Instr := [.aload_n 0, .getfield 26, .getfield 267, .iconst 0, .iaload, .istore_n 2, .aload_n 0, .getfield 26, .getfield 270, .tableswitch 149 98 115 #[93, 149, 143, 149, 124, 149, 149, 87, 149, 149, 149, 149, 149, 149, 137, 149, 131, 117], .aload_n 1, .iload_n 2, .invokevirtual 34, .ireturn, .aload_n 1, .iload_n 2, .aload_n 0, .getfield 26, .getfield 267, .iconst 1, .iaload, .aload_n 0, .getfield 26, .getfield 267, .iconst 2, .iaload, .invokevirtual 41, .ireturn, .aload_n 1, .iload_n 2, .iconst 0, .invokevirtual 45, .ireturn, .aload_n 1, .iload_n 2, .iconst 1, .invokevirtual 45, .ireturn, .aload_n 1, .iload_n 2]
def ac87_1 : List Instr := [.invokevirtual 49, .ireturn, .aload_n 1, .iload_n 2, .invokevirtual 52, .ireturn, .aload_n 1, .iload_n 2, .invokevirtual 55, .ireturn, .ldc 65, .ireturn]
def ac87 : List Instr := ac87_0 ++ (ac87_1)
-- 88 CoatedBridges.holds(II)Z
def pg88 : List AEnt := [(0, .iload 0, 1, 99), (1, .iload 1, 2, 99), (2, .ishr, 3, 99), (3, .iconst (1), 4, 99), (4, .iand, 5, 99), (5, .iconst (1), 6, 99), (6, .if_icmp .ne 13, 9, 99), (9, .iconst (1), 10, 99), (10, .goto 14, 13, 99), (13, .iconst (0), 14, 99), (14, .freturn, 15, 99)]
def ac88 : List Instr := [.iload_n 0, .iload_n 1, .ishr, .iconst 1, .iand, .iconst 1, .if_icmp .ne 7, .iconst 1, .goto 4, .iconst 0, .ireturn]
-- 89 CoatedBridges.lowestIn(I)I
def pg89 : List AEnt := [(0, .iload 0, 1, 99), (1, .invokestatic 169, 4, 99), (4, .ireturn, 5, 99)]
def ac89 : List Instr := [.iload_n 0, .invokestatic 274, .ireturn]
-- 90 CoatedBridges.bitsOf(F)I
def pg90_0 : List AEnt := [(0, .fload 0, 1, 99), (1, .ldc 0, 2, 99), (2, .fcmp .l, 3, 99), (3, .ifCond .gt 8, 6, 99), (6, .iconst (0), 7, 99), (7, .ireturn, 8, 99), (8, .iconst (127), 10, 99), (10, .istore 1, 11, 99), (11, .fload 0, 12, 99), (12, .fstore 2, 13, 99), (13, .iconst (0), 14, 99), (14, .istore 3, 15, 99), (15, .iload 3, 16, 4), (16, .iconst (127), 18, 99), (18, .if_icmp .ge 40, 21, 99), (21, .fload 2, 22, 99), (22, .ldc 1073741824, 23, 99), (23, .fcmp .l, 24, 99), (24, .ifCond .lt 40, 27, 99), (27, .fload 2, 28, 99), (28, .ldc 1073741824, 29, 99), (29, .fdiv, 30, 99), (30, .fstore 2, 31, 99), (31, .iinc 1 (1), 34, 99), (34, .iinc 3 (1), 37, 99), (37, .goto 15, 40, 99), (40, .iconst (0), 41, 99), (41, .istore 3, 42, 99), (42, .iload 3, 43, 4), (43, .iconst (126), 45, 99), (45, .if_icmp .ge 67, 48, 99), (48, .fload 2, 49, 99), (49, .ldc 1065353216, 50, 99), (50, .fcmp .g, 51, 99), (51, .ifCond .ge 67, 54, 99), (54, .fload 2, 55, 99), (55, .ldc 1073741824, 56, 99), (56, .fmul, 57, 99), (57, .fstore 2, 58, 99), (58, .iinc 1 (-1), 61, 99)]
def pg90_1 : List AEnt := [(61, .iinc 3 (1), 64, 99), (64, .goto 42, 67, 99), (67, .iload 1, 68, 99), (68, .iconst (23), 70, 99), (70, .ishl, 71, 99), (71, .fload 2, 72, 99), (72, .ldc 1065353216, 73, 99), (73, .fsub, 74, 99), (74, .ldc 1258291200, 77, 99), (77, .fmul, 78, 99), (78, .f2i, 79, 99), (79, .ior, 80, 99), (80, .ireturn, 81, 99)]
def pg90 : List AEnt := pg90_0 ++ (pg90_1)
def ac90_0 : List Instr := [.fload_n 0, .fconst 0, .fcmp .l, .ifCond .gt 5, .iconst 0, .ireturn, .bipush 127, .istore_n 1, .fload_n 0, .fstore_n 2, .iconst 0, .istore_n 3, .iload_n 3, .bipush 127, .if_icmp .ge 22, .fload_n 2, .fconst 2, .fcmp .l, .ifCond .lt 16, .fload_n 2, .fconst 2, .fdiv, .fstore_n 2, .iinc 1 1, .iinc 3 1, .goto (-22), .iconst 0, .istore_n 3, .iload_n 3, .bipush 126, .if_icmp .ge 22, .fload_n 2, .fconst 1, .fcmp .g, .ifCond .ge 16, .fload_n 2, .fconst 2, .fmul, .fstore_n 2, .iinc 1 (-1)]
def ac90_1 : List Instr := [.iinc 3 1, .goto (-22), .iload_n 1, .bipush 23, .ishl, .fload_n 2, .fconst 1, .fsub, .ldc_w 279, .fmul, .f2i, .ior, .ireturn]
def ac90 : List Instr := ac90_0 ++ (ac90_1)
-- 91 CoatedBridgesModel.<init>()V
def pg91_0 : List AEnt := [(0, .aload 0, 1, 99), (1, .nop, 4, 99), (4, .aload 0, 5, 99), (5, .iconst (184), 8, 99), (8, .newarray .int, 10, 99), (10, .putfield 600, 13, 99), (13, .aload 0, 14, 99), (14, .iconst (184), 17, 99), (17, .newarray .int, 19, 99), (19, .putfield 601, 22, 99), (22, .aload 0, 23, 99), (23, .iconst (184), 26, 99), (26, .newarray .int, 28, 99), (28, .putfield 602, 31, 99), (31, .aload 0, 32, 99), (32, .iconst (736), 35, 99), (35, .newarray .int, 37, 99), (37, .putfield 603, 40, 99), (40, .aload 0, 41, 99), (41, .iconst (60), 43, 99), (43, .newarray .int, 45, 99), (45, .putfield 605, 48, 99), (48, .aload 0, 49, 99), (49, .iconst (14), 51, 99), (51, .newarray .boolean, 53, 99), (53, .putfield 607, 56, 99), (56, .aload 0, 57, 99), (57, .iconst (3), 58, 99), (58, .newarray .int, 60, 99), (60, .putfield 612, 63, 99), (63, .aload 0, 64, 99), (64, .getfield 600, 67, 99), (67, .iconst (1), 68, 99), (68, .iconst (1), 69, 99), (69, .iastore, 70, 99), (70, .aload 0, 71, 99), (71, .getfield 600, 74, 99), (74, .iconst (3), 75, 99), (75, .iconst (1), 76, 99), (76, .iastore, 77, 99)]
def pg91_1 : List AEnt := [(77, .aload 0, 78, 99), (78, .getfield 600, 81, 99), (81, .iconst (4), 82, 99), (82, .iconst (30), 84, 99), (84, .iastore, 85, 99), (85, .aload 0, 86, 99), (86, .getfield 600, 89, 99), (89, .iconst (5), 90, 99), (90, .iconst (10), 92, 99), (92, .iastore, 93, 99), (93, .aload 0, 94, 99), (94, .getfield 600, 97, 99), (97, .iconst (7), 99, 99), (99, .iconst (3), 100, 99), (100, .iastore, 101, 99), (101, .aload 0, 102, 99), (102, .getfield 600, 105, 99), (105, .iconst (8), 107, 99), (107, .iconst (12), 109, 99), (109, .iastore, 110, 99), (110, .aload 0, 111, 99), (111, .getfield 600, 114, 99), (114, .iconst (10), 116, 99), (116, .iconst (40), 118, 99), (118, .iastore, 119, 99), (119, .aload 0, 120, 99), (120, .getfield 600, 123, 99), (123, .iconst (11), 125, 99), (125, .iconst (200), 128, 99), (128, .iastore, 129, 99), (129, .return_, 130, 99)]
def pg91 : List AEnt := pg91_0 ++ (pg91_1)
def ac91_0 : List Instr := [.aload_n 0, .invokespecial 1, .aload_n 0, .sipush 184, .newarray .int, .putfield 7, .aload_n 0, .sipush 184, .newarray .int, .putfield 13, .aload_n 0, .sipush 184, .newarray .int, .putfield 16, .aload_n 0, .sipush 736, .newarray .int, .putfield 19, .aload_n 0, .bipush 60, .newarray .int, .putfield 22, .aload_n 0, .bipush 14, .newarray .boolean, .putfield 25, .aload_n 0, .iconst 3, .newarray .int, .putfield 29, .aload_n 0, .getfield 7, .iconst 1, .iconst 1, .iastore, .aload_n 0, .getfield 7, .iconst 3, .iconst 1, .iastore]
def ac91_1 : List Instr := [.aload_n 0, .getfield 7, .iconst 4, .bipush 30, .iastore, .aload_n 0, .getfield 7, .iconst 5, .bipush 10, .iastore, .aload_n 0, .getfield 7, .bipush 7, .iconst 3, .iastore, .aload_n 0, .getfield 7, .bipush 8, .bipush 12, .iastore, .aload_n 0, .getfield 7, .bipush 10, .bipush 40, .iastore, .aload_n 0, .getfield 7, .bipush 11, .sipush 200, .iastore, .return_]
def ac91 : List Instr := ac91_0 ++ (ac91_1)
-- 92 CoatedBridgesModel.in(III)Z
def pg92 : List AEnt := [(0, .iload 0, 1, 99), (1, .iload 1, 2, 99), (2, .if_icmp .lt 14, 5, 99), (5, .iload 0, 6, 99), (6, .iload 2, 7, 99), (7, .if_icmp .gt 14, 10, 99), (10, .iconst (1), 11, 99), (11, .goto 15, 14, 99), (14, .iconst (0), 15, 99), (15, .freturn, 16, 99)]
def ac92 : List Instr := [.iload_n 0, .iload_n 1, .if_icmp .lt 12, .iload_n 0, .iload_n 2, .if_icmp .gt 7, .iconst 1, .goto 4, .iconst 0, .ireturn]
-- 93 CoatedBridgesModel.copies([II[II)V
def pg93 : List AEnt := [(0, .iconst (0), 1, 99), (1, .istore 4, 3, 99), (3, .iload 4, 5, 5), (5, .iconst (184), 8, 99), (8, .if_icmp .ge 29, 11, 99), (11, .aload 2, 12, 99), (12, .iload 3, 13, 99), (13, .iload 4, 15, 99), (15, .iadd, 16, 99), (16, .aload 0, 17, 99), (17, .iload 1, 18, 99), (18, .iload 4, 20, 99), (20, .iadd, 21, 99), (21, .iaload, 22, 99), (22, .iastore, 23, 99), (23, .iinc 4 (1), 26, 99), (26, .goto 3, 29, 99), (29, .return_, 30, 99)]
def ac93 : List Instr := [.iconst 0, .istore 4, .iload 4, .sipush 184, .if_icmp .ge 21, .aload_n 2, .iload_n 3, .iload 4, .iadd, .aload_n 0, .iload_n 1, .iload 4, .iadd, .iaload, .iastore, .iinc 4 1, .goto (-23), .return_]
-- 94 CoatedBridgesModel.records()V
def pg94_0 : List AEnt := [(0, .aload 0, 1, 99), (1, .getfield 604, 4, 99), (4, .iconst (4), 5, 99), (5, .if_icmp .ne 49, 8, 99), (8, .iconst (0), 9, 99), (9, .istore 1, 10, 99), (10, .iload 1, 11, 2), (11, .iconst (552), 14, 99), (14, .if_icmp .ge 39, 17, 99), (17, .aload 0, 18, 99), (18, .getfield 603, 21, 99), (21, .iload 1, 22, 99), (22, .aload 0, 23, 99), (23, .getfield 603, 26, 99), (26, .iload 1, 27, 99), (27, .iconst (184), 30, 99), (30, .iadd, 31, 99), (31, .iaload, 32, 99), (32, .iastore, 33, 99), (33, .iinc 1 (1), 36, 99), (36, .goto 10, 39, 99), (39, .aload 0, 40, 99), (40, .dup, 41, 99), (41, .getfield 604, 44, 99), (44, .iconst (1), 45, 99), (45, .isub, 46, 99), (46, .putfield 604, 49, 99), (49, .aload 0, 50, 99), (50, .getfield 600, 53, 99), (53, .iconst (0), 54, 99), (54, .aload 0, 55, 99), (55, .getfield 603, 58, 99), (58, .iconst (184), 61, 99), (61, .aload 0, 62, 99), (62, .getfield 604, 65, 99), (65, .imul, 66, 99), (66, .invokestatic 93, 69, 99), (69, .aload 0, 70, 99), (70, .dup, 71, 99), (71, .getfield 604, 74, 99)]
def pg94_1 : List AEnt := [(74, .iconst (1), 75, 99), (75, .iadd, 76, 99), (76, .putfield 604, 79, 99), (79, .return_, 80, 99)]
def pg94 : List AEnt := pg94_0 ++ (pg94_1)
def ac94_0 : List Instr := [.aload_n 0, .getfield 32, .iconst 4, .if_icmp .ne 44, .iconst 0, .istore_n 1, .iload_n 1, .sipush 552, .if_icmp .ge 25, .aload_n 0, .getfield 19, .iload_n 1, .aload_n 0, .getfield 19, .iload_n 1, .sipush 184, .iadd, .iaload, .iastore, .iinc 1 1, .goto (-26), .aload_n 0, .dup, .getfield 32, .iconst 1, .isub, .putfield 32, .aload_n 0, .getfield 7, .iconst 0, .aload_n 0, .getfield 19, .sipush 184, .aload_n 0, .getfield 32, .imul, .invokestatic 36, .aload_n 0, .dup, .getfield 32]
def ac94_1 : List Instr := [.iconst 1, .iadd, .putfield 32, .return_]
def ac94 : List Instr := ac94_0 ++ (ac94_1)
-- 95 CoatedBridgesModel.isIsland(I)Z
def pg95 : List AEnt := [(0, .iload 1, 1, 99), (1, .iconst (0), 2, 99), (2, .aload 0, 3, 99), (3, .getfield 600, 6, 99), (6, .iconst (1), 7, 99), (7, .iaload, 8, 99), (8, .iconst (1), 9, 99), (9, .isub, 10, 99), (10, .invokestatic 92, 13, 99), (13, .freturn, 14, 99)]
def ac95 : List Instr := [.iload_n 1, .iconst 0, .aload_n 0, .getfield 7, .iconst 1, .iaload, .iconst 1, .isub, .invokestatic 40, .ireturn]
-- 96 CoatedBridgesModel.isBridge(I)Z
def pg96 : List AEnt := [(0, .iload 1, 1, 99), (1, .iconst (0), 2, 99), (2, .aload 0, 3, 99), (3, .getfield 600, 6, 99), (6, .iconst (2), 7, 99), (7, .iaload, 8, 99), (8, .iconst (1), 9, 99), (9, .isub, 10, 99), (10, .invokestatic 92, 13, 99), (13, .freturn, 14, 99)]
def ac96 : List Instr := [.iload_n 1, .iconst 0, .aload_n 0, .getfield 7, .iconst 2, .iaload, .iconst 1, .isub, .invokestatic 40, .ireturn]
-- 97 CoatedBridgesModel.of(II)I
def pg97 : List AEnt := [(0, .aload 0, 1, 99), (1, .getfield 600, 4, 99), (4, .iconst (72), 6, 99), (6, .iconst (8), 8, 99), (8, .iload 1, 9, 99), (9, .imul, 10, 99), (10, .iadd, 11, 99), (11, .iload 2, 12, 99), (12, .iadd, 13, 99), (13, .iaload, 14, 99), (14, .ireturn, 15, 99)]
def ac97 : List Instr := [.aload_n 0, .getfield 7, .bipush 72, .bipush 8, .iload_n 1, .imul, .iadd, .iload_n 2, .iadd, .iaload, .ireturn]
-- 98 CoatedBridgesModel.lays(III)V
def pg98 : List AEnt := [(0, .aload 0, 1, 99), (1, .getfield 600, 4, 99), (4, .iconst (72), 6, 99), (6, .iconst (8), 8, 99), (8, .iload 1, 9, 99), (9, .imul, 10, 99), (10, .iadd, 11, 99), (11, .iload 2, 12, 99), (12, .iadd, 13, 99), (13, .iload 3, 14, 99), (14, .iastore, 15, 99), (15, .return_, 16, 99)]
def ac98 : List Instr := [.aload_n 0, .getfield 7, .bipush 72, .bipush 8, .iload_n 1, .imul, .iadd, .iload_n 2, .iadd, .iload_n 3, .iastore, .return_]
-- 99 CoatedBridgesModel.adds(III)V
def pg99 : List AEnt := [(0, .aload 0, 1, 99), (1, .getfield 600, 4, 99), (4, .iconst (72), 6, 99), (6, .iconst (8), 8, 99), (8, .iload 1, 9, 99), (9, .imul, 10, 99), (10, .iadd, 11, 99), (11, .iload 2, 12, 99), (12, .iadd, 13, 99), (13, .dup2, 14, 99), (14, .iaload, 15, 99), (15, .iload 3, 16, 99), (16, .iadd, 17, 99), (17, .iastore, 18, 99), (18, .return_, 19, 99)]
def ac99 : List Instr := [.aload_n 0, .getfield 7, .bipush 72, .bipush 8, .iload_n 1, .imul, .iadd, .iload_n 2, .iadd, .dup2, .iaload, .iload_n 3, .iadd, .iastore, .return_]
-- 100 CoatedBridgesModel.ofIsland(II)I
def pg100 : List AEnt := [(0, .aload 0, 1, 99), (1, .getfield 600, 4, 99), (4, .iconst (32), 6, 99), (6, .iconst (5), 7, 99), (7, .iload 1, 8, 99), (8, .imul, 9, 99), (9, .iadd, 10, 99), (10, .iload 2, 11, 99), (11, .iadd, 12, 99), (12, .iaload, 13, 99), (13, .ireturn, 14, 99)]
def ac100 : List Instr := [.aload_n 0, .getfield 7, .bipush 32, .iconst 5, .iload_n 1, .imul, .iadd, .iload_n 2, .iadd, .iaload, .ireturn]
-- 101 CoatedBridgesModel.laysIsland(III)V
def pg101 : List AEnt := [(0, .aload 0, 1, 99), (1, .getfield 600, 4, 99), (4, .iconst (32), 6, 99), (6, .iconst (5), 7, 99), (7, .iload 1, 8, 99), (8, .imul, 9, 99), (9, .iadd, 10, 99), (10, .iload 2, 11, 99), (11, .iadd, 12, 99), (12, .iload 3, 13, 99), (13, .iastore, 14, 99), (14, .return_, 15, 99)]
def ac101 : List Instr := [.aload_n 0, .getfield 7, .bipush 32, .iconst 5, .iload_n 1, .imul, .iadd, .iload_n 2, .iadd, .iload_n 3, .iastore, .return_]
-- 102 CoatedBridgesModel.addsIsland(II)V
def pg102 : List AEnt := [(0, .aload 0, 1, 99), (1, .getfield 600, 4, 99), (4, .iconst (32), 6, 99), (6, .iconst (5), 7, 99), (7, .iload 1, 8, 99), (8, .imul, 9, 99), (9, .iadd, 10, 99), (10, .iload 2, 11, 99), (11, .iadd, 12, 99), (12, .dup2, 13, 99), (13, .iaload, 14, 99), (14, .iconst (1), 15, 99), (15, .iadd, 16, 99), (16, .iastore, 17, 99), (17, .return_, 18, 99)]
def ac102 : List Instr := [.aload_n 0, .getfield 7, .bipush 32, .iconst 5, .iload_n 1, .imul, .iadd, .iload_n 2, .iadd, .dup2, .iaload, .iconst 1, .iadd, .iastore, .return_]
-- 103 CoatedBridgesModel.isPainted(I)Z
def pg103 : List AEnt := [(0, .aload 0, 1, 99), (1, .iload 1, 2, 99), (2, .iconst (4), 3, 99), (3, .invokevirtual 97, 6, 99), (6, .iconst (1), 7, 99), (7, .if_icmp .ne 14, 10, 99), (10, .iconst (1), 11, 99), (11, .goto 15, 14, 99), (14, .iconst (0), 15, 99), (15, .freturn, 16, 99)]
def ac103 : List Instr := [.aload_n 0, .iload_n 1, .iconst 4, .invokevirtual 44, .iconst 1, .if_icmp .ne 7, .iconst 1, .goto 4, .iconst 0, .ireturn]
-- 104 CoatedBridgesModel.isOpen(I)Z
def pg104 : List AEnt := [(0, .aload 0, 1, 99), (1, .iload 1, 2, 99), (2, .iconst (4), 3, 99), (3, .invokevirtual 97, 6, 99), (6, .ifCond .ne 22, 9, 99), (9, .aload 0, 10, 99), (10, .iload 1, 11, 99), (11, .iconst (3), 12, 99), (12, .invokevirtual 97, 15, 99), (15, .ifCond .le 22, 18, 99), (18, .iconst (1), 19, 99), (19, .goto 23, 22, 99), (22, .iconst (0), 23, 99), (23, .freturn, 24, 99)]
def ac104 : List Instr := [.aload_n 0, .iload_n 1, .iconst 4, .invokevirtual 44, .ifCond .ne 16, .aload_n 0, .iload_n 1, .iconst 3, .invokevirtual 44, .ifCond .le 7, .iconst 1, .goto 4, .iconst 0, .ireturn]
-- 105 CoatedBridgesModel.stateOf(I)I
def pg105 : List AEnt := [(0, .aload 0, 1, 99), (1, .iload 1, 2, 99), (2, .invokevirtual 103, 5, 99), (5, .ifCond .eq 12, 8, 99), (8, .iconst (1), 9, 99), (9, .goto 26, 12, 99), (12, .aload 0, 13, 99), (13, .iload 1, 14, 99), (14, .iconst (3), 15, 99), (15, .invokevirtual 97, 18, 99), (18, .ifCond .le 25, 21, 99), (21, .iconst (0), 22, 99), (22, .goto 26, 25, 99), (25, .iconst (2), 26, 99), (26, .ireturn, 27, 99)]
def ac105 : List Instr := [.aload_n 0, .iload_n 1, .invokevirtual 48, .ifCond .eq 7, .iconst 1, .goto 17, .aload_n 0, .iload_n 1, .iconst 3, .invokevirtual 44, .ifCond .le 7, .iconst 0, .goto 4, .iconst 2, .ireturn]
-- 106 CoatedBridgesModel.reached(II)I
def pg106_0 : List AEnt := [(0, .iconst (1), 1, 99), (1, .iload 1, 2, 99), (2, .ishl, 3, 99), (3, .istore 3, 4, 99), (4, .iconst (0), 5, 99), (5, .istore 4, 7, 99), (7, .iload 4, 9, 5), (9, .iload 3, 10, 99), (10, .if_icmp .eq 91, 13, 99), (13, .iload 3, 14, 99), (14, .istore 4, 16, 99), (16, .iconst (0), 17, 99), (17, .istore 5, 19, 99), (19, .iload 5, 21, 6), (21, .aload 0, 22, 99), (22, .getfield 600, 25, 99), (25, .iconst (2), 26, 99), (26, .iaload, 27, 99), (27, .if_icmp .ge 88, 30, 99), (30, .iconst (1), 31, 99), (31, .aload 0, 32, 99), (32, .iload 5, 34, 99), (34, .iconst (0), 35, 99), (35, .invokevirtual 97, 38, 99), (38, .ishl, 39, 99), (39, .iconst (1), 40, 99), (40, .aload 0, 41, 99), (41, .iload 5, 43, 99), (43, .iconst (1), 44, 99), (44, .invokevirtual 97, 47, 99), (47, .ishl, 48, 99), (48, .ior, 49, 99), (49, .istore 6, 51, 99), (51, .iload 3, 52, 99), (52, .iload 5, 54, 99), (54, .iload 2, 55, 99), (55, .if_icmp .eq 79, 58, 99), (58, .aload 0, 59, 99), (59, .iload 5, 61, 99), (61, .invokevirtual 104, 64, 99)]
def pg106_1 : List AEnt := [(64, .ifCond .eq 79, 67, 99), (67, .iload 3, 68, 99), (68, .iload 6, 70, 99), (70, .iand, 71, 99), (71, .ifCond .eq 79, 74, 99), (74, .iload 6, 76, 99), (76, .goto 80, 79, 99), (79, .iconst (0), 80, 99), (80, .ior, 81, 99), (81, .istore 3, 82, 99), (82, .iinc 5 (1), 85, 99), (85, .goto 19, 88, 99), (88, .goto 7, 91, 99), (91, .iload 3, 92, 99), (92, .ireturn, 93, 99)]
def pg106 : List AEnt := pg106_0 ++ (pg106_1)
def ac106_0 : List Instr := [.iconst 1, .iload_n 1, .ishl, .istore_n 3, .iconst 0, .istore 4, .iload 4, .iload_n 3, .if_icmp .eq 81, .iload_n 3, .istore 4, .iconst 0, .istore 5, .iload 5, .aload_n 0, .getfield 7, .iconst 2, .iaload, .if_icmp .ge 61, .iconst 1, .aload_n 0, .iload 5, .iconst 0, .invokevirtual 44, .ishl, .iconst 1, .aload_n 0, .iload 5, .iconst 1, .invokevirtual 44, .ishl, .ior, .istore 6, .iload_n 3, .iload 5, .iload_n 2, .if_icmp .eq 24, .aload_n 0, .iload 5, .invokevirtual 52]
def ac106_1 : List Instr := [.ifCond .eq 15, .iload_n 3, .iload 6, .iand, .ifCond .eq 8, .iload 6, .goto 4, .iconst 0, .ior, .istore_n 3, .iinc 5 1, .goto (-66), .goto (-81), .iload_n 3, .ireturn]
def ac106 : List Instr := ac106_0 ++ (ac106_1)
-- 107 CoatedBridgesModel.cutOff(I)I
def pg107 : List AEnt := [(0, .aload 0, 1, 99), (1, .iconst (0), 2, 99), (2, .iconst (-1000004), 4, 99), (4, .invokevirtual 106, 7, 99), (7, .aload 0, 8, 99), (8, .iconst (0), 9, 99), (9, .iload 1, 10, 99), (10, .invokevirtual 106, 13, 99), (13, .iconst (-1), 14, 99), (14, .ixor, 15, 99), (15, .iand, 16, 99), (16, .ireturn, 17, 99)]
def ac107 : List Instr := [.aload_n 0, .iconst 0, .ldc 55, .invokevirtual 56, .aload_n 0, .iconst 0, .iload_n 1, .invokevirtual 56, .iconst (-1), .ixor, .iand, .ireturn]
-- 108 CoatedBridgesModel.painted()I
def pg108 : List AEnt := [(0, .iconst (0), 1, 99), (1, .istore 1, 2, 99), (2, .iconst (0), 3, 99), (3, .istore 2, 4, 99), (4, .iload 2, 5, 3), (5, .aload 0, 6, 99), (6, .getfield 600, 9, 99), (9, .iconst (2), 10, 99), (10, .iaload, 11, 99), (11, .if_icmp .ge 29, 14, 99), (14, .iload 1, 15, 99), (15, .aload 0, 16, 99), (16, .iload 2, 17, 99), (17, .iconst (4), 18, 99), (18, .invokevirtual 97, 21, 99), (21, .iadd, 22, 99), (22, .istore 1, 23, 99), (23, .iinc 2 (1), 26, 99), (26, .goto 4, 29, 99), (29, .iload 1, 30, 99), (30, .ireturn, 31, 99)]
def ac108 : List Instr := [.iconst 0, .istore_n 1, .iconst 0, .istore_n 2, .iload_n 2, .aload_n 0, .getfield 7, .iconst 2, .iaload, .if_icmp .ge 18, .iload_n 1, .aload_n 0, .iload_n 2, .iconst 4, .invokevirtual 44, .iadd, .istore_n 1, .iinc 2 1, .goto (-22), .iload_n 1, .ireturn]
-- 109 CoatedBridgesModel.reasonOf(I)I
def pg109 : List AEnt := [(0, .aload 0, 1, 99), (1, .iload 1, 2, 99), (2, .invokevirtual 103, 5, 99), (5, .ifCond .eq 12, 8, 99), (8, .iconst (1), 9, 99), (9, .goto 57, 12, 99), (12, .aload 0, 13, 99), (13, .iload 1, 14, 99), (14, .iconst (3), 15, 99), (15, .invokevirtual 97, 18, 99), (18, .iconst (100), 20, 99), (20, .if_icmp .ne 27, 23, 99), (23, .iconst (2), 24, 99), (24, .goto 57, 27, 99), (27, .aload 0, 28, 99), (28, .invokevirtual 108, 31, 99), (31, .aload 0, 32, 99), (32, .getfield 600, 35, 99), (35, .iconst (3), 36, 99), (36, .iaload, 37, 99), (37, .if_icmp .lt 44, 40, 99), (40, .iconst (3), 41, 99), (41, .goto 57, 44, 99), (44, .aload 0, 45, 99), (45, .iload 1, 46, 99), (46, .invokevirtual 107, 49, 99), (49, .ifCond .eq 56, 52, 99), (52, .iconst (4), 53, 99), (53, .goto 57, 56, 99), (56, .iconst (0), 57, 99), (57, .ireturn, 58, 99)]
def ac109 : List Instr := [.aload_n 0, .iload_n 1, .invokevirtual 48, .ifCond .eq 7, .iconst 1, .goto 48, .aload_n 0, .iload_n 1, .iconst 3, .invokevirtual 44, .bipush 100, .if_icmp .ne 7, .iconst 2, .goto 33, .aload_n 0, .invokevirtual 59, .aload_n 0, .getfield 7, .iconst 3, .iaload, .if_icmp .lt 7, .iconst 3, .goto 16, .aload_n 0, .iload_n 1, .invokevirtual 63, .ifCond .eq 7, .iconst 4, .goto 4, .iconst 0, .ireturn]
-- 110 CoatedBridgesModel.bestOne()I
def pg110_0 : List AEnt := [(0, .iconst (-1000004), 2, 99), (2, .istore 1, 3, 99), (3, .iconst (0), 4, 99), (4, .istore 2, 5, 99), (5, .iload 2, 6, 3), (6, .aload 0, 7, 99), (7, .getfield 600, 10, 99), (10, .iconst (2), 11, 99), (11, .iaload, 12, 99), (12, .if_icmp .ge 80, 15, 99), (15, .aload 0, 16, 99), (16, .iload 2, 17, 99), (17, .iconst (3), 18, 99), (18, .invokevirtual 97, 21, 99), (21, .aload 0, 22, 99), (22, .getfield 600, 25, 99), (25, .iconst (10), 27, 99), (27, .iaload, 28, 99), (28, .if_icmp .gt 43, 31, 99), (31, .aload 0, 32, 99), (32, .iload 2, 33, 99), (33, .invokevirtual 109, 36, 99), (36, .ifCond .ne 43, 39, 99), (39, .iconst (1), 40, 99), (40, .goto 44, 43, 99), (43, .iconst (0), 44, 99), (44, .istore 3, 45, 99), (45, .iload 3, 46, 99), (46, .ifCond .eq 72, 49, 99), (49, .iload 1, 50, 99), (50, .ifCond .lt 68, 53, 99), (53, .aload 0, 54, 99), (54, .iload 2, 55, 99), (55, .iconst (3), 56, 99), (56, .invokevirtual 97, 59, 99), (59, .aload 0, 60, 99), (60, .iload 1, 61, 99), (61, .iconst (3), 62, 99), (62, .invokevirtual 97, 65, 99), (65, .if_icmp .ge 72, 68, 99)]
def pg110_1 : List AEnt := [(68, .iload 2, 69, 99), (69, .goto 73, 72, 99), (72, .iload 1, 73, 99), (73, .istore 1, 74, 99), (74, .iinc 2 (1), 77, 99), (77, .goto 5, 80, 99), (80, .iload 1, 81, 99), (81, .ireturn, 82, 99)]
def pg110 : List AEnt := pg110_0 ++ (pg110_1)
def ac110_0 : List Instr := [.ldc 55, .istore_n 1, .iconst 0, .istore_n 2, .iload_n 2, .aload_n 0, .getfield 7, .iconst 2, .iaload, .if_icmp .ge 68, .aload_n 0, .iload_n 2, .iconst 3, .invokevirtual 44, .aload_n 0, .getfield 7, .bipush 10, .iaload, .if_icmp .gt 15, .aload_n 0, .iload_n 2, .invokevirtual 67, .ifCond .ne 7, .iconst 1, .goto 4, .iconst 0, .istore_n 3, .iload_n 3, .ifCond .eq 26, .iload_n 1, .ifCond .lt 18, .aload_n 0, .iload_n 2, .iconst 3, .invokevirtual 44, .aload_n 0, .iload_n 1, .iconst 3, .invokevirtual 44, .if_icmp .ge 7]
def ac110_1 : List Instr := [.iload_n 2, .goto 4, .iload_n 1, .istore_n 1, .iinc 2 1, .goto (-72), .iload_n 1, .ireturn]
def ac110 : List Instr := ac110_0 ++ (ac110_1)
-- 111 CoatedBridgesModel.goIsland(I)I
def pg111 : List AEnt := [(0, .aload 0, 1, 99), (1, .getfield 600, 4, 99), (4, .iconst (1), 5, 99), (5, .iaload, 6, 99), (6, .istore 2, 7, 99), (7, .iconst (0), 8, 99), (8, .istore 3, 9, 99), (9, .iload 3, 10, 4), (10, .iconst (5), 11, 99), (11, .if_icmp .ge 27, 14, 99), (14, .aload 0, 15, 99), (15, .iload 2, 16, 99), (16, .iload 3, 17, 99), (17, .iconst (0), 18, 99), (18, .invokevirtual 101, 21, 99), (21, .iinc 3 (1), 24, 99), (24, .goto 9, 27, 99), (27, .aload 0, 28, 99), (28, .iload 2, 29, 99), (29, .iconst (0), 30, 99), (30, .iload 1, 31, 99), (31, .invokevirtual 101, 34, 99), (34, .aload 0, 35, 99), (35, .getfield 600, 38, 99), (38, .iconst (1), 39, 99), (39, .dup2, 40, 99), (40, .iaload, 41, 99), (41, .iconst (1), 42, 99), (42, .iadd, 43, 99), (43, .iastore, 44, 99), (44, .iload 2, 45, 99), (45, .ireturn, 46, 99)]
def ac111 : List Instr := [.aload_n 0, .getfield 7, .iconst 1, .iaload, .istore_n 2, .iconst 0, .istore_n 3, .iload_n 3, .iconst 5, .if_icmp .ge 16, .aload_n 0, .iload_n 2, .iload_n 3, .iconst 0, .invokevirtual 70, .iinc 3 1, .goto (-15), .aload_n 0, .iload_n 2, .iconst 0, .iload_n 1, .invokevirtual 70, .aload_n 0, .getfield 7, .iconst 1, .dup2, .iaload, .iconst 1, .iadd, .iastore, .iload_n 2, .ireturn]
-- 112 CoatedBridgesModel.goBridge(III)I
def pg112_0 : List AEnt := [(0, .aload 0, 1, 99), (1, .getfield 600, 4, 99), (4, .iconst (2), 5, 99), (5, .iaload, 6, 99), (6, .istore 4, 8, 99), (8, .iconst (0), 9, 99), (9, .istore 5, 11, 99), (11, .iload 5, 13, 6), (13, .iconst (8), 15, 99), (15, .if_icmp .ge 33, 18, 99), (18, .aload 0, 19, 99), (19, .iload 4, 21, 99), (21, .iload 5, 23, 99), (23, .iconst (0), 24, 99), (24, .invokevirtual 98, 27, 99), (27, .iinc 5 (1), 30, 99), (30, .goto 11, 33, 99), (33, .aload 0, 34, 99), (34, .iload 4, 36, 99), (36, .iconst (0), 37, 99), (37, .iload 1, 38, 99), (38, .invokevirtual 98, 41, 99), (41, .aload 0, 42, 99), (42, .iload 4, 44, 99), (44, .iconst (1), 45, 99), (45, .iload 2, 46, 99), (46, .invokevirtual 98, 49, 99), (49, .aload 0, 50, 99), (50, .iload 4, 52, 99), (52, .iconst (2), 53, 99), (53, .iload 3, 54, 99), (54, .invokevirtual 98, 57, 99), (57, .aload 0, 58, 99), (58, .iload 4, 60, 99), (60, .iconst (3), 61, 99), (61, .iconst (100), 63, 99), (63, .invokevirtual 98, 66, 99), (66, .aload 0, 67, 99), (67, .getfield 600, 70, 99), (70, .iconst (2), 71, 99)]
def pg112_1 : List AEnt := [(71, .dup2, 72, 99), (72, .iaload, 73, 99), (73, .iconst (1), 74, 99), (74, .iadd, 75, 99), (75, .iastore, 76, 99), (76, .iload 4, 78, 99), (78, .ireturn, 79, 99)]
def pg112 : List AEnt := pg112_0 ++ (pg112_1)
def ac112_0 : List Instr := [.aload_n 0, .getfield 7, .iconst 2, .iaload, .istore 4, .iconst 0, .istore 5, .iload 5, .bipush 8, .if_icmp .ge 18, .aload_n 0, .iload 4, .iload 5, .iconst 0, .invokevirtual 74, .iinc 5 1, .goto (-19), .aload_n 0, .iload 4, .iconst 0, .iload_n 1, .invokevirtual 74, .aload_n 0, .iload 4, .iconst 1, .iload_n 2, .invokevirtual 74, .aload_n 0, .iload 4, .iconst 2, .iload_n 3, .invokevirtual 74, .aload_n 0, .iload 4, .iconst 3, .bipush 100, .invokevirtual 74, .aload_n 0, .getfield 7, .iconst 2]
def ac112_1 : List Instr := [.dup2, .iaload, .iconst 1, .iadd, .iastore, .iload 4, .ireturn]
def ac112 : List Instr := ac112_0 ++ (ac112_1)
-- 113 CoatedBridgesModel.goSend(I)I
def pg113 : List AEnt := [(0, .aload 0, 1, 99), (1, .iload 1, 2, 99), (2, .invokevirtual 107, 5, 99), (5, .istore 2, 6, 99), (6, .aload 0, 7, 99), (7, .iload 1, 8, 99), (8, .iconst (4), 9, 99), (9, .iconst (1), 10, 99), (10, .invokevirtual 98, 13, 99), (13, .aload 0, 14, 99), (14, .iload 1, 15, 99), (15, .iconst (5), 16, 99), (16, .iconst (1), 17, 99), (17, .invokevirtual 99, 20, 99), (20, .iload 2, 21, 99), (21, .ireturn, 22, 99)]
def ac113 : List Instr := [.aload_n 0, .iload_n 1, .invokevirtual 63, .istore_n 2, .aload_n 0, .iload_n 1, .iconst 4, .iconst 1, .invokevirtual 74, .aload_n 0, .iload_n 1, .iconst 5, .iconst 1, .invokevirtual 77, .iload_n 2, .ireturn]
-- 114 CoatedBridgesModel.goRecall(I)I
def pg114 : List AEnt := [(0, .aload 0, 1, 99), (1, .iload 1, 2, 99), (2, .iconst (4), 3, 99), (3, .iconst (0), 4, 99), (4, .invokevirtual 98, 7, 99), (7, .aload 0, 8, 99), (8, .iload 1, 9, 99), (9, .iconst (3), 10, 99), (10, .invokevirtual 97, 13, 99), (13, .ireturn, 14, 99)]
def ac114 : List Instr := [.aload_n 0, .iload_n 1, .iconst 4, .iconst 0, .invokevirtual 74, .aload_n 0, .iload_n 1, .iconst 3, .invokevirtual 44, .ireturn]
-- 115 CoatedBridgesModel.goPay(I)I
def pg115 : List AEnt := [(0, .aload 0, 1, 99), (1, .getfield 600, 4, 99), (4, .iconst (11), 6, 99), (6, .dup2, 7, 99), (7, .iaload, 8, 99), (8, .iload 1, 9, 99), (9, .iadd, 10, 99), (10, .iastore, 11, 99), (11, .aload 0, 12, 99), (12, .getfield 600, 15, 99), (15, .iconst (14), 17, 99), (17, .dup2, 18, 99), (18, .iaload, 19, 99), (19, .iload 1, 20, 99), (20, .iadd, 21, 99), (21, .iastore, 22, 99), (22, .aload 0, 23, 99), (23, .getfield 600, 26, 99), (26, .iconst (11), 28, 99), (28, .iaload, 29, 99), (29, .ireturn, 30, 99)]
def ac115 : List Instr := [.aload_n 0, .getfield 7, .bipush 11, .dup2, .iaload, .iload_n 1, .iadd, .iastore, .aload_n 0, .getfield 7, .bipush 14, .dup2, .iaload, .iload_n 1, .iadd, .iastore, .aload_n 0, .getfield 7, .bipush 11, .iaload, .ireturn]
-- 116 CoatedBridgesModel.paints(I)V
def pg116_0 : List AEnt := [(0, .aload 0, 1, 99), (1, .getfield 600, 4, 99), (4, .iconst (5), 5, 99), (5, .iaload, 6, 99), (6, .istore 2, 7, 99), (7, .aload 0, 8, 99), (8, .getfield 600, 11, 99), (11, .iconst (11), 13, 99), (13, .iaload, 14, 99), (14, .iload 2, 15, 99), (15, .if_icmp .ge 19, 18, 99), (18, .return_, 19, 99), (19, .aload 0, 20, 99), (20, .getfield 600, 23, 99), (23, .iconst (11), 25, 99), (25, .dup2, 26, 99), (26, .iaload, 27, 99), (27, .iload 2, 28, 99), (28, .isub, 29, 99), (29, .iastore, 30, 99), (30, .aload 0, 31, 99), (31, .getfield 600, 34, 99), (34, .iconst (12), 36, 99), (36, .dup2, 37, 99), (37, .iaload, 38, 99), (38, .iload 2, 39, 99), (39, .iadd, 40, 99), (40, .iastore, 41, 99), (41, .aload 0, 42, 99), (42, .iload 1, 43, 99), (43, .iconst (7), 45, 99), (45, .iload 2, 46, 99), (46, .invokevirtual 99, 49, 99), (49, .aload 0, 50, 99), (50, .iload 1, 51, 99), (51, .iconst (3), 52, 99), (52, .aload 0, 53, 99), (53, .getfield 600, 56, 99), (56, .iconst (4), 57, 99), (57, .iaload, 58, 99)]
def pg116_1 : List AEnt := [(58, .invokevirtual 99, 61, 99), (61, .aload 0, 62, 99), (62, .iload 1, 63, 99), (63, .iconst (3), 64, 99), (64, .invokevirtual 97, 67, 99), (67, .iconst (100), 69, 99), (69, .if_icmp .lt 87, 72, 99), (72, .aload 0, 73, 99), (73, .iload 1, 74, 99), (74, .iconst (3), 75, 99), (75, .iconst (100), 77, 99), (77, .invokevirtual 98, 80, 99), (80, .aload 0, 81, 99), (81, .iload 1, 82, 99), (82, .iconst (4), 83, 99), (83, .iconst (0), 84, 99), (84, .invokevirtual 98, 87, 99), (87, .return_, 88, 99)]
def pg116 : List AEnt := pg116_0 ++ (pg116_1)
def ac116_0 : List Instr := [.aload_n 0, .getfield 7, .iconst 5, .iaload, .istore_n 2, .aload_n 0, .getfield 7, .bipush 11, .iaload, .iload_n 2, .if_icmp .ge 4, .return_, .aload_n 0, .getfield 7, .bipush 11, .dup2, .iaload, .iload_n 2, .isub, .iastore, .aload_n 0, .getfield 7, .bipush 12, .dup2, .iaload, .iload_n 2, .iadd, .iastore, .aload_n 0, .iload_n 1, .bipush 7, .iload_n 2, .invokevirtual 77, .aload_n 0, .iload_n 1, .iconst 3, .aload_n 0, .getfield 7, .iconst 4, .iaload]
def ac116_1 : List Instr := [.invokevirtual 77, .aload_n 0, .iload_n 1, .iconst 3, .invokevirtual 44, .bipush 100, .if_icmp .lt 18, .aload_n 0, .iload_n 1, .iconst 3, .bipush 100, .invokevirtual 74, .aload_n 0, .iload_n 1, .iconst 4, .iconst 0, .invokevirtual 74, .return_]
def ac116 : List Instr := ac116_0 ++ (ac116_1)
-- 117 CoatedBridgesModel.wears(I)V
def pg117 : List AEnt := [(0, .aload 0, 1, 99), (1, .iload 1, 2, 99), (2, .iconst (3), 3, 99), (3, .invokevirtual 97, 6, 99), (6, .aload 0, 7, 99), (7, .iload 1, 8, 99), (8, .iconst (2), 9, 99), (9, .invokevirtual 97, 12, 99), (12, .isub, 13, 99), (13, .istore 2, 14, 99), (14, .aload 0, 15, 99), (15, .iload 1, 16, 99), (16, .iconst (3), 17, 99), (17, .iload 2, 18, 99), (18, .ifCond .ge 25, 21, 99), (21, .iconst (0), 22, 99), (22, .goto 26, 25, 99), (25, .iload 2, 26, 99), (26, .invokevirtual 98, 29, 99), (29, .return_, 30, 99)]
def ac117 : List Instr := [.aload_n 0, .iload_n 1, .iconst 3, .invokevirtual 44, .aload_n 0, .iload_n 1, .iconst 2, .invokevirtual 44, .isub, .istore_n 2, .aload_n 0, .iload_n 1, .iconst 3, .iload_n 2, .ifCond .ge 7, .iconst 0, .goto 4, .iload_n 2, .invokevirtual 74, .return_]
-- 118 CoatedBridgesModel.waits(IZ)I
def pg118_0 : List AEnt := [(0, .aload 0, 1, 99), (1, .iload 1, 2, 99), (2, .iconst (0), 3, 99), (3, .invokevirtual 100, 6, 99), (6, .istore 3, 7, 99), (7, .iload 2, 8, 99), (8, .ifCond .eq 20, 11, 99), (11, .aload 0, 12, 99), (12, .iload 1, 13, 99), (13, .iconst (1), 14, 99), (14, .iconst (0), 15, 99), (15, .invokevirtual 101, 18, 99), (18, .iconst (0), 19, 99), (19, .ireturn, 20, 99), (20, .aload 0, 21, 99), (21, .getfield 600, 24, 99), (24, .iconst (6), 26, 99), (26, .iaload, 27, 99), (27, .iconst (1), 28, 99), (28, .if_icmp .ne 79, 31, 99), (31, .aload 0, 32, 99), (32, .getfield 600, 35, 99), (35, .iconst (11), 37, 99), (37, .iaload, 38, 99), (38, .iload 3, 39, 99), (39, .if_icmp .lt 79, 42, 99), (42, .aload 0, 43, 99), (43, .getfield 600, 46, 99), (46, .iconst (11), 48, 99), (48, .dup2, 49, 99), (49, .iaload, 50, 99), (50, .iload 3, 51, 99), (51, .isub, 52, 99), (52, .iastore, 53, 99), (53, .aload 0, 54, 99), (54, .getfield 600, 57, 99), (57, .iconst (13), 59, 99), (59, .dup2, 60, 99), (60, .iaload, 61, 99), (61, .iload 3, 62, 99)]
def pg118_1 : List AEnt := [(62, .iadd, 63, 99), (63, .iastore, 64, 99), (64, .aload 0, 65, 99), (65, .iload 1, 66, 99), (66, .iconst (4), 67, 99), (67, .invokevirtual 102, 70, 99), (70, .aload 0, 71, 99), (71, .iload 1, 72, 99), (72, .iconst (1), 73, 99), (73, .iconst (0), 74, 99), (74, .invokevirtual 101, 77, 99), (77, .iconst (0), 78, 99), (78, .ireturn, 79, 99), (79, .aload 0, 80, 99), (80, .iload 1, 81, 99), (81, .iconst (1), 82, 99), (82, .invokevirtual 102, 85, 99), (85, .aload 0, 86, 99), (86, .iload 1, 87, 99), (87, .iconst (1), 88, 99), (88, .invokevirtual 100, 91, 99), (91, .istore 4, 93, 99), (93, .aload 0, 94, 99), (94, .iload 1, 95, 99), (95, .iconst (3), 96, 99), (96, .iload 4, 98, 99), (98, .aload 0, 99, 99), (99, .iload 1, 100, 99), (100, .iconst (3), 101, 99), (101, .invokevirtual 100, 104, 99), (104, .if_icmp .le 112, 107, 99), (107, .iload 4, 109, 99), (109, .goto 118, 112, 99), (112, .aload 0, 113, 99), (113, .iload 1, 114, 99), (114, .iconst (3), 115, 99), (115, .invokevirtual 100, 118, 99), (118, .invokevirtual 101, 121, 99), (121, .iload 4, 123, 99), (123, .aload 0, 124, 99)]
def pg118_2 : List AEnt := [(124, .getfield 600, 127, 99), (127, .iconst (7), 129, 99), (129, .iaload, 130, 99), (130, .if_icmp .gt 135, 133, 99), (133, .iconst (0), 134, 99), (134, .ireturn, 135, 99), (135, .aload 0, 136, 99), (136, .iload 1, 137, 99), (137, .iconst (2), 138, 99), (138, .invokevirtual 102, 141, 99), (141, .iconst (1), 142, 99), (142, .ireturn, 143, 99)]
def pg118 : List AEnt := pg118_0 ++ (pg118_1 ++ (pg118_2))
def ac118_0 : List Instr := [.aload_n 0, .iload_n 1, .iconst 0, .invokevirtual 80, .istore_n 3, .iload_n 2, .ifCond .eq 12, .aload_n 0, .iload_n 1, .iconst 1, .iconst 0, .invokevirtual 70, .iconst 0, .ireturn, .aload_n 0, .getfield 7, .bipush 6, .iaload, .iconst 1, .if_icmp .ne 51, .aload_n 0, .getfield 7, .bipush 11, .iaload, .iload_n 3, .if_icmp .lt 40, .aload_n 0, .getfield 7, .bipush 11, .dup2, .iaload, .iload_n 3, .isub, .iastore, .aload_n 0, .getfield 7, .bipush 13, .dup2, .iaload, .iload_n 3]
def ac118_1 : List Instr := [.iadd, .iastore, .aload_n 0, .iload_n 1, .iconst 4, .invokevirtual 83, .aload_n 0, .iload_n 1, .iconst 1, .iconst 0, .invokevirtual 70, .iconst 0, .ireturn, .aload_n 0, .iload_n 1, .iconst 1, .invokevirtual 83, .aload_n 0, .iload_n 1, .iconst 1, .invokevirtual 80, .istore 4, .aload_n 0, .iload_n 1, .iconst 3, .iload 4, .aload_n 0, .iload_n 1, .iconst 3, .invokevirtual 80, .if_icmp .le 8, .iload 4, .goto 9, .aload_n 0, .iload_n 1, .iconst 3, .invokevirtual 80, .invokevirtual 70, .iload 4, .aload_n 0]
def ac118_2 : List Instr := [.getfield 7, .bipush 7, .iaload, .if_icmp .gt 5, .iconst 0, .ireturn, .aload_n 0, .iload_n 1, .iconst 2, .invokevirtual 83, .iconst 1, .ireturn]
def ac118 : List Instr := ac118_0 ++ (ac118_1 ++ (ac118_2))
-- 119 CoatedBridgesModel.books(I)V
def pg119_0 : List AEnt := [(0, .iconst (31), 2, 99), (2, .istore 2, 3, 99), (3, .iload 2, 4, 3), (4, .iconst (17), 6, 99), (6, .if_icmp .le 29, 9, 99), (9, .aload 0, 10, 99), (10, .getfield 600, 13, 99), (13, .iload 2, 14, 99), (14, .aload 0, 15, 99), (15, .getfield 600, 18, 99), (18, .iload 2, 19, 99), (19, .iconst (2), 20, 99), (20, .isub, 21, 99), (21, .iaload, 22, 99), (22, .iastore, 23, 99), (23, .iinc 2 (-1), 26, 99), (26, .goto 3, 29, 99), (29, .aload 0, 30, 99), (30, .getfield 600, 33, 99), (33, .iconst (16), 35, 99), (35, .aload 0, 36, 99), (36, .getfield 600, 39, 99), (39, .iconst (0), 40, 99), (40, .iaload, 41, 99), (41, .iastore, 42, 99), (42, .aload 0, 43, 99), (43, .getfield 600, 46, 99), (46, .iconst (17), 48, 99), (48, .iload 1, 49, 99), (49, .iastore, 50, 99), (50, .aload 0, 51, 99), (51, .getfield 600, 54, 99), (54, .iconst (15), 56, 99), (56, .dup2, 57, 99), (57, .iaload, 58, 99), (58, .aload 0, 59, 99), (59, .getfield 600, 62, 99), (62, .iconst (15), 64, 99), (64, .iaload, 65, 99), (65, .iconst (8), 67, 99)]
def pg119_1 : List AEnt := [(67, .if_icmp .ge 74, 70, 99), (70, .iconst (1), 71, 99), (71, .goto 75, 74, 99), (74, .iconst (0), 75, 99), (75, .iadd, 76, 99), (76, .iastore, 77, 99), (77, .return_, 78, 99)]
def pg119 : List AEnt := pg119_0 ++ (pg119_1)
def ac119_0 : List Instr := [.bipush 31, .istore_n 2, .iload_n 2, .bipush 17, .if_icmp .le 23, .aload_n 0, .getfield 7, .iload_n 2, .aload_n 0, .getfield 7, .iload_n 2, .iconst 2, .isub, .iaload, .iastore, .iinc 2 (-1), .goto (-23), .aload_n 0, .getfield 7, .bipush 16, .aload_n 0, .getfield 7, .iconst 0, .iaload, .iastore, .aload_n 0, .getfield 7, .bipush 17, .iload_n 1, .iastore, .aload_n 0, .getfield 7, .bipush 15, .dup2, .iaload, .aload_n 0, .getfield 7, .bipush 15, .iaload, .bipush 8]
def ac119_1 : List Instr := [.if_icmp .ge 7, .iconst 1, .goto 4, .iconst 0, .iadd, .iastore, .return_]
def ac119 : List Instr := ac119_0 ++ (ac119_1)
-- 120 CoatedBridgesModel.endsDay()I
def pg120_0 : List AEnt := [(0, .iconst (0), 1, 99), (1, .istore 1, 2, 99), (2, .iload 1, 3, 2), (3, .aload 0, 4, 99), (4, .getfield 600, 7, 99), (7, .iconst (2), 8, 99), (8, .iaload, 9, 99), (9, .if_icmp .ge 29, 12, 99), (12, .aload 0, 13, 99), (13, .getfield 607, 16, 99), (16, .iload 1, 17, 99), (17, .aload 0, 18, 99), (18, .iload 1, 19, 99), (19, .invokevirtual 104, 22, 99), (22, .bastore, 23, 99), (23, .iinc 1 (1), 26, 99), (26, .goto 2, 29, 99), (29, .iconst (0), 30, 99), (30, .istore 1, 31, 99), (31, .iload 1, 32, 2), (32, .aload 0, 33, 99), (33, .getfield 600, 36, 99), (36, .iconst (2), 37, 99), (37, .iaload, 38, 99), (38, .if_icmp .ge 60, 41, 99), (41, .aload 0, 42, 99), (42, .iload 1, 43, 99), (43, .invokevirtual 103, 46, 99), (46, .ifCond .eq 54, 49, 99), (49, .aload 0, 50, 99), (50, .iload 1, 51, 99), (51, .invokevirtual 116, 54, 99), (54, .iinc 1 (1), 57, 99), (57, .goto 31, 60, 99), (60, .iconst (0), 61, 99), (61, .istore 1, 62, 99), (62, .iload 1, 63, 2), (63, .aload 0, 64, 99), (64, .getfield 600, 67, 99), (67, .iconst (2), 68, 99)]
def pg120_1 : List AEnt := [(68, .iaload, 69, 99), (69, .if_icmp .ge 112, 72, 99), (72, .aload 0, 73, 99), (73, .getfield 607, 76, 99), (76, .iload 1, 77, 99), (77, .baload, 78, 99), (78, .ifCond .eq 86, 81, 99), (81, .aload 0, 82, 99), (82, .iload 1, 83, 99), (83, .invokevirtual 117, 86, 99), (86, .aload 0, 87, 99), (87, .iload 1, 88, 99), (88, .iconst (6), 90, 99), (90, .aload 0, 91, 99), (91, .iload 1, 92, 99), (92, .invokevirtual 104, 95, 99), (95, .ifCond .eq 102, 98, 99), (98, .iconst (0), 99, 99), (99, .goto 103, 102, 99), (102, .iconst (1), 103, 99), (103, .invokevirtual 99, 106, 99), (106, .iinc 1 (1), 109, 99), (109, .goto 62, 112, 99), (112, .aload 0, 113, 99), (113, .iconst (0), 114, 99), (114, .iconst (-1000004), 116, 99), (116, .invokevirtual 106, 119, 99), (119, .istore 1, 120, 99), (120, .iconst (0), 121, 99), (121, .istore 2, 122, 99), (122, .iconst (1), 123, 99), (123, .istore 3, 124, 99), (124, .iload 3, 125, 4), (125, .aload 0, 126, 99), (126, .getfield 600, 129, 99), (129, .iconst (1), 130, 99), (130, .iaload, 131, 99), (131, .if_icmp .ge 162, 134, 99), (134, .iload 2, 135, 99), (135, .aload 0, 136, 99)]
def pg120_2 : List AEnt := [(136, .iload 3, 137, 99), (137, .iload 1, 138, 99), (138, .iload 3, 139, 99), (139, .ishr, 140, 99), (140, .iconst (1), 141, 99), (141, .iand, 142, 99), (142, .iconst (1), 143, 99), (143, .if_icmp .ne 150, 146, 99), (146, .iconst (1), 147, 99), (147, .goto 151, 150, 99), (150, .iconst (0), 151, 99), (151, .invokevirtual 118, 154, 99), (154, .iadd, 155, 99), (155, .istore 2, 156, 99), (156, .iinc 3 (1), 159, 99), (159, .goto 124, 162, 99), (162, .iload 2, 163, 99), (163, .ifCond .le 171, 166, 99), (166, .aload 0, 167, 99), (167, .iload 2, 168, 99), (168, .invokevirtual 119, 171, 99), (171, .aload 0, 172, 99), (172, .getfield 600, 175, 99), (175, .iconst (0), 176, 99), (176, .dup2, 177, 99), (177, .iaload, 178, 99), (178, .iconst (1), 179, 99), (179, .iadd, 180, 99), (180, .iastore, 181, 99), (181, .aload 0, 182, 99), (182, .getfield 600, 185, 99), (185, .iconst (11), 187, 99), (187, .dup2, 188, 99), (188, .iaload, 189, 99), (189, .aload 0, 190, 99), (190, .getfield 600, 193, 99), (193, .iconst (8), 195, 99), (195, .iaload, 196, 99), (196, .iadd, 197, 99), (197, .iastore, 198, 99)]
def pg120_3 : List AEnt := [(198, .aload 0, 199, 99), (199, .getfield 600, 202, 99), (202, .iconst (14), 204, 99), (204, .dup2, 205, 99), (205, .iaload, 206, 99), (206, .aload 0, 207, 99), (207, .getfield 600, 210, 99), (210, .iconst (8), 212, 99), (212, .iaload, 213, 99), (213, .iadd, 214, 99), (214, .iastore, 215, 99), (215, .aload 0, 216, 99), (216, .getfield 600, 219, 99), (219, .iconst (9), 221, 99), (221, .iaload, 222, 99), (222, .iconst (1), 223, 99), (223, .if_icmp .ne 233, 226, 99), (226, .aload 0, 227, 99), (227, .invokevirtual 110, 230, 99), (230, .goto 235, 233, 99), (233, .iconst (-1000004), 235, 99), (235, .istore 3, 236, 99), (236, .iload 3, 237, 4), (237, .ifCond .lt 255, 240, 99), (240, .aload 0, 241, 99), (241, .iload 3, 242, 99), (242, .invokevirtual 113, 245, 99), (245, .istore 4, 247, 99), (247, .aload 0, 248, 99), (248, .invokevirtual 110, 251, 99), (251, .istore 3, 252, 99), (252, .goto 236, 255, 99), (255, .iload 2, 256, 99), (256, .ireturn, 257, 99)]
def pg120 : List AEnt := pg120_0 ++ (pg120_1 ++ (pg120_2 ++ (pg120_3)))
def ac120_0 : List Instr := [.iconst 0, .istore_n 1, .iload_n 1, .aload_n 0, .getfield 7, .iconst 2, .iaload, .if_icmp .ge 20, .aload_n 0, .getfield 25, .iload_n 1, .aload_n 0, .iload_n 1, .invokevirtual 52, .bastore, .iinc 1 1, .goto (-24), .iconst 0, .istore_n 1, .iload_n 1, .aload_n 0, .getfield 7, .iconst 2, .iaload, .if_icmp .ge 22, .aload_n 0, .iload_n 1, .invokevirtual 48, .ifCond .eq 8, .aload_n 0, .iload_n 1, .invokevirtual 87, .iinc 1 1, .goto (-26), .iconst 0, .istore_n 1, .iload_n 1, .aload_n 0, .getfield 7, .iconst 2]
def ac120_1 : List Instr := [.iaload, .if_icmp .ge 43, .aload_n 0, .getfield 25, .iload_n 1, .baload, .ifCond .eq 8, .aload_n 0, .iload_n 1, .invokevirtual 91, .aload_n 0, .iload_n 1, .bipush 6, .aload_n 0, .iload_n 1, .invokevirtual 52, .ifCond .eq 7, .iconst 0, .goto 4, .iconst 1, .invokevirtual 77, .iinc 1 1, .goto (-47), .aload_n 0, .iconst 0, .ldc 55, .invokevirtual 56, .istore_n 1, .iconst 0, .istore_n 2, .iconst 1, .istore_n 3, .iload_n 3, .aload_n 0, .getfield 7, .iconst 1, .iaload, .if_icmp .ge 31, .iload_n 2, .aload_n 0]
def ac120_2 : List Instr := [.iload_n 3, .iload_n 1, .iload_n 3, .ishr, .iconst 1, .iand, .iconst 1, .if_icmp .ne 7, .iconst 1, .goto 4, .iconst 0, .invokevirtual 94, .iadd, .istore_n 2, .iinc 3 1, .goto (-35), .iload_n 2, .ifCond .le 8, .aload_n 0, .iload_n 2, .invokevirtual 98, .aload_n 0, .getfield 7, .iconst 0, .dup2, .iaload, .iconst 1, .iadd, .iastore, .aload_n 0, .getfield 7, .bipush 11, .dup2, .iaload, .aload_n 0, .getfield 7, .bipush 8, .iaload, .iadd, .iastore]
def ac120_3 : List Instr := [.aload_n 0, .getfield 7, .bipush 14, .dup2, .iaload, .aload_n 0, .getfield 7, .bipush 8, .iaload, .iadd, .iastore, .aload_n 0, .getfield 7, .bipush 9, .iaload, .iconst 1, .if_icmp .ne 10, .aload_n 0, .invokevirtual 101, .goto 5, .ldc 55, .istore_n 3, .iload_n 3, .ifCond .lt 18, .aload_n 0, .iload_n 3, .invokevirtual 104, .istore 4, .aload_n 0, .invokevirtual 101, .istore_n 3, .goto (-16), .iload_n 2, .ireturn]
def ac120 : List Instr := ac120_0 ++ (ac120_1 ++ (ac120_2 ++ (ac120_3)))
-- 121 CoatedBridgesModel.endsDays(I)I
def pg121 : List AEnt := [(0, .iconst (0), 1, 99), (1, .istore 2, 2, 99), (2, .iconst (0), 3, 99), (3, .istore 3, 4, 99), (4, .iload 3, 5, 4), (5, .iload 1, 6, 99), (6, .if_icmp .ge 22, 9, 99), (9, .iload 2, 10, 99), (10, .aload 0, 11, 99), (11, .invokevirtual 120, 14, 99), (14, .iadd, 15, 99), (15, .istore 2, 16, 99), (16, .iinc 3 (1), 19, 99), (19, .goto 4, 22, 99), (22, .iload 2, 23, 99), (23, .ireturn, 24, 99)]
def ac121 : List Instr := [.iconst 0, .istore_n 2, .iconst 0, .istore_n 3, .iload_n 3, .iload_n 1, .if_icmp .ge 16, .iload_n 2, .aload_n 0, .invokevirtual 107, .iadd, .istore_n 2, .iinc 3 1, .goto (-15), .iload_n 2, .ireturn]
-- 122 CoatedBridgesModel.errorIsland(I)I
def pg122 : List AEnt := [(0, .iload 1, 1, 99), (1, .iconst (0), 2, 99), (2, .iconst (99), 4, 99), (4, .invokestatic 92, 7, 99), (7, .ifCond .ne 15, 10, 99), (10, .iconst (-1000001), 12, 99), (12, .goto 32, 15, 99), (15, .aload 0, 16, 99), (16, .getfield 600, 19, 99), (19, .iconst (1), 20, 99), (20, .iaload, 21, 99), (21, .iconst (8), 23, 99), (23, .if_icmp .ne 31, 26, 99), (26, .iconst (-1000003), 28, 99), (28, .goto 32, 31, 99), (31, .iconst (0), 32, 99), (32, .ireturn, 33, 99)]
def ac122 : List Instr := [.iload_n 1, .iconst 0, .bipush 99, .invokestatic 40, .ifCond .ne 8, .ldc 110, .goto 20, .aload_n 0, .getfield 7, .iconst 1, .iaload, .bipush 8, .if_icmp .ne 8, .ldc 111, .goto 4, .iconst 0, .ireturn]
-- 123 CoatedBridgesModel.errorBridge(III)I
def pg123 : List AEnt := [(0, .aload 0, 1, 99), (1, .iload 1, 2, 99), (2, .invokevirtual 95, 5, 99), (5, .ifCond .eq 35, 8, 99), (8, .aload 0, 9, 99), (9, .iload 2, 10, 99), (10, .invokevirtual 95, 13, 99), (13, .ifCond .eq 35, 16, 99), (16, .iload 1, 17, 99), (17, .iload 2, 18, 99), (18, .if_icmp .eq 35, 21, 99), (21, .iload 3, 22, 99), (22, .iconst (1), 23, 99), (23, .iconst (9), 25, 99), (25, .invokestatic 92, 28, 99), (28, .ifCond .eq 35, 31, 99), (31, .iconst (1), 32, 99), (32, .goto 36, 35, 99), (35, .iconst (0), 36, 99), (36, .istore 4, 38, 99), (38, .iload 4, 40, 99), (40, .ifCond .ne 48, 43, 99), (43, .iconst (-1000001), 45, 99), (45, .goto 65, 48, 99), (48, .aload 0, 49, 99), (49, .getfield 600, 52, 99), (52, .iconst (2), 53, 99), (53, .iaload, 54, 99), (54, .iconst (14), 56, 99), (56, .if_icmp .ne 64, 59, 99), (59, .iconst (-1000003), 61, 99), (61, .goto 65, 64, 99), (64, .iconst (0), 65, 99), (65, .ireturn, 66, 99)]
def ac123 : List Instr := [.aload_n 0, .iload_n 1, .invokevirtual 112, .ifCond .eq 30, .aload_n 0, .iload_n 2, .invokevirtual 112, .ifCond .eq 22, .iload_n 1, .iload_n 2, .if_icmp .eq 17, .iload_n 3, .iconst 1, .bipush 9, .invokestatic 40, .ifCond .eq 7, .iconst 1, .goto 4, .iconst 0, .istore 4, .iload 4, .ifCond .ne 8, .ldc 110, .goto 20, .aload_n 0, .getfield 7, .iconst 2, .iaload, .bipush 14, .if_icmp .ne 8, .ldc 111, .goto 4, .iconst 0, .ireturn]
-- 124 CoatedBridgesModel.errorSend(II)I
def pg124 : List AEnt := [(0, .aload 0, 1, 99), (1, .iload 1, 2, 99), (2, .invokevirtual 96, 5, 99), (5, .ifCond .eq 17, 8, 99), (8, .iload 2, 9, 99), (9, .iconst (0), 10, 99), (10, .iconst (1), 11, 99), (11, .invokestatic 92, 14, 99), (14, .ifCond .ne 20, 17, 99), (17, .iconst (-1000001), 19, 99), (19, .ireturn, 20, 99), (20, .aload 0, 21, 99), (21, .iload 1, 22, 99), (22, .invokevirtual 109, 25, 99), (25, .istore 3, 26, 99), (26, .iload 3, 27, 99), (27, .ifCond .eq 40, 30, 99), (30, .iload 3, 31, 99), (31, .iconst (4), 32, 99), (32, .if_icmp .ne 44, 35, 99), (35, .iload 2, 36, 99), (36, .iconst (1), 37, 99), (37, .if_icmp .ne 44, 40, 99), (40, .iconst (0), 41, 99), (41, .goto 46, 44, 99), (44, .iconst (-1000002), 46, 99), (46, .ireturn, 47, 99)]
def ac124 : List Instr := [.aload_n 0, .iload_n 1, .invokevirtual 115, .ifCond .eq 12, .iload_n 2, .iconst 0, .iconst 1, .invokestatic 40, .ifCond .ne 6, .ldc 110, .ireturn, .aload_n 0, .iload_n 1, .invokevirtual 67, .istore_n 3, .iload_n 3, .ifCond .eq 13, .iload_n 3, .iconst 4, .if_icmp .ne 12, .iload_n 2, .iconst 1, .if_icmp .ne 7, .iconst 0, .goto 5, .ldc 118, .ireturn]
-- 125 CoatedBridgesModel.errorRecall(I)I
def pg125 : List AEnt := [(0, .aload 0, 1, 99), (1, .iload 1, 2, 99), (2, .invokevirtual 96, 5, 99), (5, .ifCond .ne 13, 8, 99), (8, .iconst (-1000001), 10, 99), (10, .goto 27, 13, 99), (13, .aload 0, 14, 99), (14, .iload 1, 15, 99), (15, .invokevirtual 103, 18, 99), (18, .ifCond .eq 25, 21, 99), (21, .iconst (0), 22, 99), (22, .goto 27, 25, 99), (25, .iconst (-1000002), 27, 99), (27, .ireturn, 28, 99)]
def ac125 : List Instr := [.aload_n 0, .iload_n 1, .invokevirtual 115, .ifCond .ne 8, .ldc 110, .goto 17, .aload_n 0, .iload_n 1, .invokevirtual 48, .ifCond .eq 7, .iconst 0, .goto 5, .ldc 118, .ireturn]
-- 126 CoatedBridgesModel.errorPay(I)I
def pg126 : List AEnt := [(0, .iload 1, 1, 99), (1, .iconst (1), 2, 99), (2, .iconst (999), 5, 99), (5, .invokestatic 92, 8, 99), (8, .ifCond .ne 16, 11, 99), (11, .iconst (-1000001), 13, 99), (13, .goto 36, 16, 99), (16, .aload 0, 17, 99), (17, .getfield 600, 20, 99), (20, .iconst (11), 22, 99), (22, .iaload, 23, 99), (23, .iload 1, 24, 99), (24, .iadd, 25, 99), (25, .iconst (999999), 27, 99), (27, .if_icmp .le 35, 30, 99), (30, .iconst (-1000003), 32, 99), (32, .goto 36, 35, 99), (35, .iconst (0), 36, 99), (36, .ireturn, 37, 99)]
def ac126 : List Instr := [.iload_n 1, .iconst 1, .sipush 999, .invokestatic 40, .ifCond .ne 8, .ldc 110, .goto 23, .aload_n 0, .getfield 7, .bipush 11, .iaload, .iload_n 1, .iadd, .ldc 119, .if_icmp .le 8, .ldc 111, .goto 4, .iconst 0, .ireturn]
-- 127 CoatedBridgesModel.errorDays(I)I
def pg127 : List AEnt := [(0, .iload 1, 1, 99), (1, .iconst (1), 2, 99), (2, .iconst (99), 4, 99), (4, .invokestatic 92, 7, 99), (7, .ifCond .ne 15, 10, 99), (10, .iconst (-1000001), 12, 99), (12, .goto 35, 15, 99), (15, .aload 0, 16, 99), (16, .getfield 600, 19, 99), (19, .iconst (0), 20, 99), (20, .iaload, 21, 99), (21, .iload 1, 22, 99), (22, .iadd, 23, 99), (23, .iconst (9999), 26, 99), (26, .if_icmp .le 34, 29, 99), (29, .iconst (-1000003), 31, 99), (31, .goto 35, 34, 99), (34, .iconst (0), 35, 99), (35, .ireturn, 36, 99)]
def ac127 : List Instr := [.iload_n 1, .iconst 1, .bipush 99, .invokestatic 40, .ifCond .ne 8, .ldc 110, .goto 23, .aload_n 0, .getfield 7, .iconst 0, .iaload, .iload_n 1, .iadd, .sipush 9999, .if_icmp .le 8, .ldc 111, .goto 4, .iconst 0, .ireturn]
-- 128 CoatedBridgesModel.island(I)I
def pg128 : List AEnt := [(0, .aload 0, 1, 99), (1, .iload 1, 2, 99), (2, .invokevirtual 122, 5, 99), (5, .istore 2, 6, 99), (6, .iload 2, 7, 99), (7, .ifCond .ge 12, 10, 99), (10, .iload 2, 11, 99), (11, .ireturn, 12, 99), (12, .aload 0, 13, 99), (13, .invokevirtual 94, 16, 99), (16, .aload 0, 17, 99), (17, .iload 1, 18, 99), (18, .invokevirtual 111, 21, 99), (21, .ireturn, 22, 99)]
def ac128 : List Instr := [.aload_n 0, .iload_n 1, .invokevirtual 120, .istore_n 2, .iload_n 2, .ifCond .ge 5, .iload_n 2, .ireturn, .aload_n 0, .invokevirtual 123, .aload_n 0, .iload_n 1, .invokevirtual 126, .ireturn]
-- 129 CoatedBridgesModel.bridge(III)I
def pg129 : List AEnt := [(0, .aload 0, 1, 99), (1, .iload 1, 2, 99), (2, .iload 2, 3, 99), (3, .iload 3, 4, 99), (4, .invokevirtual 123, 7, 99), (7, .istore 4, 9, 99), (9, .iload 4, 11, 99), (11, .ifCond .ge 17, 14, 99), (14, .iload 4, 16, 99), (16, .ireturn, 17, 99), (17, .aload 0, 18, 99), (18, .invokevirtual 94, 21, 99), (21, .aload 0, 22, 99), (22, .iload 1, 23, 99), (23, .iload 2, 24, 99), (24, .iload 3, 25, 99), (25, .invokevirtual 112, 28, 99), (28, .ireturn, 29, 99)]
def ac129 : List Instr := [.aload_n 0, .iload_n 1, .iload_n 2, .iload_n 3, .invokevirtual 129, .istore 4, .iload 4, .ifCond .ge 6, .iload 4, .ireturn, .aload_n 0, .invokevirtual 123, .aload_n 0, .iload_n 1, .iload_n 2, .iload_n 3, .invokevirtual 133, .ireturn]
-- 130 CoatedBridgesModel.send(II)I
def pg130 : List AEnt := [(0, .aload 0, 1, 99), (1, .iload 1, 2, 99), (2, .iload 2, 3, 99), (3, .invokevirtual 124, 6, 99), (6, .istore 3, 7, 99), (7, .iload 3, 8, 99), (8, .ifCond .ge 13, 11, 99), (11, .iload 3, 12, 99), (12, .ireturn, 13, 99), (13, .aload 0, 14, 99), (14, .invokevirtual 94, 17, 99), (17, .aload 0, 18, 99), (18, .iload 1, 19, 99), (19, .invokevirtual 113, 22, 99), (22, .ireturn, 23, 99)]
def ac130 : List Instr := [.aload_n 0, .iload_n 1, .iload_n 2, .invokevirtual 136, .istore_n 3, .iload_n 3, .ifCond .ge 5, .iload_n 3, .ireturn, .aload_n 0, .invokevirtual 123, .aload_n 0, .iload_n 1, .invokevirtual 104, .ireturn]
-- 131 CoatedBridgesModel.recall(I)I
def pg131 : List AEnt := [(0, .aload 0, 1, 99), (1, .iload 1, 2, 99), (2, .invokevirtual 125, 5, 99), (5, .istore 2, 6, 99), (6, .iload 2, 7, 99), (7, .ifCond .ge 12, 10, 99), (10, .iload 2, 11, 99), (11, .ireturn, 12, 99), (12, .aload 0, 13, 99), (13, .invokevirtual 94, 16, 99), (16, .aload 0, 17, 99), (17, .iload 1, 18, 99), (18, .invokevirtual 114, 21, 99), (21, .ireturn, 22, 99)]
def ac131 : List Instr := [.aload_n 0, .iload_n 1, .invokevirtual 139, .istore_n 2, .iload_n 2, .ifCond .ge 5, .iload_n 2, .ireturn, .aload_n 0, .invokevirtual 123, .aload_n 0, .iload_n 1, .invokevirtual 142, .ireturn]
-- 132 CoatedBridgesModel.pay(I)I
def pg132 : List AEnt := [(0, .aload 0, 1, 99), (1, .iload 1, 2, 99), (2, .invokevirtual 126, 5, 99), (5, .istore 2, 6, 99), (6, .iload 2, 7, 99), (7, .ifCond .ge 12, 10, 99), (10, .iload 2, 11, 99), (11, .ireturn, 12, 99), (12, .aload 0, 13, 99), (13, .invokevirtual 94, 16, 99), (16, .aload 0, 17, 99), (17, .iload 1, 18, 99), (18, .invokevirtual 115, 21, 99), (21, .ireturn, 22, 99)]
def ac132 : List Instr := [.aload_n 0, .iload_n 1, .invokevirtual 145, .istore_n 2, .iload_n 2, .ifCond .ge 5, .iload_n 2, .ireturn, .aload_n 0, .invokevirtual 123, .aload_n 0, .iload_n 1, .invokevirtual 148, .ireturn]
-- 133 CoatedBridgesModel.days(I)I
def pg133 : List AEnt := [(0, .aload 0, 1, 99), (1, .iload 1, 2, 99), (2, .invokevirtual 127, 5, 99), (5, .istore 2, 6, 99), (6, .iload 2, 7, 99), (7, .ifCond .ge 12, 10, 99), (10, .iload 2, 11, 99), (11, .ireturn, 12, 99), (12, .aload 0, 13, 99), (13, .invokevirtual 94, 16, 99), (16, .aload 0, 17, 99), (17, .iload 1, 18, 99), (18, .invokevirtual 121, 21, 99), (21, .ireturn, 22, 99)]
def ac133 : List Instr := [.aload_n 0, .iload_n 1, .invokevirtual 151, .istore_n 2, .iload_n 2, .ifCond .ge 5, .iload_n 2, .ireturn, .aload_n 0, .invokevirtual 123, .aload_n 0, .iload_n 1, .invokevirtual 154, .ireturn]
-- 134 CoatedBridgesModel.mostOf(I)I
def pg134 : List AEnt := [(0, .iload 0, 1, 99), (1, .tableswitch 54 (0) (6) #[44, 46, 54, 49, 51, 54, 49], 44, 99), (44, .iconst (4), 45, 99), (45, .ireturn, 46, 99), (46, .iconst (100), 48, 99), (48, .ireturn, 49, 99), (49, .iconst (1), 50, 99), (50, .ireturn, 51, 99), (51, .iconst (30), 53, 99), (53, .ireturn, 54, 99), (54, .iconst (99), 56, 99), (56, .ireturn, 57, 99)]
def ac134 : List Instr := [.iload_n 0, .tableswitch 53 0 6 #[43, 45, 53, 48, 50, 53, 48], .iconst 4, .ireturn, .bipush 100, .ireturn, .iconst 1, .ireturn, .bipush 30, .ireturn, .bipush 99, .ireturn]
-- 135 CoatedBridgesModel.set(II)I
def pg135 : List AEnt := [(0, .iload 1, 1, 99), (1, .iconst (0), 2, 99), (2, .iconst (7), 4, 99), (4, .invokestatic 92, 7, 99), (7, .ifCond .eq 31, 10, 99), (10, .iload 2, 11, 99), (11, .iload 1, 12, 99), (12, .iconst (1), 13, 99), (13, .if_icmp .ne 20, 16, 99), (16, .iconst (1), 17, 99), (17, .goto 21, 20, 99), (20, .iconst (0), 21, 99), (21, .iload 1, 22, 99), (22, .invokestatic 134, 25, 99), (25, .invokestatic 92, 28, 99), (28, .ifCond .ne 34, 31, 99), (31, .iconst (-1000001), 33, 99), (33, .ireturn, 34, 99), (34, .aload 0, 35, 99), (35, .invokevirtual 94, 38, 99), (38, .aload 0, 39, 99), (39, .getfield 600, 42, 99), (42, .iconst (3), 43, 99), (43, .iload 1, 44, 99), (44, .iadd, 45, 99), (45, .iaload, 46, 99), (46, .istore 3, 47, 99), (47, .aload 0, 48, 99), (48, .getfield 600, 51, 99), (51, .iconst (3), 52, 99), (52, .iload 1, 53, 99), (53, .iadd, 54, 99), (54, .iload 2, 55, 99), (55, .iastore, 56, 99), (56, .iload 3, 57, 99), (57, .ireturn, 58, 99)]
def ac135 : List Instr := [.iload_n 1, .iconst 0, .bipush 7, .invokestatic 40, .ifCond .eq 24, .iload_n 2, .iload_n 1, .iconst 1, .if_icmp .ne 7, .iconst 1, .goto 4, .iconst 0, .iload_n 1, .invokestatic 157, .invokestatic 40, .ifCond .ne 6, .ldc 110, .ireturn, .aload_n 0, .invokevirtual 123, .aload_n 0, .getfield 7, .iconst 3, .iload_n 1, .iadd, .iaload, .istore_n 3, .aload_n 0, .getfield 7, .iconst 3, .iload_n 1, .iadd, .iload_n 2, .iastore, .iload_n 3, .ireturn]
-- 136 CoatedBridgesModel.undo()I
def pg136 : List AEnt := [(0, .aload 0, 1, 99), (1, .getfield 604, 4, 99), (4, .ifCond .ne 10, 7, 99), (7, .iconst (-1000002), 9, 99), (9, .ireturn, 10, 99), (10, .aload 0, 11, 99), (11, .dup, 12, 99), (12, .getfield 604, 15, 99), (15, .iconst (1), 16, 99), (16, .isub, 17, 99), (17, .putfield 604, 20, 99), (20, .aload 0, 21, 99), (21, .getfield 603, 24, 99), (24, .iconst (184), 27, 99), (27, .aload 0, 28, 99), (28, .getfield 604, 31, 99), (31, .imul, 32, 99), (32, .aload 0, 33, 99), (33, .getfield 600, 36, 99), (36, .iconst (0), 37, 99), (37, .invokestatic 93, 40, 99), (40, .aload 0, 41, 99), (41, .getfield 604, 44, 99), (44, .ireturn, 45, 99)]
def ac136 : List Instr := [.aload_n 0, .getfield 32, .ifCond .ne 6, .ldc 118, .ireturn, .aload_n 0, .dup, .getfield 32, .iconst 1, .isub, .putfield 32, .aload_n 0, .getfield 19, .sipush 184, .aload_n 0, .getfield 32, .imul, .aload_n 0, .getfield 7, .iconst 0, .invokestatic 36, .aload_n 0, .getfield 32, .ireturn]
-- 137 CoatedBridgesModel.bridgeOf(II)I
def pg137 : List AEnt := [(0, .aload 0, 1, 99), (1, .iload 1, 2, 99), (2, .invokevirtual 96, 5, 99), (5, .ifCond .ne 11, 8, 99), (8, .iconst (-1000001), 10, 99), (10, .ireturn, 11, 99), (11, .iload 2, 12, 99), (12, .tableswitch 106 (0) (8) #[64, 64, 64, 64, 71, 77, 77, 77, 84], 64, 99), (64, .aload 0, 65, 99), (65, .iload 1, 66, 99), (66, .iload 2, 67, 99), (67, .invokevirtual 97, 70, 99), (70, .ireturn, 71, 99), (71, .aload 0, 72, 99), (72, .iload 1, 73, 99), (73, .invokevirtual 105, 76, 99), (76, .ireturn, 77, 99), (77, .aload 0, 78, 99), (78, .iload 1, 79, 99), (79, .iload 2, 80, 99), (80, .invokevirtual 97, 83, 99), (83, .ireturn, 84, 99), (84, .aload 0, 85, 99), (85, .iload 1, 86, 99), (86, .invokevirtual 104, 89, 99), (89, .ifCond .eq 104, 92, 99), (92, .aload 0, 93, 99), (93, .iload 1, 94, 99), (94, .invokevirtual 107, 97, 99), (97, .ifCond .eq 104, 100, 99), (100, .iconst (1), 101, 99), (101, .goto 105, 104, 99), (104, .iconst (0), 105, 99), (105, .ireturn, 106, 99), (106, .iconst (-1000001), 108, 99), (108, .ireturn, 109, 99)]
def ac137 : List Instr := [.aload_n 0, .iload_n 1, .invokevirtual 115, .ifCond .ne 6, .ldc 110, .ireturn, .iload_n 2, .tableswitch 94 0 8 #[52, 52, 52, 52, 59, 65, 65, 65, 72], .aload_n 0, .iload_n 1, .iload_n 2, .invokevirtual 44, .ireturn, .aload_n 0, .iload_n 1, .invokevirtual 160, .ireturn, .aload_n 0, .iload_n 1, .iload_n 2, .invokevirtual 44, .ireturn, .aload_n 0, .iload_n 1, .invokevirtual 52, .ifCond .eq 15, .aload_n 0, .iload_n 1, .invokevirtual 63, .ifCond .eq 7, .iconst 1, .goto 4, .iconst 0, .ireturn, .ldc 110, .ireturn]
-- 138 CoatedBridgesModel.openAt(I)I
def pg138 : List AEnt := [(0, .iconst (0), 1, 99), (1, .istore 2, 2, 99), (2, .iconst (0), 3, 99), (3, .istore 3, 4, 99), (4, .iload 3, 5, 4), (5, .aload 0, 6, 99), (6, .getfield 600, 9, 99), (9, .iconst (2), 10, 99), (10, .iaload, 11, 99), (11, .if_icmp .ge 56, 14, 99), (14, .iload 2, 15, 99), (15, .aload 0, 16, 99), (16, .iload 3, 17, 99), (17, .invokevirtual 104, 20, 99), (20, .ifCond .eq 47, 23, 99), (23, .aload 0, 24, 99), (24, .iload 3, 25, 99), (25, .iconst (0), 26, 99), (26, .invokevirtual 97, 29, 99), (29, .iload 1, 30, 99), (30, .if_icmp .eq 43, 33, 99), (33, .aload 0, 34, 99), (34, .iload 3, 35, 99), (35, .iconst (1), 36, 99), (36, .invokevirtual 97, 39, 99), (39, .iload 1, 40, 99), (40, .if_icmp .ne 47, 43, 99), (43, .iconst (1), 44, 99), (44, .goto 48, 47, 99), (47, .iconst (0), 48, 99), (48, .iadd, 49, 99), (49, .istore 2, 50, 99), (50, .iinc 3 (1), 53, 99), (53, .goto 4, 56, 99), (56, .iload 2, 57, 99), (57, .ireturn, 58, 99)]
def ac138 : List Instr := [.iconst 0, .istore_n 2, .iconst 0, .istore_n 3, .iload_n 3, .aload_n 0, .getfield 7, .iconst 2, .iaload, .if_icmp .ge 45, .iload_n 2, .aload_n 0, .iload_n 3, .invokevirtual 52, .ifCond .eq 27, .aload_n 0, .iload_n 3, .iconst 0, .invokevirtual 44, .iload_n 1, .if_icmp .eq 13, .aload_n 0, .iload_n 3, .iconst 1, .invokevirtual 44, .iload_n 1, .if_icmp .ne 7, .iconst 1, .goto 4, .iconst 0, .iadd, .istore_n 2, .iinc 3 1, .goto (-49), .iload_n 2, .ireturn]
-- 139 CoatedBridgesModel.fewestTo(I)I
def pg139_0 : List AEnt := [(0, .iconst (1), 1, 99), (1, .istore 2, 2, 99), (2, .iconst (0), 3, 99), (3, .istore 3, 4, 99), (4, .iload 2, 5, 4), (5, .iload 1, 6, 99), (6, .ishr, 7, 99), (7, .iconst (1), 8, 99), (8, .iand, 9, 99), (9, .ifCond .ne 98, 12, 99), (12, .iload 3, 13, 99), (13, .iconst (8), 15, 99), (15, .if_icmp .ge 98, 18, 99), (18, .iload 2, 19, 99), (19, .istore 4, 21, 99), (21, .iconst (0), 22, 99), (22, .istore 5, 24, 99), (24, .iload 5, 26, 6), (26, .aload 0, 27, 99), (27, .getfield 600, 30, 99), (30, .iconst (2), 31, 99), (31, .iaload, 32, 99), (32, .if_icmp .ge 89, 35, 99), (35, .iconst (1), 36, 99), (36, .aload 0, 37, 99), (37, .iload 5, 39, 99), (39, .iconst (0), 40, 99), (40, .invokevirtual 97, 43, 99), (43, .ishl, 44, 99), (44, .iconst (1), 45, 99), (45, .aload 0, 46, 99), (46, .iload 5, 48, 99), (48, .iconst (1), 49, 99), (49, .invokevirtual 97, 52, 99), (52, .ishl, 53, 99), (53, .ior, 54, 99), (54, .istore 6, 56, 99), (56, .iload 4, 58, 99), (58, .aload 0, 59, 99), (59, .iload 5, 61, 99)]
def pg139_1 : List AEnt := [(61, .invokevirtual 104, 64, 99), (64, .ifCond .eq 79, 67, 99), (67, .iload 2, 68, 99), (68, .iload 6, 70, 99), (70, .iand, 71, 99), (71, .ifCond .eq 79, 74, 99), (74, .iload 6, 76, 99), (76, .goto 80, 79, 99), (79, .iconst (0), 80, 99), (80, .ior, 81, 99), (81, .istore 4, 83, 99), (83, .iinc 5 (1), 86, 99), (86, .goto 24, 89, 99), (89, .iload 4, 91, 99), (91, .istore 2, 92, 99), (92, .iinc 3 (1), 95, 99), (95, .goto 4, 98, 99), (98, .iload 2, 99, 99), (99, .iload 1, 100, 99), (100, .ishr, 101, 99), (101, .iconst (1), 102, 99), (102, .iand, 103, 99), (103, .iconst (1), 104, 99), (104, .if_icmp .ne 111, 107, 99), (107, .iload 3, 108, 99), (108, .goto 113, 111, 99), (111, .iconst (-1000004), 113, 99), (113, .ireturn, 114, 99)]
def pg139 : List AEnt := pg139_0 ++ (pg139_1)
def ac139_0 : List Instr := [.iconst 1, .istore_n 2, .iconst 0, .istore_n 3, .iload_n 2, .iload_n 1, .ishr, .iconst 1, .iand, .ifCond .ne 89, .iload_n 3, .bipush 8, .if_icmp .ge 83, .iload_n 2, .istore 4, .iconst 0, .istore 5, .iload 5, .aload_n 0, .getfield 7, .iconst 2, .iaload, .if_icmp .ge 57, .iconst 1, .aload_n 0, .iload 5, .iconst 0, .invokevirtual 44, .ishl, .iconst 1, .aload_n 0, .iload 5, .iconst 1, .invokevirtual 44, .ishl, .ior, .istore 6, .iload 4, .aload_n 0, .iload 5]
def ac139_1 : List Instr := [.invokevirtual 52, .ifCond .eq 15, .iload_n 2, .iload 6, .iand, .ifCond .eq 8, .iload 6, .goto 4, .iconst 0, .ior, .istore 4, .iinc 5 1, .goto (-62), .iload 4, .istore_n 2, .iinc 3 1, .goto (-91), .iload_n 2, .iload_n 1, .ishr, .iconst 1, .iand, .iconst 1, .if_icmp .ne 7, .iload_n 3, .goto 5, .ldc 55, .ireturn]
def ac139 : List Instr := ac139_0 ++ (ac139_1)
-- 140 CoatedBridgesModel.islandOf(II)I
def pg140_0 : List AEnt := [(0, .aload 0, 1, 99), (1, .iload 1, 2, 99), (2, .invokevirtual 95, 5, 99), (5, .ifCond .ne 11, 8, 99), (8, .iconst (-1000001), 10, 99), (10, .ireturn, 11, 99), (11, .iload 2, 12, 99), (12, .tableswitch 119 (0) (7) #[60, 72, 79, 86, 93, 100, 107, 113], 60, 99), (60, .aload 0, 61, 99), (61, .iconst (0), 62, 99), (62, .iconst (-1000004), 64, 99), (64, .invokevirtual 106, 67, 99), (67, .iload 1, 68, 99), (68, .ishr, 69, 99), (69, .iconst (1), 70, 99), (70, .iand, 71, 99), (71, .ireturn, 72, 99), (72, .aload 0, 73, 99), (73, .iload 1, 74, 99), (74, .iconst (1), 75, 99), (75, .invokevirtual 100, 78, 99), (78, .ireturn, 79, 99), (79, .aload 0, 80, 99), (80, .iload 1, 81, 99), (81, .iconst (0), 82, 99), (82, .invokevirtual 100, 85, 99), (85, .ireturn, 86, 99), (86, .aload 0, 87, 99), (87, .iload 1, 88, 99), (88, .iconst (2), 89, 99), (89, .invokevirtual 100, 92, 99), (92, .ireturn, 93, 99), (93, .aload 0, 94, 99), (94, .iload 1, 95, 99), (95, .iconst (3), 96, 99), (96, .invokevirtual 100, 99, 99), (99, .ireturn, 100, 99), (100, .aload 0, 101, 99), (101, .iload 1, 102, 99), (102, .iconst (4), 103, 99)]
def pg140_1 : List AEnt := [(103, .invokevirtual 100, 106, 99), (106, .ireturn, 107, 99), (107, .aload 0, 108, 99), (108, .iload 1, 109, 99), (109, .invokevirtual 138, 112, 99), (112, .ireturn, 113, 99), (113, .aload 0, 114, 99), (114, .iload 1, 115, 99), (115, .invokevirtual 139, 118, 99), (118, .ireturn, 119, 99), (119, .iconst (-1000001), 121, 99), (121, .ireturn, 122, 99)]
def pg140 : List AEnt := pg140_0 ++ (pg140_1)
def ac140_0 : List Instr := [.aload_n 0, .iload_n 1, .invokevirtual 112, .ifCond .ne 6, .ldc 110, .ireturn, .iload_n 2, .tableswitch 107 0 7 #[48, 60, 67, 74, 81, 88, 95, 101], .aload_n 0, .iconst 0, .ldc 55, .invokevirtual 56, .iload_n 1, .ishr, .iconst 1, .iand, .ireturn, .aload_n 0, .iload_n 1, .iconst 1, .invokevirtual 80, .ireturn, .aload_n 0, .iload_n 1, .iconst 0, .invokevirtual 80, .ireturn, .aload_n 0, .iload_n 1, .iconst 2, .invokevirtual 80, .ireturn, .aload_n 0, .iload_n 1, .iconst 3, .invokevirtual 80, .ireturn, .aload_n 0, .iload_n 1, .iconst 4]
def ac140_1 : List Instr := [.invokevirtual 80, .ireturn, .aload_n 0, .iload_n 1, .invokevirtual 163, .ireturn, .aload_n 0, .iload_n 1, .invokevirtual 166, .ireturn, .ldc 110, .ireturn]
def ac140 : List Instr := ac140_0 ++ (ac140_1)
-- 141 CoatedBridgesModel.reach(I)I
def pg141 : List AEnt := [(0, .aload 0, 1, 99), (1, .iload 1, 2, 99), (2, .invokevirtual 95, 5, 99), (5, .ifCond .eq 18, 8, 99), (8, .aload 0, 9, 99), (9, .iload 1, 10, 99), (10, .iconst (-1000004), 12, 99), (12, .invokevirtual 106, 15, 99), (15, .goto 20, 18, 99), (18, .iconst (-1000001), 20, 99), (20, .ireturn, 21, 99)]
def ac141 : List Instr := [.aload_n 0, .iload_n 1, .invokevirtual 112, .ifCond .eq 13, .aload_n 0, .iload_n 1, .ldc 55, .invokevirtual 56, .goto 5, .ldc 110, .ireturn]
-- 142 CoatedBridgesModel.book(II)I
def pg142 : List AEnt := [(0, .iload 1, 1, 99), (1, .ifCond .lt 13, 4, 99), (4, .iload 2, 5, 99), (5, .iconst (0), 6, 99), (6, .iconst (1), 7, 99), (7, .invokestatic 92, 10, 99), (10, .ifCond .ne 16, 13, 99), (13, .iconst (-1000001), 15, 99), (15, .ireturn, 16, 99), (16, .iload 1, 17, 99), (17, .aload 0, 18, 99), (18, .getfield 600, 21, 99), (21, .iconst (15), 23, 99), (23, .iaload, 24, 99), (24, .if_icmp .ge 43, 27, 99), (27, .aload 0, 28, 99), (28, .getfield 600, 31, 99), (31, .iconst (16), 33, 99), (33, .iconst (2), 34, 99), (34, .iload 1, 35, 99), (35, .imul, 36, 99), (36, .iadd, 37, 99), (37, .iload 2, 38, 99), (38, .iadd, 39, 99), (39, .iaload, 40, 99), (40, .goto 45, 43, 99), (43, .iconst (-1000004), 45, 99), (45, .ireturn, 46, 99)]
def ac142 : List Instr := [.iload_n 1, .ifCond .lt 12, .iload_n 2, .iconst 0, .iconst 1, .invokestatic 40, .ifCond .ne 6, .ldc 110, .ireturn, .iload_n 1, .aload_n 0, .getfield 7, .bipush 15, .iaload, .if_icmp .ge 19, .aload_n 0, .getfield 7, .bipush 16, .iconst 2, .iload_n 1, .imul, .iadd, .iload_n 2, .iadd, .iaload, .goto 5, .ldc 55, .ireturn]
-- 143 CoatedBridgesModel.lowest(I)I
def pg143 : List AEnt := [(0, .iconst (0), 1, 99), (1, .istore 2, 2, 99), (2, .iload 1, 3, 3), (3, .iload 2, 4, 99), (4, .ishr, 5, 99), (5, .iconst (1), 6, 99), (6, .iand, 7, 99), (7, .ifCond .ne 16, 10, 99), (10, .iinc 2 (1), 13, 99), (13, .goto 2, 16, 99), (16, .iload 2, 17, 99), (17, .ireturn, 18, 99)]
def ac143 : List Instr := [.iconst 0, .istore_n 2, .iload_n 1, .iload_n 2, .ishr, .iconst 1, .iand, .ifCond .ne 9, .iinc 2 1, .goto (-11), .iload_n 2, .ireturn]
-- 144 CoatedBridgesModel.why(II)I
def pg144 : List AEnt := [(0, .aload 0, 1, 99), (1, .iload 1, 2, 99), (2, .invokevirtual 96, 5, 99), (5, .ifCond .eq 17, 8, 99), (8, .iload 2, 9, 99), (9, .iconst (0), 10, 99), (10, .iconst (1), 11, 99), (11, .invokestatic 92, 14, 99), (14, .ifCond .ne 20, 17, 99), (17, .iconst (-1000001), 19, 99), (19, .ireturn, 20, 99), (20, .aload 0, 21, 99), (21, .iload 1, 22, 99), (22, .invokevirtual 109, 25, 99), (25, .istore 3, 26, 99), (26, .iload 2, 27, 99), (27, .ifCond .ne 34, 30, 99), (30, .iload 3, 31, 99), (31, .goto 53, 34, 99), (34, .iload 3, 35, 99), (35, .iconst (4), 36, 99), (36, .if_icmp .ne 51, 39, 99), (39, .aload 0, 40, 99), (40, .aload 0, 41, 99), (41, .iload 1, 42, 99), (42, .invokevirtual 107, 45, 99), (45, .invokevirtual 143, 48, 99), (48, .goto 53, 51, 99), (51, .iconst (-1000004), 53, 99), (53, .ireturn, 54, 99)]
def ac144 : List Instr := [.aload_n 0, .iload_n 1, .invokevirtual 115, .ifCond .eq 12, .iload_n 2, .iconst 0, .iconst 1, .invokestatic 40, .ifCond .ne 6, .ldc 110, .ireturn, .aload_n 0, .iload_n 1, .invokevirtual 67, .istore_n 3, .iload_n 2, .ifCond .ne 7, .iload_n 3, .goto 22, .iload_n 3, .iconst 4, .if_icmp .ne 15, .aload_n 0, .aload_n 0, .iload_n 1, .invokevirtual 63, .invokevirtual 169, .goto 5, .ldc 55, .ireturn]
-- 145 CoatedBridgesModel.best()I
def pg145 : List AEnt := [(0, .aload 0, 1, 99), (1, .invokevirtual 110, 4, 99), (4, .ireturn, 5, 99)]
def ac145 : List Instr := [.aload_n 0, .invokevirtual 101, .ireturn]
-- 146 CoatedBridgesModel.rustsIn(I)I
def pg146 : List AEnt := [(0, .aload 0, 1, 99), (1, .iload 1, 2, 99), (2, .invokevirtual 96, 5, 99), (5, .ifCond .ne 11, 8, 99), (8, .iconst (-1000001), 10, 99), (10, .ireturn, 11, 99), (11, .aload 0, 12, 99), (12, .iload 1, 13, 99), (13, .invokevirtual 103, 16, 99), (16, .ifCond .eq 24, 19, 99), (19, .iconst (-1000002), 21, 99), (21, .goto 46, 24, 99), (24, .aload 0, 25, 99), (25, .iload 1, 26, 99), (26, .iconst (3), 27, 99), (27, .invokevirtual 97, 30, 99), (30, .aload 0, 31, 99), (31, .iload 1, 32, 99), (32, .iconst (2), 33, 99), (33, .invokevirtual 97, 36, 99), (36, .iadd, 37, 99), (37, .iconst (1), 38, 99), (38, .isub, 39, 99), (39, .aload 0, 40, 99), (40, .iload 1, 41, 99), (41, .iconst (2), 42, 99), (42, .invokevirtual 97, 45, 99), (45, .idiv, 46, 99), (46, .ireturn, 47, 99)]
def ac146 : List Instr := [.aload_n 0, .iload_n 1, .invokevirtual 115, .ifCond .ne 6, .ldc 110, .ireturn, .aload_n 0, .iload_n 1, .invokevirtual 48, .ifCond .eq 8, .ldc 118, .goto 25, .aload_n 0, .iload_n 1, .iconst 3, .invokevirtual 44, .aload_n 0, .iload_n 1, .iconst 2, .invokevirtual 44, .iadd, .iconst 1, .isub, .aload_n 0, .iload_n 1, .iconst 2, .invokevirtual 44, .idiv, .ireturn]
-- 147 CoatedBridgesModel.paintedIn(I)I
def pg147_0 : List AEnt := [(0, .aload 0, 1, 99), (1, .iload 1, 2, 99), (2, .invokevirtual 96, 5, 99), (5, .ifCond .ne 11, 8, 99), (8, .iconst (-1000001), 10, 99), (10, .ireturn, 11, 99), (11, .aload 0, 12, 99), (12, .iload 1, 13, 99), (13, .invokevirtual 103, 16, 99), (16, .ifCond .ne 22, 19, 99), (19, .iconst (-1000002), 21, 99), (21, .ireturn, 22, 99), (22, .aload 0, 23, 99), (23, .getfield 600, 26, 99), (26, .iconst (0), 27, 99), (27, .aload 0, 28, 99), (28, .getfield 601, 31, 99), (31, .iconst (0), 32, 99), (32, .invokestatic 93, 35, 99), (35, .iconst (0), 36, 99), (36, .istore 2, 37, 99), (37, .iload 2, 38, 3), (38, .iconst (200), 41, 99), (41, .if_icmp .gt 63, 44, 99), (44, .aload 0, 45, 99), (45, .iload 1, 46, 99), (46, .invokevirtual 103, 49, 99), (49, .ifCond .eq 63, 52, 99), (52, .aload 0, 53, 99), (53, .invokevirtual 120, 56, 99), (56, .istore 3, 57, 99), (57, .iinc 2 (1), 60, 99), (60, .goto 37, 63, 99), (63, .aload 0, 64, 99), (64, .getfield 601, 67, 99), (67, .iconst (0), 68, 99), (68, .aload 0, 69, 99), (69, .getfield 600, 72, 99), (72, .iconst (0), 73, 99), (73, .invokestatic 93, 76, 99)]
def pg147_1 : List AEnt := [(76, .iload 2, 77, 99), (77, .iconst (200), 80, 99), (80, .if_icmp .le 88, 83, 99), (83, .iconst (-1000004), 85, 99), (85, .goto 89, 88, 99), (88, .iload 2, 89, 99), (89, .ireturn, 90, 99)]
def pg147 : List AEnt := pg147_0 ++ (pg147_1)
def ac147_0 : List Instr := [.aload_n 0, .iload_n 1, .invokevirtual 115, .ifCond .ne 6, .ldc 110, .ireturn, .aload_n 0, .iload_n 1, .invokevirtual 48, .ifCond .ne 6, .ldc 118, .ireturn, .aload_n 0, .getfield 7, .iconst 0, .aload_n 0, .getfield 13, .iconst 0, .invokestatic 36, .iconst 0, .istore_n 2, .iload_n 2, .sipush 200, .if_icmp .gt 22, .aload_n 0, .iload_n 1, .invokevirtual 48, .ifCond .eq 14, .aload_n 0, .invokevirtual 107, .istore_n 3, .iinc 2 1, .goto (-23), .aload_n 0, .getfield 13, .iconst 0, .aload_n 0, .getfield 7, .iconst 0, .invokestatic 36]
def ac147_1 : List Instr := [.iload_n 2, .sipush 200, .if_icmp .le 8, .ldc 55, .goto 4, .iload_n 2, .ireturn]
def ac147 : List Instr := ac147_0 ++ (ac147_1)
-- 148 CoatedBridgesModel.aloneIn()I
def pg148_0 : List AEnt := [(0, .aload 0, 1, 99), (1, .getfield 600, 4, 99), (4, .iconst (0), 5, 99), (5, .aload 0, 6, 99), (6, .getfield 601, 9, 99), (9, .iconst (0), 10, 99), (10, .invokestatic 93, 13, 99), (13, .aload 0, 14, 99), (14, .iconst (0), 15, 99), (15, .iconst (-1000004), 17, 99), (17, .invokevirtual 106, 20, 99), (20, .istore 1, 21, 99), (21, .iconst (0), 22, 99), (22, .istore 2, 23, 99), (23, .iload 2, 24, 3), (24, .iconst (200), 27, 99), (27, .if_icmp .gt 55, 30, 99), (30, .iload 1, 31, 99), (31, .aload 0, 32, 99), (32, .iconst (0), 33, 99), (33, .iconst (-1000004), 35, 99), (35, .invokevirtual 106, 38, 99), (38, .iconst (-1), 39, 99), (39, .ixor, 40, 99), (40, .iand, 41, 99), (41, .ifCond .ne 55, 44, 99), (44, .aload 0, 45, 99), (45, .invokevirtual 120, 48, 99), (48, .istore 3, 49, 99), (49, .iinc 2 (1), 52, 99), (52, .goto 23, 55, 99), (55, .aload 0, 56, 99), (56, .getfield 601, 59, 99), (59, .iconst (0), 60, 99), (60, .aload 0, 61, 99), (61, .getfield 600, 64, 99), (64, .iconst (0), 65, 99), (65, .invokestatic 93, 68, 99), (68, .iload 2, 69, 99), (69, .iconst (200), 72, 99)]
def pg148_1 : List AEnt := [(72, .if_icmp .le 80, 75, 99), (75, .iconst (-1000004), 77, 99), (77, .goto 81, 80, 99), (80, .iload 2, 81, 99), (81, .ireturn, 82, 99)]
def pg148 : List AEnt := pg148_0 ++ (pg148_1)
def ac148_0 : List Instr := [.aload_n 0, .getfield 7, .iconst 0, .aload_n 0, .getfield 13, .iconst 0, .invokestatic 36, .aload_n 0, .iconst 0, .ldc 55, .invokevirtual 56, .istore_n 1, .iconst 0, .istore_n 2, .iload_n 2, .sipush 200, .if_icmp .gt 28, .iload_n 1, .aload_n 0, .iconst 0, .ldc 55, .invokevirtual 56, .iconst (-1), .ixor, .iand, .ifCond .ne 14, .aload_n 0, .invokevirtual 107, .istore_n 3, .iinc 2 1, .goto (-29), .aload_n 0, .getfield 13, .iconst 0, .aload_n 0, .getfield 7, .iconst 0, .invokestatic 36, .iload_n 2, .sipush 200]
def ac148_1 : List Instr := [.if_icmp .le 8, .ldc 55, .goto 4, .iload_n 2, .ireturn]
def ac148 : List Instr := ac148_0 ++ (ac148_1)
-- 149 CoatedBridgesModel.ifDays(I)I
def pg149 : List AEnt := [(0, .iload 1, 1, 99), (1, .iconst (1), 2, 99), (2, .iconst (99), 4, 99), (4, .invokestatic 92, 7, 99), (7, .ifCond .ne 13, 10, 99), (10, .iconst (-1000001), 12, 99), (12, .ireturn, 13, 99), (13, .aload 0, 14, 99), (14, .getfield 600, 17, 99), (17, .iconst (0), 18, 99), (18, .aload 0, 19, 99), (19, .getfield 601, 22, 99), (22, .iconst (0), 23, 99), (23, .invokestatic 93, 26, 99), (26, .aload 0, 27, 99), (27, .iload 1, 28, 99), (28, .invokevirtual 121, 31, 99), (31, .istore 2, 32, 99), (32, .aload 0, 33, 99), (33, .getfield 601, 36, 99), (36, .iconst (0), 37, 99), (37, .aload 0, 38, 99), (38, .getfield 600, 41, 99), (41, .iconst (0), 42, 99), (42, .invokestatic 93, 45, 99), (45, .iload 2, 46, 99), (46, .ireturn, 47, 99)]
def ac149 : List Instr := [.iload_n 1, .iconst 1, .bipush 99, .invokestatic 40, .ifCond .ne 6, .ldc 110, .ireturn, .aload_n 0, .getfield 7, .iconst 0, .aload_n 0, .getfield 13, .iconst 0, .invokestatic 36, .aload_n 0, .iload_n 1, .invokevirtual 154, .istore_n 2, .aload_n 0, .getfield 13, .iconst 0, .aload_n 0, .getfield 7, .iconst 0, .invokestatic 36, .iload_n 2, .ireturn]
-- 150 CoatedBridgesModel.mean()I
def pg150 : List AEnt := [(0, .iconst (0), 1, 99), (1, .istore 1, 2, 99), (2, .iconst (0), 3, 99), (3, .istore 2, 4, 99), (4, .iload 2, 5, 3), (5, .aload 0, 6, 99), (6, .getfield 600, 9, 99), (9, .iconst (2), 10, 99), (10, .iaload, 11, 99), (11, .if_icmp .ge 29, 14, 99), (14, .iload 1, 15, 99), (15, .aload 0, 16, 99), (16, .iload 2, 17, 99), (17, .iconst (3), 18, 99), (18, .invokevirtual 97, 21, 99), (21, .iadd, 22, 99), (22, .istore 1, 23, 99), (23, .iinc 2 (1), 26, 99), (26, .goto 4, 29, 99), (29, .aload 0, 30, 99), (30, .getfield 600, 33, 99), (33, .iconst (2), 34, 99), (34, .iaload, 35, 99), (35, .ifCond .ne 43, 38, 99), (38, .iconst (-1000004), 40, 99), (40, .goto 56, 43, 99), (43, .iload 1, 44, 99), (44, .i2f, 45, 99), (45, .aload 0, 46, 99), (46, .getfield 600, 49, 99), (49, .iconst (2), 50, 99), (50, .iaload, 51, 99), (51, .i2f, 52, 99), (52, .fdiv, 53, 99), (53, .invokestatic 168, 56, 99), (56, .ireturn, 57, 99)]
def ac150 : List Instr := [.iconst 0, .istore_n 1, .iconst 0, .istore_n 2, .iload_n 2, .aload_n 0, .getfield 7, .iconst 2, .iaload, .if_icmp .ge 18, .iload_n 1, .aload_n 0, .iload_n 2, .iconst 3, .invokevirtual 44, .iadd, .istore_n 1, .iinc 2 1, .goto (-22), .aload_n 0, .getfield 7, .iconst 2, .iaload, .ifCond .ne 8, .ldc 55, .goto 16, .iload_n 1, .i2f, .aload_n 0, .getfield 7, .iconst 2, .iaload, .i2f, .fdiv, .invokestatic 172, .ireturn]
-- 151 CoatedBridgesModel.setOf(I)I
def pg151 : List AEnt := [(0, .iconst (0), 1, 99), (1, .istore 2, 2, 99), (2, .iconst (0), 3, 99), (3, .istore 3, 4, 99), (4, .iload 3, 5, 4), (5, .aload 0, 6, 99), (6, .getfield 600, 9, 99), (9, .iconst (2), 10, 99), (10, .iaload, 11, 99), (11, .if_icmp .ge 39, 14, 99), (14, .iload 2, 15, 99), (15, .aload 0, 16, 99), (16, .iload 3, 17, 99), (17, .invokevirtual 105, 20, 99), (20, .iload 1, 21, 99), (21, .if_icmp .ne 30, 24, 99), (24, .iconst (1), 25, 99), (25, .iload 3, 26, 99), (26, .ishl, 27, 99), (27, .goto 31, 30, 99), (30, .iconst (0), 31, 99), (31, .ior, 32, 99), (32, .istore 2, 33, 99), (33, .iinc 3 (1), 36, 99), (36, .goto 4, 39, 99), (39, .iload 2, 40, 99), (40, .ireturn, 41, 99)]
def ac151 : List Instr := [.iconst 0, .istore_n 2, .iconst 0, .istore_n 3, .iload_n 3, .aload_n 0, .getfield 7, .iconst 2, .iaload, .if_icmp .ge 28, .iload_n 2, .aload_n 0, .iload_n 3, .invokevirtual 160, .iload_n 1, .if_icmp .ne 9, .iconst 1, .iload_n 3, .ishl, .goto 4, .iconst 0, .ior, .istore_n 2, .iinc 3 1, .goto (-32), .iload_n 2, .ireturn]
-- 152 CoatedBridgesModel.neededOnes()I
def pg152 : List AEnt := [(0, .iconst (0), 1, 99), (1, .istore 1, 2, 99), (2, .iconst (0), 3, 99), (3, .istore 2, 4, 99), (4, .iload 2, 5, 3), (5, .aload 0, 6, 99), (6, .getfield 600, 9, 99), (9, .iconst (2), 10, 99), (10, .iaload, 11, 99), (11, .if_icmp .ge 46, 14, 99), (14, .iload 1, 15, 99), (15, .aload 0, 16, 99), (16, .iload 2, 17, 99), (17, .invokevirtual 104, 20, 99), (20, .ifCond .eq 37, 23, 99), (23, .aload 0, 24, 99), (24, .iload 2, 25, 99), (25, .invokevirtual 107, 28, 99), (28, .ifCond .eq 37, 31, 99), (31, .iconst (1), 32, 99), (32, .iload 2, 33, 99), (33, .ishl, 34, 99), (34, .goto 38, 37, 99), (37, .iconst (0), 38, 99), (38, .ior, 39, 99), (39, .istore 1, 40, 99), (40, .iinc 2 (1), 43, 99), (43, .goto 4, 46, 99), (46, .iload 1, 47, 99), (47, .ireturn, 48, 99)]
def ac152 : List Instr := [.iconst 0, .istore_n 1, .iconst 0, .istore_n 2, .iload_n 2, .aload_n 0, .getfield 7, .iconst 2, .iaload, .if_icmp .ge 35, .iload_n 1, .aload_n 0, .iload_n 2, .invokevirtual 52, .ifCond .eq 17, .aload_n 0, .iload_n 2, .invokevirtual 63, .ifCond .eq 9, .iconst 1, .iload_n 2, .ishl, .goto 4, .iconst 0, .ior, .istore_n 1, .iinc 2 1, .goto (-39), .iload_n 1, .ireturn]
-- 153 CoatedBridgesModel.groups()I
def pg153 : List AEnt := [(0, .iconst (0), 1, 99), (1, .istore 1, 2, 99), (2, .iconst (0), 3, 99), (3, .istore 2, 4, 99), (4, .iload 2, 5, 3), (5, .aload 0, 6, 99), (6, .getfield 600, 9, 99), (9, .iconst (1), 10, 99), (10, .iaload, 11, 99), (11, .if_icmp .ge 43, 14, 99), (14, .iload 1, 15, 99), (15, .aload 0, 16, 99), (16, .aload 0, 17, 99), (17, .iload 2, 18, 99), (18, .iconst (-1000004), 20, 99), (20, .invokevirtual 106, 23, 99), (23, .invokevirtual 143, 26, 99), (26, .iload 2, 27, 99), (27, .if_icmp .ne 34, 30, 99), (30, .iconst (1), 31, 99), (31, .goto 35, 34, 99), (34, .iconst (0), 35, 99), (35, .iadd, 36, 99), (36, .istore 1, 37, 99), (37, .iinc 2 (1), 40, 99), (40, .goto 4, 43, 99), (43, .iload 1, 44, 99), (44, .ireturn, 45, 99)]
def ac153 : List Instr := [.iconst 0, .istore_n 1, .iconst 0, .istore_n 2, .iload_n 2, .aload_n 0, .getfield 7, .iconst 1, .iaload, .if_icmp .ge 32, .iload_n 1, .aload_n 0, .aload_n 0, .iload_n 2, .ldc 55, .invokevirtual 56, .invokevirtual 169, .iload_n 2, .if_icmp .ne 7, .iconst 1, .goto 4, .iconst 0, .iadd, .istore_n 1, .iinc 2 1, .goto (-36), .iload_n 1, .ireturn]
-- 154 CoatedBridgesModel.ofIslands(IZ)I
def pg154 : List AEnt := [(0, .iconst (0), 1, 99), (1, .istore 3, 2, 99), (2, .iconst (0), 3, 99), (3, .istore 4, 5, 99), (5, .iload 4, 7, 5), (7, .aload 0, 8, 99), (8, .getfield 600, 11, 99), (11, .iconst (1), 12, 99), (12, .iaload, 13, 99), (13, .if_icmp .ge 55, 16, 99), (16, .aload 0, 17, 99), (17, .iload 4, 19, 99), (19, .iload 1, 20, 99), (20, .invokevirtual 100, 23, 99), (23, .istore 5, 25, 99), (25, .iload 2, 26, 99), (26, .ifCond .ne 36, 29, 99), (29, .iload 3, 30, 99), (30, .iload 5, 32, 99), (32, .iadd, 33, 99), (33, .goto 48, 36, 99), (36, .iload 5, 38, 99), (38, .iload 3, 39, 99), (39, .if_icmp .le 47, 42, 99), (42, .iload 5, 44, 99), (44, .goto 48, 47, 99), (47, .iload 3, 48, 99), (48, .istore 3, 49, 99), (49, .iinc 4 (1), 52, 99), (52, .goto 5, 55, 99), (55, .iload 3, 56, 99), (56, .ireturn, 57, 99)]
def ac154 : List Instr := [.iconst 0, .istore_n 3, .iconst 0, .istore 4, .iload 4, .aload_n 0, .getfield 7, .iconst 1, .iaload, .if_icmp .ge 42, .aload_n 0, .iload 4, .iload_n 1, .invokevirtual 80, .istore 5, .iload_n 2, .ifCond .ne 10, .iload_n 3, .iload 5, .iadd, .goto 15, .iload 5, .iload_n 3, .if_icmp .le 8, .iload 5, .goto 4, .iload_n 3, .istore_n 3, .iinc 4 1, .goto (-47), .iload_n 3, .ireturn]
-- 155 CoatedBridgesModel.count(I)I
def pg155_0 : List AEnt := [(0, .iload 1, 1, 99), (1, .tableswitch 195 (0) (19) #[96, 96, 96, 103, 111, 111, 111, 119, 124, 124, 129, 158, 165, 172, 172, 172, 172, 172, 185, 190], 96, 99), (96, .aload 0, 97, 99), (97, .getfield 600, 100, 99), (100, .iload 1, 101, 99), (101, .iaload, 102, 99), (102, .ireturn, 103, 99), (103, .aload 0, 104, 99), (104, .iconst (0), 105, 99), (105, .iconst (-1000004), 107, 99), (107, .invokevirtual 106, 110, 99), (110, .ireturn, 111, 99), (111, .aload 0, 112, 99), (112, .iload 1, 113, 99), (113, .iconst (4), 114, 99), (114, .isub, 115, 99), (115, .invokevirtual 151, 118, 99), (118, .ireturn, 119, 99), (119, .aload 0, 120, 99), (120, .invokevirtual 152, 123, 99), (123, .ireturn, 124, 99), (124, .aload 0, 125, 99), (125, .invokevirtual 153, 128, 99), (128, .ireturn, 129, 99), (129, .aload 0, 130, 99), (130, .getfield 600, 133, 99), (133, .iconst (3), 134, 99), (134, .iaload, 135, 99), (135, .aload 0, 136, 99), (136, .invokevirtual 108, 139, 99), (139, .if_icmp .le 156, 142, 99), (142, .aload 0, 143, 99), (143, .getfield 600, 146, 99), (146, .iconst (3), 147, 99), (147, .iaload, 148, 99), (148, .aload 0, 149, 99), (149, .invokevirtual 108, 152, 99), (152, .isub, 153, 99), (153, .goto 157, 156, 99), (156, .iconst (0), 157, 99)]
def pg155_1 : List AEnt := [(157, .ireturn, 158, 99), (158, .aload 0, 159, 99), (159, .iconst (2), 160, 99), (160, .iconst (0), 161, 99), (161, .invokevirtual 154, 164, 99), (164, .ireturn, 165, 99), (165, .aload 0, 166, 99), (166, .iconst (3), 167, 99), (167, .iconst (1), 168, 99), (168, .invokevirtual 154, 171, 99), (171, .ireturn, 172, 99), (172, .aload 0, 173, 99), (173, .getfield 600, 176, 99), (176, .iconst (11), 178, 99), (178, .iload 1, 179, 99), (179, .iadd, 180, 99), (180, .iconst (13), 182, 99), (182, .isub, 183, 99), (183, .iaload, 184, 99), (184, .ireturn, 185, 99), (185, .aload 0, 186, 99), (186, .getfield 604, 189, 99), (189, .ireturn, 190, 99), (190, .aload 0, 191, 99), (191, .getfield 606, 194, 99), (194, .ireturn, 195, 99), (195, .iload 1, 196, 99), (196, .iconst (20), 198, 99), (198, .iconst (27), 200, 99), (200, .invokestatic 92, 203, 99), (203, .ifCond .eq 220, 206, 99), (206, .aload 0, 207, 99), (207, .getfield 600, 210, 99), (210, .iconst (3), 211, 99), (211, .iload 1, 212, 99), (212, .iadd, 213, 99), (213, .iconst (20), 215, 99), (215, .isub, 216, 99), (216, .iaload, 217, 99), (217, .goto 222, 220, 99)]
def pg155_2 : List AEnt := [(220, .iconst (-1000001), 222, 99), (222, .ireturn, 223, 99)]
def pg155 : List AEnt := pg155_0 ++ (pg155_1 ++ (pg155_2))
def ac155_0 : List Instr := [.iload_n 1, .tableswitch 194 0 19 #[95, 95, 95, 102, 110, 110, 110, 118, 123, 123, 128, 157, 164, 171, 171, 171, 171, 171, 184, 189], .aload_n 0, .getfield 7, .iload_n 1, .iaload, .ireturn, .aload_n 0, .iconst 0, .ldc 55, .invokevirtual 56, .ireturn, .aload_n 0, .iload_n 1, .iconst 4, .isub, .invokevirtual 178, .ireturn, .aload_n 0, .invokevirtual 181, .ireturn, .aload_n 0, .invokevirtual 184, .ireturn, .aload_n 0, .getfield 7, .iconst 3, .iaload, .aload_n 0, .invokevirtual 59, .if_icmp .le 17, .aload_n 0, .getfield 7, .iconst 3, .iaload, .aload_n 0, .invokevirtual 59, .isub, .goto 4, .iconst 0]
def ac155_1 : List Instr := [.ireturn, .aload_n 0, .iconst 2, .iconst 0, .invokevirtual 187, .ireturn, .aload_n 0, .iconst 3, .iconst 1, .invokevirtual 187, .ireturn, .aload_n 0, .getfield 7, .bipush 11, .iload_n 1, .iadd, .bipush 13, .isub, .iaload, .ireturn, .aload_n 0, .getfield 32, .ireturn, .aload_n 0, .getfield 190, .ireturn, .iload_n 1, .bipush 20, .bipush 27, .invokestatic 40, .ifCond .eq 17, .aload_n 0, .getfield 7, .iconst 3, .iload_n 1, .iadd, .bipush 20, .isub, .iaload, .goto 5]
def ac155_2 : List Instr := [.ldc 110, .ireturn]
def ac155 : List Instr := ac155_0 ++ (ac155_1 ++ (ac155_2))
-- 156 CoatedBridgesModel.type(I)I
def pg156 : List AEnt := [(0, .iload 1, 1, 99), (1, .iconst (32), 3, 99), (3, .iconst (126), 5, 99), (5, .invokestatic 92, 8, 99), (8, .ifCond .ne 14, 11, 99), (11, .iconst (-1000001), 13, 99), (13, .ireturn, 14, 99), (14, .aload 0, 15, 99), (15, .getfield 606, 18, 99), (18, .iconst (60), 20, 99), (20, .if_icmp .ne 26, 23, 99), (23, .iconst (-1000003), 25, 99), (25, .ireturn, 26, 99), (26, .aload 0, 27, 99), (27, .getfield 605, 30, 99), (30, .aload 0, 31, 99), (31, .getfield 606, 34, 99), (34, .iload 1, 35, 99), (35, .iastore, 36, 99), (36, .aload 0, 37, 99), (37, .dup, 38, 99), (38, .getfield 606, 41, 99), (41, .iconst (1), 42, 99), (42, .iadd, 43, 99), (43, .putfield 606, 46, 99), (46, .aload 0, 47, 99), (47, .getfield 606, 50, 99), (50, .ireturn, 51, 99)]
def ac156 : List Instr := [.iload_n 1, .bipush 32, .bipush 126, .invokestatic 40, .ifCond .ne 6, .ldc 110, .ireturn, .aload_n 0, .getfield 190, .bipush 60, .if_icmp .ne 6, .ldc 111, .ireturn, .aload_n 0, .getfield 22, .aload_n 0, .getfield 190, .iload_n 1, .iastore, .aload_n 0, .dup, .getfield 190, .iconst 1, .iadd, .putfield 190, .aload_n 0, .getfield 190, .ireturn]
-- 157 CoatedBridgesModel.clearText()I
def pg157 : List AEnt := [(0, .aload 0, 1, 99), (1, .getfield 606, 4, 99), (4, .istore 1, 5, 99), (5, .aload 0, 6, 99), (6, .iconst (0), 7, 99), (7, .putfield 606, 10, 99), (10, .iload 1, 11, 99), (11, .ireturn, 12, 99)]
def ac157 : List Instr := [.aload_n 0, .getfield 190, .istore_n 1, .aload_n 0, .iconst 0, .putfield 190, .iload_n 1, .ireturn]
-- 158 CoatedBridgesModel.here()I
def pg158 : List AEnt := [(0, .aload 0, 1, 99), (1, .getfield 608, 4, 99), (4, .aload 0, 5, 99), (5, .getfield 606, 8, 99), (8, .if_icmp .ge 23, 11, 99), (11, .aload 0, 12, 99), (12, .getfield 605, 15, 99), (15, .aload 0, 16, 99), (16, .getfield 608, 19, 99), (19, .iaload, 20, 99), (20, .goto 24, 23, 99), (23, .iconst (0), 24, 99), (24, .ireturn, 25, 99)]
def ac158 : List Instr := [.aload_n 0, .getfield 193, .aload_n 0, .getfield 190, .if_icmp .ge 15, .aload_n 0, .getfield 22, .aload_n 0, .getfield 193, .iaload, .goto 4, .iconst 0, .ireturn]
-- 159 CoatedBridgesModel.takes(Z)V
def pg159 : List AEnt := [(0, .aload 0, 1, 99), (1, .aload 0, 2, 99), (2, .getfield 610, 5, 99), (5, .ifCond .eq 16, 8, 99), (8, .iload 1, 9, 99), (9, .ifCond .eq 16, 12, 99), (12, .iconst (1), 13, 99), (13, .goto 17, 16, 99), (16, .iconst (0), 17, 99), (17, .putfield 610, 20, 99), (20, .aload 0, 21, 99), (21, .dup, 22, 99), (22, .getfield 608, 25, 99), (25, .aload 0, 26, 99), (26, .getfield 610, 29, 99), (29, .ifCond .eq 36, 32, 99), (32, .iconst (1), 33, 99), (33, .goto 37, 36, 99), (36, .iconst (0), 37, 99), (37, .iadd, 38, 99), (38, .putfield 608, 41, 99), (41, .return_, 42, 99)]
def ac159 : List Instr := [.aload_n 0, .aload_n 0, .getfield 196, .ifCond .eq 11, .iload_n 1, .ifCond .eq 7, .iconst 1, .goto 4, .iconst 0, .putfield 196, .aload_n 0, .dup, .getfield 193, .aload_n 0, .getfield 196, .ifCond .eq 7, .iconst 1, .goto 4, .iconst 0, .iadd, .putfield 193, .return_]
-- 160 CoatedBridgesModel.takesNumber(I)V
def pg160_0 : List AEnt := [(0, .iconst (0), 1, 99), (1, .istore 2, 2, 99), (2, .iconst (0), 3, 99), (3, .istore 3, 4, 99), (4, .aload 0, 5, 4), (5, .getfield 610, 8, 99), (8, .ifCond .eq 59, 11, 99), (11, .iload 3, 12, 99), (12, .iconst (3), 13, 99), (13, .if_icmp .ge 59, 16, 99), (16, .aload 0, 17, 99), (17, .invokevirtual 158, 20, 99), (20, .iconst (48), 22, 99), (22, .iconst (57), 24, 99), (24, .invokestatic 92, 27, 99), (27, .ifCond .eq 59, 30, 99), (30, .iconst (10), 32, 99), (32, .iload 2, 33, 99), (33, .imul, 34, 99), (34, .aload 0, 35, 99), (35, .invokevirtual 158, 38, 99), (38, .iadd, 39, 99), (39, .iconst (48), 41, 99), (41, .isub, 42, 99), (42, .istore 2, 43, 99), (43, .iinc 3 (1), 46, 99), (46, .aload 0, 47, 99), (47, .dup, 48, 99), (48, .getfield 608, 51, 99), (51, .iconst (1), 52, 99), (52, .iadd, 53, 99), (53, .putfield 608, 56, 99), (56, .goto 4, 59, 99), (59, .aload 0, 60, 99), (60, .aload 0, 61, 99), (61, .getfield 610, 64, 99), (64, .ifCond .eq 75, 67, 99), (67, .iload 3, 68, 99), (68, .ifCond .le 75, 71, 99), (71, .iconst (1), 72, 99)]
def pg160_1 : List AEnt := [(72, .goto 76, 75, 99), (75, .iconst (0), 76, 99), (76, .putfield 610, 79, 99), (79, .aload 0, 80, 99), (80, .getfield 612, 83, 99), (83, .iload 1, 84, 99), (84, .iload 2, 85, 99), (85, .iastore, 86, 99), (86, .return_, 87, 99)]
def pg160 : List AEnt := pg160_0 ++ (pg160_1)
def ac160_0 : List Instr := [.iconst 0, .istore_n 2, .iconst 0, .istore_n 3, .aload_n 0, .getfield 196, .ifCond .eq 51, .iload_n 3, .iconst 3, .if_icmp .ge 46, .aload_n 0, .invokevirtual 200, .bipush 48, .bipush 57, .invokestatic 40, .ifCond .eq 32, .bipush 10, .iload_n 2, .imul, .aload_n 0, .invokevirtual 200, .iadd, .bipush 48, .isub, .istore_n 2, .iinc 3 1, .aload_n 0, .dup, .getfield 193, .iconst 1, .iadd, .putfield 193, .goto (-52), .aload_n 0, .aload_n 0, .getfield 196, .ifCond .eq 11, .iload_n 3, .ifCond .le 7, .iconst 1]
def ac160_1 : List Instr := [.goto 4, .iconst 0, .putfield 196, .aload_n 0, .getfield 29, .iload_n 1, .iload_n 2, .iastore, .return_]
def ac160 : List Instr := ac160_0 ++ (ac160_1)
-- 161 CoatedBridgesModel.takesOrder()V
def pg161_0 : List AEnt := [(0, .aload 0, 1, 99), (1, .aload 0, 2, 99), (2, .getfield 608, 5, 99), (5, .putfield 609, 8, 99), (8, .aload 0, 9, 99), (9, .iconst (1), 10, 99), (10, .putfield 610, 13, 99), (13, .aload 0, 14, 99), (14, .aload 0, 15, 99), (15, .invokevirtual 158, 18, 99), (18, .putfield 611, 21, 99), (21, .aload 0, 22, 99), (22, .aload 0, 23, 99), (23, .getfield 611, 26, 99), (26, .iconst (105), 28, 99), (28, .if_icmp .eq 85, 31, 99), (31, .aload 0, 32, 99), (32, .getfield 611, 35, 99), (35, .iconst (98), 37, 99), (37, .if_icmp .eq 85, 40, 99), (40, .aload 0, 41, 99), (41, .getfield 611, 44, 99), (44, .iconst (115), 46, 99), (46, .if_icmp .eq 85, 49, 99), (49, .aload 0, 50, 99), (50, .getfield 611, 53, 99), (53, .iconst (102), 55, 99), (55, .if_icmp .eq 85, 58, 99), (58, .aload 0, 59, 99), (59, .getfield 611, 62, 99), (62, .iconst (114), 64, 99), (64, .if_icmp .eq 85, 67, 99), (67, .aload 0, 68, 99), (68, .getfield 611, 71, 99), (71, .iconst (112), 73, 99), (73, .if_icmp .eq 85, 76, 99), (76, .aload 0, 77, 99), (77, .getfield 611, 80, 99), (80, .iconst (100), 82, 99), (82, .if_icmp .ne 89, 85, 99)]
def pg161_1 : List AEnt := [(85, .iconst (1), 86, 99), (86, .goto 90, 89, 99), (89, .iconst (0), 90, 99), (90, .invokevirtual 159, 93, 99), (93, .iconst (0), 94, 99), (94, .istore 1, 95, 99), (95, .iload 1, 96, 2), (96, .aload 0, 97, 99), (97, .getfield 611, 100, 99), (100, .iconst (98), 102, 99), (102, .if_icmp .ne 109, 105, 99), (105, .iconst (3), 106, 99), (106, .goto 110, 109, 99), (109, .iconst (1), 110, 99), (110, .if_icmp .ge 146, 113, 99), (113, .iload 1, 114, 99), (114, .ifCond .le 135, 117, 99), (117, .aload 0, 118, 99), (118, .aload 0, 119, 99), (119, .invokevirtual 158, 122, 99), (122, .iconst (44), 124, 99), (124, .if_icmp .ne 131, 127, 99), (127, .iconst (1), 128, 99), (128, .goto 132, 131, 99), (131, .iconst (0), 132, 99), (132, .invokevirtual 159, 135, 99), (135, .aload 0, 136, 99), (136, .iload 1, 137, 99), (137, .invokevirtual 160, 140, 99), (140, .iinc 1 (1), 143, 99), (143, .goto 95, 146, 99), (146, .aload 0, 147, 99), (147, .aload 0, 148, 99), (148, .invokevirtual 158, 151, 99), (151, .iconst (59), 153, 99), (153, .if_icmp .ne 160, 156, 99), (156, .iconst (1), 157, 99), (157, .goto 161, 160, 99), (160, .iconst (0), 161, 99), (161, .invokevirtual 159, 164, 99)]
def pg161_2 : List AEnt := [(164, .return_, 165, 99)]
def pg161 : List AEnt := pg161_0 ++ (pg161_1 ++ (pg161_2))
def ac161_0 : List Instr := [.aload_n 0, .aload_n 0, .getfield 193, .putfield 203, .aload_n 0, .iconst 1, .putfield 196, .aload_n 0, .aload_n 0, .invokevirtual 200, .putfield 206, .aload_n 0, .aload_n 0, .getfield 206, .bipush 105, .if_icmp .eq 57, .aload_n 0, .getfield 206, .bipush 98, .if_icmp .eq 48, .aload_n 0, .getfield 206, .bipush 115, .if_icmp .eq 39, .aload_n 0, .getfield 206, .bipush 102, .if_icmp .eq 30, .aload_n 0, .getfield 206, .bipush 114, .if_icmp .eq 21, .aload_n 0, .getfield 206, .bipush 112, .if_icmp .eq 12, .aload_n 0, .getfield 206, .bipush 100, .if_icmp .ne 7]
def ac161_1 : List Instr := [.iconst 1, .goto 4, .iconst 0, .invokevirtual 209, .iconst 0, .istore_n 1, .iload_n 1, .aload_n 0, .getfield 206, .bipush 98, .if_icmp .ne 7, .iconst 3, .goto 4, .iconst 1, .if_icmp .ge 36, .iload_n 1, .ifCond .le 21, .aload_n 0, .aload_n 0, .invokevirtual 200, .bipush 44, .if_icmp .ne 7, .iconst 1, .goto 4, .iconst 0, .invokevirtual 209, .aload_n 0, .iload_n 1, .invokevirtual 213, .iinc 1 1, .goto (-48), .aload_n 0, .aload_n 0, .invokevirtual 200, .bipush 59, .if_icmp .ne 7, .iconst 1, .goto 4, .iconst 0, .invokevirtual 209]
def ac161_2 : List Instr := [.return_]
def ac161 : List Instr := ac161_0 ++ (ac161_1 ++ (ac161_2))
-- 162 CoatedBridgesModel.errorOfOrder()I
def pg162_0 : List AEnt := [(0, .aload 0, 1, 99), (1, .getfield 611, 4, 99), (4, .tableswitch 173 (98) (115) #[103, 173, 173, 173, 126, 173, 173, 92, 173, 173, 173, 173, 173, 173, 162, 173, 151, 126], 92, 99), (92, .aload 0, 93, 99), (93, .aload 0, 94, 99), (94, .getfield 612, 97, 99), (97, .iconst (0), 98, 99), (98, .iaload, 99, 99), (99, .invokevirtual 122, 102, 99), (102, .ireturn, 103, 99), (103, .aload 0, 104, 99), (104, .aload 0, 105, 99), (105, .getfield 612, 108, 99), (108, .iconst (0), 109, 99), (109, .iaload, 110, 99), (110, .aload 0, 111, 99), (111, .getfield 612, 114, 99), (114, .iconst (1), 115, 99), (115, .iaload, 116, 99), (116, .aload 0, 117, 99), (117, .getfield 612, 120, 99), (120, .iconst (2), 121, 99), (121, .iaload, 122, 99), (122, .invokevirtual 123, 125, 99), (125, .ireturn, 126, 99), (126, .aload 0, 127, 99), (127, .aload 0, 128, 99), (128, .getfield 612, 131, 99), (131, .iconst (0), 132, 99), (132, .iaload, 133, 99), (133, .aload 0, 134, 99), (134, .getfield 611, 137, 99), (137, .iconst (102), 139, 99), (139, .if_icmp .ne 146, 142, 99), (142, .iconst (1), 143, 99), (143, .goto 147, 146, 99), (146, .iconst (0), 147, 99), (147, .invokevirtual 124, 150, 99), (150, .ireturn, 151, 99), (151, .aload 0, 152, 99)]
def pg162_1 : List AEnt := [(152, .aload 0, 153, 99), (153, .getfield 612, 156, 99), (156, .iconst (0), 157, 99), (157, .iaload, 158, 99), (158, .invokevirtual 125, 161, 99), (161, .ireturn, 162, 99), (162, .aload 0, 163, 99), (163, .aload 0, 164, 99), (164, .getfield 612, 167, 99), (167, .iconst (0), 168, 99), (168, .iaload, 169, 99), (169, .invokevirtual 126, 172, 99), (172, .ireturn, 173, 99), (173, .aload 0, 174, 99), (174, .aload 0, 175, 99), (175, .getfield 612, 178, 99), (178, .iconst (0), 179, 99), (179, .iaload, 180, 99), (180, .invokevirtual 127, 183, 99), (183, .ireturn, 184, 99)]
def pg162 : List AEnt := pg162_0 ++ (pg162_1)
def ac162_0 : List Instr := [.aload_n 0, .getfield 206, .tableswitch 169 98 115 #[99, 169, 169, 169, 122, 169, 169, 88, 169, 169, 169, 169, 169, 169, 158, 169, 147, 122], .aload_n 0, .aload_n 0, .getfield 29, .iconst 0, .iaload, .invokevirtual 120, .ireturn, .aload_n 0, .aload_n 0, .getfield 29, .iconst 0, .iaload, .aload_n 0, .getfield 29, .iconst 1, .iaload, .aload_n 0, .getfield 29, .iconst 2, .iaload, .invokevirtual 129, .ireturn, .aload_n 0, .aload_n 0, .getfield 29, .iconst 0, .iaload, .aload_n 0, .getfield 206, .bipush 102, .if_icmp .ne 7, .iconst 1, .goto 4, .iconst 0, .invokevirtual 136, .ireturn, .aload_n 0]
def ac162_1 : List Instr := [.aload_n 0, .getfield 29, .iconst 0, .iaload, .invokevirtual 139, .ireturn, .aload_n 0, .aload_n 0, .getfield 29, .iconst 0, .iaload, .invokevirtual 145, .ireturn, .aload_n 0, .aload_n 0, .getfield 29, .iconst 0, .iaload, .invokevirtual 151, .ireturn]
def ac162 : List Instr := ac162_0 ++ (ac162_1)
-- 163 CoatedBridgesModel.doesOrder()I
def pg163_0 : List AEnt := [(0, .aload 0, 1, 99), (1, .getfield 611, 4, 99), (4, .tableswitch 159 (98) (115) #[103, 159, 159, 159, 126, 159, 159, 92, 159, 159, 159, 159, 159, 159, 148, 159, 137, 126], 92, 99), (92, .aload 0, 93, 99), (93, .aload 0, 94, 99), (94, .getfield 612, 97, 99), (97, .iconst (0), 98, 99), (98, .iaload, 99, 99), (99, .invokevirtual 111, 102, 99), (102, .ireturn, 103, 99), (103, .aload 0, 104, 99), (104, .aload 0, 105, 99), (105, .getfield 612, 108, 99), (108, .iconst (0), 109, 99), (109, .iaload, 110, 99), (110, .aload 0, 111, 99), (111, .getfield 612, 114, 99), (114, .iconst (1), 115, 99), (115, .iaload, 116, 99), (116, .aload 0, 117, 99), (117, .getfield 612, 120, 99), (120, .iconst (2), 121, 99), (121, .iaload, 122, 99), (122, .invokevirtual 112, 125, 99), (125, .ireturn, 126, 99), (126, .aload 0, 127, 99), (127, .aload 0, 128, 99), (128, .getfield 612, 131, 99), (131, .iconst (0), 132, 99), (132, .iaload, 133, 99), (133, .invokevirtual 113, 136, 99), (136, .ireturn, 137, 99), (137, .aload 0, 138, 99), (138, .aload 0, 139, 99), (139, .getfield 612, 142, 99), (142, .iconst (0), 143, 99), (143, .iaload, 144, 99), (144, .invokevirtual 114, 147, 99), (147, .ireturn, 148, 99), (148, .aload 0, 149, 99)]
def pg163_1 : List AEnt := [(149, .aload 0, 150, 99), (150, .getfield 612, 153, 99), (153, .iconst (0), 154, 99), (154, .iaload, 155, 99), (155, .invokevirtual 115, 158, 99), (158, .ireturn, 159, 99), (159, .aload 0, 160, 99), (160, .aload 0, 161, 99), (161, .getfield 612, 164, 99), (164, .iconst (0), 165, 99), (165, .iaload, 166, 99), (166, .invokevirtual 121, 169, 99), (169, .ireturn, 170, 99)]
def pg163 : List AEnt := pg163_0 ++ (pg163_1)
def ac163_0 : List Instr := [.aload_n 0, .getfield 206, .tableswitch 155 98 115 #[99, 155, 155, 155, 122, 155, 155, 88, 155, 155, 155, 155, 155, 155, 144, 155, 133, 122], .aload_n 0, .aload_n 0, .getfield 29, .iconst 0, .iaload, .invokevirtual 126, .ireturn, .aload_n 0, .aload_n 0, .getfield 29, .iconst 0, .iaload, .aload_n 0, .getfield 29, .iconst 1, .iaload, .aload_n 0, .getfield 29, .iconst 2, .iaload, .invokevirtual 133, .ireturn, .aload_n 0, .aload_n 0, .getfield 29, .iconst 0, .iaload, .invokevirtual 104, .ireturn, .aload_n 0, .aload_n 0, .getfield 29, .iconst 0, .iaload, .invokevirtual 142, .ireturn, .aload_n 0]
def ac163_1 : List Instr := [.aload_n 0, .getfield 29, .iconst 0, .iaload, .invokevirtual 148, .ireturn, .aload_n 0, .aload_n 0, .getfield 29, .iconst 0, .iaload, .invokevirtual 154, .ireturn]
def ac163 : List Instr := ac163_0 ++ (ac163_1)
-- 164 CoatedBridgesModel.doesAll()I
def pg164_0 : List AEnt := [(0, .iconst (0), 1, 99), (1, .istore 1, 2, 99), (2, .aload 0, 3, 99), (3, .iconst (0), 4, 99), (4, .putfield 613, 7, 99), (7, .aload 0, 8, 99), (8, .iconst (0), 9, 99), (9, .putfield 608, 12, 99), (12, .aload 0, 13, 2), (13, .getfield 613, 16, 99), (16, .ifCond .ne 115, 19, 99), (19, .aload 0, 20, 99), (20, .getfield 608, 23, 99), (23, .aload 0, 24, 99), (24, .getfield 606, 27, 99), (27, .if_icmp .ge 115, 30, 99), (30, .aload 0, 31, 99), (31, .invokevirtual 161, 34, 99), (34, .aload 0, 35, 99), (35, .getfield 610, 38, 99), (38, .ifCond .eq 48, 41, 99), (41, .aload 0, 42, 99), (42, .invokevirtual 162, 45, 99), (45, .goto 49, 48, 99), (48, .iconst (0), 49, 99), (49, .istore 2, 50, 99), (50, .aload 0, 51, 99), (51, .getfield 610, 54, 99), (54, .ifCond .eq 61, 57, 99), (57, .iload 2, 58, 99), (58, .ifCond .ge 104, 61, 99), (61, .aload 0, 62, 99), (62, .aload 0, 63, 99), (63, .getfield 610, 66, 99), (66, .ifCond .eq 73, 69, 99), (69, .iconst (2), 70, 99), (70, .goto 74, 73, 99), (73, .iconst (1), 74, 99), (74, .putfield 613, 77, 99), (77, .aload 0, 78, 99)]
def pg164_1 : List AEnt := [(78, .aload 0, 79, 99), (79, .getfield 610, 82, 99), (82, .ifCond .eq 89, 85, 99), (85, .iload 2, 86, 99), (86, .goto 98, 89, 99), (89, .aload 0, 90, 99), (90, .getfield 608, 93, 99), (93, .aload 0, 94, 99), (94, .getfield 609, 97, 99), (97, .isub, 98, 99), (98, .putfield 614, 101, 99), (101, .goto 112, 104, 99), (104, .aload 0, 105, 99), (105, .invokevirtual 163, 108, 99), (108, .istore 3, 109, 99), (109, .iinc 1 (1), 112, 99), (112, .goto 12, 115, 99), (115, .iload 1, 116, 99), (116, .ireturn, 117, 99)]
def pg164 : List AEnt := pg164_0 ++ (pg164_1)
def ac164_0 : List Instr := [.iconst 0, .istore_n 1, .aload_n 0, .iconst 0, .putfield 216, .aload_n 0, .iconst 0, .putfield 193, .aload_n 0, .getfield 216, .ifCond .ne 99, .aload_n 0, .getfield 193, .aload_n 0, .getfield 190, .if_icmp .ge 88, .aload_n 0, .invokevirtual 219, .aload_n 0, .getfield 196, .ifCond .eq 10, .aload_n 0, .invokevirtual 222, .goto 4, .iconst 0, .istore_n 2, .aload_n 0, .getfield 196, .ifCond .eq 7, .iload_n 2, .ifCond .ge 46, .aload_n 0, .aload_n 0, .getfield 196, .ifCond .eq 7, .iconst 2, .goto 4, .iconst 1, .putfield 216, .aload_n 0]
def ac164_1 : List Instr := [.aload_n 0, .getfield 196, .ifCond .eq 7, .iload_n 2, .goto 12, .aload_n 0, .getfield 193, .aload_n 0, .getfield 203, .isub, .putfield 225, .goto 11, .aload_n 0, .invokevirtual 228, .istore_n 3, .iinc 1 1, .goto (-100), .iload_n 1, .ireturn]
def ac164 : List Instr := ac164_0 ++ (ac164_1)
-- 165 CoatedBridgesModel.fault(I)I
def pg165_0 : List AEnt := [(0, .iload 1, 1, 99), (1, .iconst (0), 2, 99), (2, .iconst (2), 3, 99), (3, .invokestatic 92, 6, 99), (6, .ifCond .ne 12, 9, 99), (9, .iconst (-1000001), 11, 99), (11, .ireturn, 12, 99), (12, .aload 0, 13, 99), (13, .getfield 600, 16, 99), (16, .iconst (0), 17, 99), (17, .aload 0, 18, 99), (18, .getfield 602, 21, 99), (21, .iconst (0), 22, 99), (22, .invokestatic 93, 25, 99), (25, .aload 0, 26, 99), (26, .invokevirtual 164, 29, 99), (29, .istore 2, 30, 99), (30, .aload 0, 31, 99), (31, .getfield 602, 34, 99), (34, .iconst (0), 35, 99), (35, .aload 0, 36, 99), (36, .getfield 600, 39, 99), (39, .iconst (0), 40, 99), (40, .invokestatic 93, 43, 99), (43, .aload 0, 44, 99), (44, .getfield 613, 47, 99), (47, .ifCond .ne 55, 50, 99), (50, .iconst (-1000004), 52, 99), (52, .goto 82, 55, 99), (55, .iload 1, 56, 99), (56, .ifCond .ne 66, 59, 99), (59, .aload 0, 60, 99), (60, .getfield 609, 63, 99), (63, .goto 82, 66, 99), (66, .iload 1, 67, 99), (67, .iconst (1), 68, 99), (68, .if_icmp .ne 78, 71, 99), (71, .aload 0, 72, 99), (72, .getfield 613, 75, 99), (75, .goto 82, 78, 99)]
def pg165_1 : List AEnt := [(78, .aload 0, 79, 99), (79, .getfield 614, 82, 99), (82, .ireturn, 83, 99)]
def pg165 : List AEnt := pg165_0 ++ (pg165_1)
def ac165_0 : List Instr := [.iload_n 1, .iconst 0, .iconst 2, .invokestatic 40, .ifCond .ne 6, .ldc 110, .ireturn, .aload_n 0, .getfield 7, .iconst 0, .aload_n 0, .getfield 16, .iconst 0, .invokestatic 36, .aload_n 0, .invokevirtual 231, .istore_n 2, .aload_n 0, .getfield 16, .iconst 0, .aload_n 0, .getfield 7, .iconst 0, .invokestatic 36, .aload_n 0, .getfield 216, .ifCond .ne 8, .ldc 55, .goto 30, .iload_n 1, .ifCond .ne 10, .aload_n 0, .getfield 203, .goto 19, .iload_n 1, .iconst 1, .if_icmp .ne 10, .aload_n 0, .getfield 216, .goto 7]
def ac165_1 : List Instr := [.aload_n 0, .getfield 225, .ireturn]
def ac165 : List Instr := ac165_0 ++ (ac165_1)
-- 166 CoatedBridgesModel.play()I
def pg166 : List AEnt := [(0, .aload 0, 1, 99), (1, .getfield 600, 4, 99), (4, .iconst (0), 5, 99), (5, .aload 0, 6, 99), (6, .getfield 602, 9, 99), (9, .iconst (0), 10, 99), (10, .invokestatic 93, 13, 99), (13, .aload 0, 14, 99), (14, .invokevirtual 164, 17, 99), (17, .istore 1, 18, 99), (18, .aload 0, 19, 99), (19, .getfield 602, 22, 99), (22, .iconst (0), 23, 99), (23, .aload 0, 24, 99), (24, .getfield 600, 27, 99), (27, .iconst (0), 28, 99), (28, .invokestatic 93, 31, 99), (31, .aload 0, 32, 99), (32, .getfield 613, 35, 99), (35, .ifCond .le 41, 38, 99), (38, .iconst (-1000002), 40, 99), (40, .ireturn, 41, 99), (41, .aload 0, 42, 99), (42, .invokevirtual 94, 45, 99), (45, .aload 0, 46, 99), (46, .invokevirtual 164, 49, 99), (49, .istore 1, 50, 99), (50, .iload 1, 51, 99), (51, .ireturn, 52, 99)]
def ac166 : List Instr := [.aload_n 0, .getfield 7, .iconst 0, .aload_n 0, .getfield 16, .iconst 0, .invokestatic 36, .aload_n 0, .invokevirtual 231, .istore_n 1, .aload_n 0, .getfield 16, .iconst 0, .aload_n 0, .getfield 7, .iconst 0, .invokestatic 36, .aload_n 0, .getfield 216, .ifCond .le 6, .ldc 118, .ireturn, .aload_n 0, .invokevirtual 123, .aload_n 0, .invokevirtual 231, .istore_n 1, .iload_n 1, .ireturn]
-- 167 java/lang/Float.isNaN(F)Z
def pg167 : List AEnt := [(0, .fload 0, 1, 99), (1, .fload 0, 2, 99), (2, .fcmp .l, 3, 99), (3, .ifCond .eq 10, 6, 99), (6, .iconst (1), 7, 99), (7, .goto 11, 10, 99), (10, .iconst (0), 11, 99), (11, .freturn, 12, 99)]
def ac167 : List Instr := [.fload_n 0, .fload_n 0, .fcmp .l, .ifCond .eq 7, .iconst 1, .goto 4, .iconst 0, .ireturn]
-- 168 java/lang/Float.floatToIntBits(F)I
def pg168 : List AEnt := [(0, .fload 0, 1, 99), (1, .invokestatic 167, 4, 99), (4, .ifCond .ne 12, 7, 99), (7, .fload 0, 8, 99), (8, .invokedynamic 1, 11, 99), (11, .ireturn, 12, 99), (12, .iconst (2143289344), 14, 99), (14, .ireturn, 15, 99)]
def ac168 : List Instr := [.fload_n 0, .invokestatic 59, .ifCond .ne 8, .fload_n 0, .invokestatic 74, .ireturn, .ldc 77, .ireturn]
-- 169 java/lang/Integer.numberOfTrailingZeros(I)I
def pg169_0 : List AEnt := [(0, .iload 0, 1, 99), (1, .iconst (-1), 2, 99), (2, .ixor, 3, 99), (3, .iload 0, 4, 99), (4, .iconst (1), 5, 99), (5, .isub, 6, 99), (6, .iand, 7, 99), (7, .istore 0, 8, 99), (8, .iload 0, 9, 99), (9, .ifCond .gt 17, 12, 99), (12, .iload 0, 13, 99), (13, .iconst (32), 15, 99), (15, .iand, 16, 99), (16, .ireturn, 17, 99), (17, .iconst (1), 18, 99), (18, .istore 1, 19, 99), (19, .iload 0, 20, 99), (20, .iconst (65536), 23, 99), (23, .if_icmp .le 34, 26, 99), (26, .iinc 1 (16), 29, 99), (29, .iload 0, 30, 99), (30, .iconst (16), 32, 99), (32, .iushr, 33, 99), (33, .istore 0, 34, 99), (34, .iload 0, 35, 99), (35, .iconst (256), 38, 99), (38, .if_icmp .le 49, 41, 99), (41, .iinc 1 (8), 44, 99), (44, .iload 0, 45, 99), (45, .iconst (8), 47, 99), (47, .iushr, 48, 99), (48, .istore 0, 49, 99), (49, .iload 0, 50, 99), (50, .iconst (16), 52, 99), (52, .if_icmp .le 62, 55, 99), (55, .iinc 1 (4), 58, 99), (58, .iload 0, 59, 99), (59, .iconst (4), 60, 99), (60, .iushr, 61, 99), (61, .istore 0, 62, 99)]
def pg169_1 : List AEnt := [(62, .iload 0, 63, 99), (63, .iconst (4), 64, 99), (64, .if_icmp .le 74, 67, 99), (67, .iinc 1 (2), 70, 99), (70, .iload 0, 71, 99), (71, .iconst (2), 72, 99), (72, .iushr, 73, 99), (73, .istore 0, 74, 99), (74, .iload 1, 75, 99), (75, .iload 0, 76, 99), (76, .iconst (1), 77, 99), (77, .iushr, 78, 99), (78, .iadd, 79, 99), (79, .ireturn, 80, 99)]
def pg169 : List AEnt := pg169_0 ++ (pg169_1)
def ac169_0 : List Instr := [.iload_n 0, .iconst (-1), .ixor, .iload_n 0, .iconst 1, .isub, .iand, .istore_n 0, .iload_n 0, .ifCond .gt 8, .iload_n 0, .bipush 32, .iand, .ireturn, .iconst 1, .istore_n 1, .iload_n 0, .ldc_w 264, .if_icmp .le 11, .iinc 1 16, .iload_n 0, .bipush 16, .iushr, .istore_n 0, .iload_n 0, .sipush 256, .if_icmp .le 11, .iinc 1 8, .iload_n 0, .bipush 8, .iushr, .istore_n 0, .iload_n 0, .bipush 16, .if_icmp .le 10, .iinc 1 4, .iload_n 0, .iconst 4, .iushr, .istore_n 0]
def ac169_1 : List Instr := [.iload_n 0, .iconst 4, .if_icmp .le 10, .iinc 1 2, .iload_n 0, .iconst 2, .iushr, .istore_n 0, .iload_n 1, .iload_n 0, .iconst 1, .iushr, .iadd, .ireturn]
def ac169 : List Instr := ac169_0 ++ (ac169_1)
-- 170 java/lang/Integer.bitCount(I)I
def pg170_0 : List AEnt := [(0, .iload 0, 1, 99), (1, .iload 0, 2, 99), (2, .iconst (1), 3, 99), (3, .iushr, 4, 99), (4, .iconst (1431655765), 7, 99), (7, .iand, 8, 99), (8, .isub, 9, 99), (9, .istore 0, 10, 99), (10, .iload 0, 11, 99), (11, .iconst (858993459), 14, 99), (14, .iand, 15, 99), (15, .iload 0, 16, 99), (16, .iconst (2), 17, 99), (17, .iushr, 18, 99), (18, .iconst (858993459), 21, 99), (21, .iand, 22, 99), (22, .iadd, 23, 99), (23, .istore 0, 24, 99), (24, .iload 0, 25, 99), (25, .iload 0, 26, 99), (26, .iconst (4), 27, 99), (27, .iushr, 28, 99), (28, .iadd, 29, 99), (29, .iconst (252645135), 32, 99), (32, .iand, 33, 99), (33, .istore 0, 34, 99), (34, .iload 0, 35, 99), (35, .iload 0, 36, 99), (36, .iconst (8), 38, 99), (38, .iushr, 39, 99), (39, .iadd, 40, 99), (40, .istore 0, 41, 99), (41, .iload 0, 42, 99), (42, .iload 0, 43, 99), (43, .iconst (16), 45, 99), (45, .iushr, 46, 99), (46, .iadd, 47, 99), (47, .istore 0, 48, 99), (48, .iload 0, 49, 99), (49, .iconst (63), 51, 99)]
def pg170_1 : List AEnt := [(51, .iand, 52, 99), (52, .ireturn, 53, 99)]
def pg170 : List AEnt := pg170_0 ++ (pg170_1)
def ac170_0 : List Instr := [.iload_n 0, .iload_n 0, .iconst 1, .iushr, .ldc_w 265, .iand, .isub, .istore_n 0, .iload_n 0, .ldc_w 266, .iand, .iload_n 0, .iconst 2, .iushr, .ldc_w 266, .iand, .iadd, .istore_n 0, .iload_n 0, .iload_n 0, .iconst 4, .iushr, .iadd, .ldc_w 267, .iand, .istore_n 0, .iload_n 0, .iload_n 0, .bipush 8, .iushr, .iadd, .istore_n 0, .iload_n 0, .iload_n 0, .bipush 16, .iushr, .iadd, .istore_n 0, .iload_n 0, .bipush 63]
def ac170_1 : List Instr := [.iand, .ireturn]
def ac170 : List Instr := ac170_0 ++ (ac170_1)
-- 171 java/lang/Math.max(II)I
def pg171 : List AEnt := [(0, .iload 0, 1, 99), (1, .iload 1, 2, 99), (2, .if_icmp .lt 9, 5, 99), (5, .iload 0, 6, 99), (6, .goto 10, 9, 99), (9, .iload 1, 10, 99), (10, .ireturn, 11, 99)]
def ac171 : List Instr := [.iload_n 0, .iload_n 1, .if_icmp .lt 7, .iload_n 0, .goto 4, .iload_n 1, .ireturn]
-- 172 java/lang/Math.min(II)I
def pg172 : List AEnt := [(0, .iload 0, 1, 99), (1, .iload 1, 2, 99), (2, .if_icmp .gt 9, 5, 99), (5, .iload 0, 6, 99), (6, .goto 10, 9, 99), (9, .iload 1, 10, 99), (10, .ireturn, 11, 99)]
def ac172 : List Instr := [.iload_n 0, .iload_n 1, .if_icmp .gt 7, .iload_n 0, .goto 4, .iload_n 1, .ireturn]
-- 173 CoatedBridgesLaw.law([I)Z
def pg173_0 : List AEnt := [(0, .new 5, 3, 99), (3, .dup, 4, 99), (4, .invokevirtual 57, 7, 99), (7, .astore 1, 8, 99), (8, .new 6, 11, 99), (11, .dup, 12, 99), (12, .invokevirtual 91, 15, 99), (15, .astore 2, 16, 99), (16, .iconst (0), 17, 99), (17, .istore 3, 18, 99), (18, .iload 3, 19, 4), (19, .aload 0, 20, 99), (20, .arraylength, 21, 99), (21, .iconst (4), 22, 99), (22, .isub, 23, 99), (23, .if_icmp .gt 722, 26, 99), (26, .aload 0, 27, 99), (27, .iload 3, 28, 99), (28, .laload, 29, 99), (29, .iconst (31), 31, 99), (31, .iand, 32, 99), (32, .tableswitch 716 (0) (23) #[144, 167, 210, 243, 266, 289, 312, 345, 378, 411, 434, 467, 500, 513, 536, 559, 572, 595, 608, 631, 644, 667, 680, 703], 144, 99), (144, .aload 1, 145, 99), (145, .aload 0, 146, 99), (146, .iload 3, 147, 99), (147, .iconst (1), 148, 99), (148, .iadd, 149, 99), (149, .laload, 150, 99), (150, .invokevirtual 58, 153, 99), (153, .aload 2, 154, 99), (154, .aload 0, 155, 99), (155, .iload 3, 156, 99), (156, .iconst (1), 157, 99), (157, .iadd, 158, 99), (158, .laload, 159, 99), (159, .invokevirtual 128, 162, 99), (162, .if_icmp .eq 716, 165, 99), (165, .iconst (0), 166, 99), (166, .freturn, 167, 99), (167, .aload 1, 168, 99)]
def pg173_1 : List AEnt := [(168, .aload 0, 169, 99), (169, .iload 3, 170, 99), (170, .iconst (1), 171, 99), (171, .iadd, 172, 99), (172, .laload, 173, 99), (173, .aload 0, 174, 99), (174, .iload 3, 175, 99), (175, .iconst (2), 176, 99), (176, .iadd, 177, 99), (177, .laload, 178, 99), (178, .aload 0, 179, 99), (179, .iload 3, 180, 99), (180, .iconst (3), 181, 99), (181, .iadd, 182, 99), (182, .laload, 183, 99), (183, .invokevirtual 59, 186, 99), (186, .aload 2, 187, 99), (187, .aload 0, 188, 99), (188, .iload 3, 189, 99), (189, .iconst (1), 190, 99), (190, .iadd, 191, 99), (191, .laload, 192, 99), (192, .aload 0, 193, 99), (193, .iload 3, 194, 99), (194, .iconst (2), 195, 99), (195, .iadd, 196, 99), (196, .laload, 197, 99), (197, .aload 0, 198, 99), (198, .iload 3, 199, 99), (199, .iconst (3), 200, 99), (200, .iadd, 201, 99), (201, .laload, 202, 99), (202, .invokevirtual 129, 205, 99), (205, .if_icmp .eq 716, 208, 99), (208, .iconst (0), 209, 99), (209, .freturn, 210, 99), (210, .aload 1, 211, 99), (211, .aload 0, 212, 99), (212, .iload 3, 213, 99), (213, .iconst (1), 214, 99)]
def pg173_2 : List AEnt := [(214, .iadd, 215, 99), (215, .laload, 216, 99), (216, .aload 0, 217, 99), (217, .iload 3, 218, 99), (218, .iconst (2), 219, 99), (219, .iadd, 220, 99), (220, .laload, 221, 99), (221, .invokevirtual 60, 224, 99), (224, .aload 2, 225, 99), (225, .aload 0, 226, 99), (226, .iload 3, 227, 99), (227, .iconst (1), 228, 99), (228, .iadd, 229, 99), (229, .laload, 230, 99), (230, .aload 0, 231, 99), (231, .iload 3, 232, 99), (232, .iconst (2), 233, 99), (233, .iadd, 234, 99), (234, .laload, 235, 99), (235, .invokevirtual 130, 238, 99), (238, .if_icmp .eq 716, 241, 99), (241, .iconst (0), 242, 99), (242, .freturn, 243, 99), (243, .aload 1, 244, 99), (244, .aload 0, 245, 99), (245, .iload 3, 246, 99), (246, .iconst (1), 247, 99), (247, .iadd, 248, 99), (248, .laload, 249, 99), (249, .invokevirtual 61, 252, 99), (252, .aload 2, 253, 99), (253, .aload 0, 254, 99), (254, .iload 3, 255, 99), (255, .iconst (1), 256, 99), (256, .iadd, 257, 99), (257, .laload, 258, 99), (258, .invokevirtual 131, 261, 99), (261, .if_icmp .eq 716, 264, 99), (264, .iconst (0), 265, 99), (265, .freturn, 266, 99)]
def pg173_3 : List AEnt := [(266, .aload 1, 267, 99), (267, .aload 0, 268, 99), (268, .iload 3, 269, 99), (269, .iconst (1), 270, 99), (270, .iadd, 271, 99), (271, .laload, 272, 99), (272, .invokevirtual 62, 275, 99), (275, .aload 2, 276, 99), (276, .aload 0, 277, 99), (277, .iload 3, 278, 99), (278, .iconst (1), 279, 99), (279, .iadd, 280, 99), (280, .laload, 281, 99), (281, .invokevirtual 132, 284, 99), (284, .if_icmp .eq 716, 287, 99), (287, .iconst (0), 288, 99), (288, .freturn, 289, 99), (289, .aload 1, 290, 99), (290, .aload 0, 291, 99), (291, .iload 3, 292, 99), (292, .iconst (1), 293, 99), (293, .iadd, 294, 99), (294, .laload, 295, 99), (295, .invokevirtual 63, 298, 99), (298, .aload 2, 299, 99), (299, .aload 0, 300, 99), (300, .iload 3, 301, 99), (301, .iconst (1), 302, 99), (302, .iadd, 303, 99), (303, .laload, 304, 99), (304, .invokevirtual 133, 307, 99), (307, .if_icmp .eq 716, 310, 99), (310, .iconst (0), 311, 99), (311, .freturn, 312, 99), (312, .aload 1, 313, 99), (313, .aload 0, 314, 99), (314, .iload 3, 315, 99), (315, .iconst (1), 316, 99), (316, .iadd, 317, 99), (317, .laload, 318, 99)]
def pg173_4 : List AEnt := [(318, .aload 0, 319, 99), (319, .iload 3, 320, 99), (320, .iconst (2), 321, 99), (321, .iadd, 322, 99), (322, .laload, 323, 99), (323, .invokevirtual 64, 326, 99), (326, .aload 2, 327, 99), (327, .aload 0, 328, 99), (328, .iload 3, 329, 99), (329, .iconst (1), 330, 99), (330, .iadd, 331, 99), (331, .laload, 332, 99), (332, .aload 0, 333, 99), (333, .iload 3, 334, 99), (334, .iconst (2), 335, 99), (335, .iadd, 336, 99), (336, .laload, 337, 99), (337, .invokevirtual 135, 340, 99), (340, .if_icmp .eq 716, 343, 99), (343, .iconst (0), 344, 99), (344, .freturn, 345, 99), (345, .aload 1, 346, 99), (346, .aload 0, 347, 99), (347, .iload 3, 348, 99), (348, .iconst (1), 349, 99), (349, .iadd, 350, 99), (350, .laload, 351, 99), (351, .aload 0, 352, 99), (352, .iload 3, 353, 99), (353, .iconst (2), 354, 99), (354, .iadd, 355, 99), (355, .laload, 356, 99), (356, .invokevirtual 65, 359, 99), (359, .aload 2, 360, 99), (360, .aload 0, 361, 99), (361, .iload 3, 362, 99), (362, .iconst (1), 363, 99), (363, .iadd, 364, 99), (364, .laload, 365, 99), (365, .aload 0, 366, 99)]
def pg173_5 : List AEnt := [(366, .iload 3, 367, 99), (367, .iconst (2), 368, 99), (368, .iadd, 369, 99), (369, .laload, 370, 99), (370, .invokevirtual 137, 373, 99), (373, .if_icmp .eq 716, 376, 99), (376, .iconst (0), 377, 99), (377, .freturn, 378, 99), (378, .aload 1, 379, 99), (379, .aload 0, 380, 99), (380, .iload 3, 381, 99), (381, .iconst (1), 382, 99), (382, .iadd, 383, 99), (383, .laload, 384, 99), (384, .aload 0, 385, 99), (385, .iload 3, 386, 99), (386, .iconst (2), 387, 99), (387, .iadd, 388, 99), (388, .laload, 389, 99), (389, .invokevirtual 66, 392, 99), (392, .aload 2, 393, 99), (393, .aload 0, 394, 99), (394, .iload 3, 395, 99), (395, .iconst (1), 396, 99), (396, .iadd, 397, 99), (397, .laload, 398, 99), (398, .aload 0, 399, 99), (399, .iload 3, 400, 99), (400, .iconst (2), 401, 99), (401, .iadd, 402, 99), (402, .laload, 403, 99), (403, .invokevirtual 140, 406, 99), (406, .if_icmp .eq 716, 409, 99), (409, .iconst (0), 410, 99), (410, .freturn, 411, 99), (411, .aload 1, 412, 99), (412, .aload 0, 413, 99), (413, .iload 3, 414, 99), (414, .iconst (1), 415, 99), (415, .iadd, 416, 99)]
def pg173_6 : List AEnt := [(416, .laload, 417, 99), (417, .invokevirtual 67, 420, 99), (420, .aload 2, 421, 99), (421, .aload 0, 422, 99), (422, .iload 3, 423, 99), (423, .iconst (1), 424, 99), (424, .iadd, 425, 99), (425, .laload, 426, 99), (426, .invokevirtual 141, 429, 99), (429, .if_icmp .eq 716, 432, 99), (432, .iconst (0), 433, 99), (433, .freturn, 434, 99), (434, .aload 1, 435, 99), (435, .aload 0, 436, 99), (436, .iload 3, 437, 99), (437, .iconst (1), 438, 99), (438, .iadd, 439, 99), (439, .laload, 440, 99), (440, .aload 0, 441, 99), (441, .iload 3, 442, 99), (442, .iconst (2), 443, 99), (443, .iadd, 444, 99), (444, .laload, 445, 99), (445, .invokevirtual 68, 448, 99), (448, .aload 2, 449, 99), (449, .aload 0, 450, 99), (450, .iload 3, 451, 99), (451, .iconst (1), 452, 99), (452, .iadd, 453, 99), (453, .laload, 454, 99), (454, .aload 0, 455, 99), (455, .iload 3, 456, 99), (456, .iconst (2), 457, 99), (457, .iadd, 458, 99), (458, .laload, 459, 99), (459, .invokevirtual 142, 462, 99), (462, .if_icmp .eq 716, 465, 99), (465, .iconst (0), 466, 99), (466, .freturn, 467, 99), (467, .aload 1, 468, 99)]
def pg173_7 : List AEnt := [(468, .aload 0, 469, 99), (469, .iload 3, 470, 99), (470, .iconst (1), 471, 99), (471, .iadd, 472, 99), (472, .laload, 473, 99), (473, .aload 0, 474, 99), (474, .iload 3, 475, 99), (475, .iconst (2), 476, 99), (476, .iadd, 477, 99), (477, .laload, 478, 99), (478, .invokevirtual 69, 481, 99), (481, .aload 2, 482, 99), (482, .aload 0, 483, 99), (483, .iload 3, 484, 99), (484, .iconst (1), 485, 99), (485, .iadd, 486, 99), (486, .laload, 487, 99), (487, .aload 0, 488, 99), (488, .iload 3, 489, 99), (489, .iconst (2), 490, 99), (490, .iadd, 491, 99), (491, .laload, 492, 99), (492, .invokevirtual 144, 495, 99), (495, .if_icmp .eq 716, 498, 99), (498, .iconst (0), 499, 99), (499, .freturn, 500, 99), (500, .aload 1, 501, 99), (501, .invokevirtual 70, 504, 99), (504, .aload 2, 505, 99), (505, .invokevirtual 145, 508, 99), (508, .if_icmp .eq 716, 511, 99), (511, .iconst (0), 512, 99), (512, .freturn, 513, 99), (513, .aload 1, 514, 99), (514, .aload 0, 515, 99), (515, .iload 3, 516, 99), (516, .iconst (1), 517, 99), (517, .iadd, 518, 99), (518, .laload, 519, 99), (519, .invokevirtual 71, 522, 99)]
def pg173_8 : List AEnt := [(522, .aload 2, 523, 99), (523, .aload 0, 524, 99), (524, .iload 3, 525, 99), (525, .iconst (1), 526, 99), (526, .iadd, 527, 99), (527, .laload, 528, 99), (528, .invokevirtual 146, 531, 99), (531, .if_icmp .eq 716, 534, 99), (534, .iconst (0), 535, 99), (535, .freturn, 536, 99), (536, .aload 1, 537, 99), (537, .aload 0, 538, 99), (538, .iload 3, 539, 99), (539, .iconst (1), 540, 99), (540, .iadd, 541, 99), (541, .laload, 542, 99), (542, .invokevirtual 72, 545, 99), (545, .aload 2, 546, 99), (546, .aload 0, 547, 99), (547, .iload 3, 548, 99), (548, .iconst (1), 549, 99), (549, .iadd, 550, 99), (550, .laload, 551, 99), (551, .invokevirtual 147, 554, 99), (554, .if_icmp .eq 716, 557, 99), (557, .iconst (0), 558, 99), (558, .freturn, 559, 99), (559, .aload 1, 560, 99), (560, .invokevirtual 73, 563, 99), (563, .aload 2, 564, 99), (564, .invokevirtual 148, 567, 99), (567, .if_icmp .eq 716, 570, 99), (570, .iconst (0), 571, 99), (571, .freturn, 572, 99), (572, .aload 1, 573, 99), (573, .aload 0, 574, 99), (574, .iload 3, 575, 99), (575, .iconst (1), 576, 99), (576, .iadd, 577, 99), (577, .laload, 578, 99)]
def pg173_9 : List AEnt := [(578, .invokevirtual 74, 581, 99), (581, .aload 2, 582, 99), (582, .aload 0, 583, 99), (583, .iload 3, 584, 99), (584, .iconst (1), 585, 99), (585, .iadd, 586, 99), (586, .laload, 587, 99), (587, .invokevirtual 149, 590, 99), (590, .if_icmp .eq 716, 593, 99), (593, .iconst (0), 594, 99), (594, .freturn, 595, 99), (595, .aload 1, 596, 99), (596, .invokevirtual 75, 599, 99), (599, .aload 2, 600, 99), (600, .invokevirtual 150, 603, 99), (603, .if_icmp .eq 716, 606, 99), (606, .iconst (0), 607, 99), (607, .freturn, 608, 99), (608, .aload 1, 609, 99), (609, .aload 0, 610, 99), (610, .iload 3, 611, 99), (611, .iconst (1), 612, 99), (612, .iadd, 613, 99), (613, .laload, 614, 99), (614, .invokevirtual 76, 617, 99), (617, .aload 2, 618, 99), (618, .aload 0, 619, 99), (619, .iload 3, 620, 99), (620, .iconst (1), 621, 99), (621, .iadd, 622, 99), (622, .laload, 623, 99), (623, .invokevirtual 155, 626, 99), (626, .if_icmp .eq 716, 629, 99), (629, .iconst (0), 630, 99), (630, .freturn, 631, 99), (631, .aload 1, 632, 99), (632, .invokevirtual 77, 635, 99), (635, .aload 2, 636, 99), (636, .invokevirtual 136, 639, 99), (639, .if_icmp .eq 716, 642, 99)]
def pg173_10 : List AEnt := [(642, .iconst (0), 643, 99), (643, .freturn, 644, 99), (644, .aload 1, 645, 99), (645, .aload 0, 646, 99), (646, .iload 3, 647, 99), (647, .iconst (1), 648, 99), (648, .iadd, 649, 99), (649, .laload, 650, 99), (650, .invokevirtual 78, 653, 99), (653, .aload 2, 654, 99), (654, .aload 0, 655, 99), (655, .iload 3, 656, 99), (656, .iconst (1), 657, 99), (657, .iadd, 658, 99), (658, .laload, 659, 99), (659, .invokevirtual 156, 662, 99), (662, .if_icmp .eq 716, 665, 99), (665, .iconst (0), 666, 99), (666, .freturn, 667, 99), (667, .aload 1, 668, 99), (668, .invokevirtual 79, 671, 99), (671, .aload 2, 672, 99), (672, .invokevirtual 157, 675, 99), (675, .if_icmp .eq 716, 678, 99), (678, .iconst (0), 679, 99), (679, .freturn, 680, 99), (680, .aload 1, 681, 99), (681, .aload 0, 682, 99), (682, .iload 3, 683, 99), (683, .iconst (1), 684, 99), (684, .iadd, 685, 99), (685, .laload, 686, 99), (686, .invokevirtual 80, 689, 99), (689, .aload 2, 690, 99), (690, .aload 0, 691, 99), (691, .iload 3, 692, 99), (692, .iconst (1), 693, 99), (693, .iadd, 694, 99), (694, .laload, 695, 99), (695, .invokevirtual 165, 698, 99)]
def pg173_11 : List AEnt := [(698, .if_icmp .eq 716, 701, 99), (701, .iconst (0), 702, 99), (702, .freturn, 703, 99), (703, .aload 1, 704, 99), (704, .invokevirtual 81, 707, 99), (707, .aload 2, 708, 99), (708, .invokevirtual 166, 711, 99), (711, .if_icmp .eq 716, 714, 99), (714, .iconst (0), 715, 99), (715, .freturn, 716, 99), (716, .iinc 3 (4), 719, 99), (719, .goto 18, 722, 99), (722, .iconst (1), 723, 99), (723, .freturn, 724, 99)]
def pg173 : List AEnt := pg173_0 ++ (pg173_1 ++ (pg173_2 ++ (pg173_3 ++ (pg173_4 ++ (pg173_5 ++ (pg173_6 ++ (pg173_7 ++ (pg173_8 ++ (pg173_9 ++ (pg173_10 ++ (pg173_11)))))))))))
def ac173_0 : List Instr := [.new 7, .dup, .invokespecial 9, .astore_n 1, .new 10, .dup, .invokespecial 12, .astore_n 2, .iconst 0, .istore_n 3, .iload_n 3, .aload_n 0, .arraylength, .iconst 4, .isub, .if_icmp .gt 699, .aload_n 0, .iload_n 3, .iaload, .bipush 31, .iand, .tableswitch 684 0 23 #[112, 135, 178, 211, 234, 257, 280, 313, 346, 379, 402, 435, 468, 481, 504, 527, 540, 563, 576, 599, 612, 635, 648, 671], .aload_n 1, .aload_n 0, .iload_n 3, .iconst 1, .iadd, .iaload, .invokevirtual 13, .aload_n 2, .aload_n 0, .iload_n 3, .iconst 1, .iadd, .iaload, .invokevirtual 17, .if_icmp .eq 554, .iconst 0, .ireturn, .aload_n 1]
def ac173_1 : List Instr := [.aload_n 0, .iload_n 3, .iconst 1, .iadd, .iaload, .aload_n 0, .iload_n 3, .iconst 2, .iadd, .iaload, .aload_n 0, .iload_n 3, .iconst 3, .iadd, .iaload, .invokevirtual 18, .aload_n 2, .aload_n 0, .iload_n 3, .iconst 1, .iadd, .iaload, .aload_n 0, .iload_n 3, .iconst 2, .iadd, .iaload, .aload_n 0, .iload_n 3, .iconst 3, .iadd, .iaload, .invokevirtual 22, .if_icmp .eq 511, .iconst 0, .ireturn, .aload_n 1, .aload_n 0, .iload_n 3, .iconst 1]
def ac173_2 : List Instr := [.iadd, .iaload, .aload_n 0, .iload_n 3, .iconst 2, .iadd, .iaload, .invokevirtual 23, .aload_n 2, .aload_n 0, .iload_n 3, .iconst 1, .iadd, .iaload, .aload_n 0, .iload_n 3, .iconst 2, .iadd, .iaload, .invokevirtual 27, .if_icmp .eq 478, .iconst 0, .ireturn, .aload_n 1, .aload_n 0, .iload_n 3, .iconst 1, .iadd, .iaload, .invokevirtual 28, .aload_n 2, .aload_n 0, .iload_n 3, .iconst 1, .iadd, .iaload, .invokevirtual 31, .if_icmp .eq 455, .iconst 0, .ireturn]
def ac173_3 : List Instr := [.aload_n 1, .aload_n 0, .iload_n 3, .iconst 1, .iadd, .iaload, .invokevirtual 32, .aload_n 2, .aload_n 0, .iload_n 3, .iconst 1, .iadd, .iaload, .invokevirtual 35, .if_icmp .eq 432, .iconst 0, .ireturn, .aload_n 1, .aload_n 0, .iload_n 3, .iconst 1, .iadd, .iaload, .invokevirtual 36, .aload_n 2, .aload_n 0, .iload_n 3, .iconst 1, .iadd, .iaload, .invokevirtual 39, .if_icmp .eq 409, .iconst 0, .ireturn, .aload_n 1, .aload_n 0, .iload_n 3, .iconst 1, .iadd, .iaload]
def ac173_4 : List Instr := [.aload_n 0, .iload_n 3, .iconst 2, .iadd, .iaload, .invokevirtual 40, .aload_n 2, .aload_n 0, .iload_n 3, .iconst 1, .iadd, .iaload, .aload_n 0, .iload_n 3, .iconst 2, .iadd, .iaload, .invokevirtual 43, .if_icmp .eq 376, .iconst 0, .ireturn, .aload_n 1, .aload_n 0, .iload_n 3, .iconst 1, .iadd, .iaload, .aload_n 0, .iload_n 3, .iconst 2, .iadd, .iaload, .invokevirtual 44, .aload_n 2, .aload_n 0, .iload_n 3, .iconst 1, .iadd, .iaload, .aload_n 0]
def ac173_5 : List Instr := [.iload_n 3, .iconst 2, .iadd, .iaload, .invokevirtual 47, .if_icmp .eq 343, .iconst 0, .ireturn, .aload_n 1, .aload_n 0, .iload_n 3, .iconst 1, .iadd, .iaload, .aload_n 0, .iload_n 3, .iconst 2, .iadd, .iaload, .invokevirtual 48, .aload_n 2, .aload_n 0, .iload_n 3, .iconst 1, .iadd, .iaload, .aload_n 0, .iload_n 3, .iconst 2, .iadd, .iaload, .invokevirtual 51, .if_icmp .eq 310, .iconst 0, .ireturn, .aload_n 1, .aload_n 0, .iload_n 3, .iconst 1, .iadd]
def ac173_6 : List Instr := [.iaload, .invokevirtual 52, .aload_n 2, .aload_n 0, .iload_n 3, .iconst 1, .iadd, .iaload, .invokevirtual 55, .if_icmp .eq 287, .iconst 0, .ireturn, .aload_n 1, .aload_n 0, .iload_n 3, .iconst 1, .iadd, .iaload, .aload_n 0, .iload_n 3, .iconst 2, .iadd, .iaload, .invokevirtual 56, .aload_n 2, .aload_n 0, .iload_n 3, .iconst 1, .iadd, .iaload, .aload_n 0, .iload_n 3, .iconst 2, .iadd, .iaload, .invokevirtual 59, .if_icmp .eq 254, .iconst 0, .ireturn, .aload_n 1]
def ac173_7 : List Instr := [.aload_n 0, .iload_n 3, .iconst 1, .iadd, .iaload, .aload_n 0, .iload_n 3, .iconst 2, .iadd, .iaload, .invokevirtual 60, .aload_n 2, .aload_n 0, .iload_n 3, .iconst 1, .iadd, .iaload, .aload_n 0, .iload_n 3, .iconst 2, .iadd, .iaload, .invokevirtual 63, .if_icmp .eq 221, .iconst 0, .ireturn, .aload_n 1, .invokevirtual 64, .aload_n 2, .invokevirtual 68, .if_icmp .eq 208, .iconst 0, .ireturn, .aload_n 1, .aload_n 0, .iload_n 3, .iconst 1, .iadd, .iaload, .invokevirtual 69]
def ac173_8 : List Instr := [.aload_n 2, .aload_n 0, .iload_n 3, .iconst 1, .iadd, .iaload, .invokevirtual 72, .if_icmp .eq 185, .iconst 0, .ireturn, .aload_n 1, .aload_n 0, .iload_n 3, .iconst 1, .iadd, .iaload, .invokevirtual 73, .aload_n 2, .aload_n 0, .iload_n 3, .iconst 1, .iadd, .iaload, .invokevirtual 76, .if_icmp .eq 162, .iconst 0, .ireturn, .aload_n 1, .invokevirtual 77, .aload_n 2, .invokevirtual 80, .if_icmp .eq 149, .iconst 0, .ireturn, .aload_n 1, .aload_n 0, .iload_n 3, .iconst 1, .iadd, .iaload]
def ac173_9 : List Instr := [.invokevirtual 81, .aload_n 2, .aload_n 0, .iload_n 3, .iconst 1, .iadd, .iaload, .invokevirtual 84, .if_icmp .eq 126, .iconst 0, .ireturn, .aload_n 1, .invokevirtual 85, .aload_n 2, .invokevirtual 88, .if_icmp .eq 113, .iconst 0, .ireturn, .aload_n 1, .aload_n 0, .iload_n 3, .iconst 1, .iadd, .iaload, .invokevirtual 89, .aload_n 2, .aload_n 0, .iload_n 3, .iconst 1, .iadd, .iaload, .invokevirtual 92, .if_icmp .eq 90, .iconst 0, .ireturn, .aload_n 1, .invokevirtual 93, .aload_n 2, .invokevirtual 96, .if_icmp .eq 77]
def ac173_10 : List Instr := [.iconst 0, .ireturn, .aload_n 1, .aload_n 0, .iload_n 3, .iconst 1, .iadd, .iaload, .invokevirtual 97, .aload_n 2, .aload_n 0, .iload_n 3, .iconst 1, .iadd, .iaload, .invokevirtual 100, .if_icmp .eq 54, .iconst 0, .ireturn, .aload_n 1, .invokevirtual 101, .aload_n 2, .invokevirtual 104, .if_icmp .eq 41, .iconst 0, .ireturn, .aload_n 1, .aload_n 0, .iload_n 3, .iconst 1, .iadd, .iaload, .invokevirtual 105, .aload_n 2, .aload_n 0, .iload_n 3, .iconst 1, .iadd, .iaload, .invokevirtual 108]
def ac173_11 : List Instr := [.if_icmp .eq 18, .iconst 0, .ireturn, .aload_n 1, .invokevirtual 109, .aload_n 2, .invokevirtual 112, .if_icmp .eq 5, .iconst 0, .ireturn, .iinc 3 4, .goto (-701), .iconst 1, .ireturn]
def ac173 : List Instr := ac173_0 ++ (ac173_1 ++ (ac173_2 ++ (ac173_3 ++ (ac173_4 ++ (ac173_5 ++ (ac173_6 ++ (ac173_7 ++ (ac173_8 ++ (ac173_9 ++ (ac173_10 ++ (ac173_11)))))))))))
def mCode (mi : Nat) : List AEnt := match mi with
  | 0 => pg0
  | 1 => pg1
  | 2 => pg2
  | 3 => pg3
  | 4 => pg4
  | 5 => pg5
  | 6 => pg6
  | 7 => pg7
  | 8 => pg8
  | 9 => pg9
  | 10 => pg10
  | 11 => pg11
  | 12 => pg12
  | 13 => pg13
  | 14 => pg14
  | 15 => pg15
  | 16 => pg16
  | 17 => pg17
  | 18 => pg18
  | 19 => pg19
  | 20 => pg20
  | 21 => pg21
  | 22 => pg22
  | 23 => pg23
  | 24 => pg24
  | 25 => pg25
  | 26 => pg26
  | 27 => pg27
  | 28 => pg28
  | 29 => pg29
  | 30 => pg30
  | 31 => pg31
  | 32 => pg32
  | 33 => pg33
  | 34 => pg34
  | 35 => pg35
  | 36 => pg36
  | 37 => pg37
  | 38 => pg38
  | 39 => pg39
  | 40 => pg40
  | 41 => pg41
  | 42 => pg42
  | 43 => pg43
  | 44 => pg44
  | 45 => pg45
  | 46 => pg46
  | 47 => pg47
  | 48 => pg48
  | 49 => pg49
  | 50 => pg50
  | 51 => pg51
  | 52 => pg52
  | 53 => pg53
  | 54 => pg54
  | 55 => pg55
  | 56 => pg56
  | 57 => pg57
  | 58 => pg58
  | 59 => pg59
  | 60 => pg60
  | 61 => pg61
  | 62 => pg62
  | 63 => pg63
  | 64 => pg64
  | 65 => pg65
  | 66 => pg66
  | 67 => pg67
  | 68 => pg68
  | 69 => pg69
  | 70 => pg70
  | 71 => pg71
  | 72 => pg72
  | 73 => pg73
  | 74 => pg74
  | 75 => pg75
  | 76 => pg76
  | 77 => pg77
  | 78 => pg78
  | 79 => pg79
  | 80 => pg80
  | 81 => pg81
  | 82 => pg82
  | 83 => pg83
  | 84 => pg84
  | 85 => pg85
  | 86 => pg86
  | 87 => pg87
  | 88 => pg88
  | 89 => pg89
  | 90 => pg90
  | 91 => pg91
  | 92 => pg92
  | 93 => pg93
  | 94 => pg94
  | 95 => pg95
  | 96 => pg96
  | 97 => pg97
  | 98 => pg98
  | 99 => pg99
  | 100 => pg100
  | 101 => pg101
  | 102 => pg102
  | 103 => pg103
  | 104 => pg104
  | 105 => pg105
  | 106 => pg106
  | 107 => pg107
  | 108 => pg108
  | 109 => pg109
  | 110 => pg110
  | 111 => pg111
  | 112 => pg112
  | 113 => pg113
  | 114 => pg114
  | 115 => pg115
  | 116 => pg116
  | 117 => pg117
  | 118 => pg118
  | 119 => pg119
  | 120 => pg120
  | 121 => pg121
  | 122 => pg122
  | 123 => pg123
  | 124 => pg124
  | 125 => pg125
  | 126 => pg126
  | 127 => pg127
  | 128 => pg128
  | 129 => pg129
  | 130 => pg130
  | 131 => pg131
  | 132 => pg132
  | 133 => pg133
  | 134 => pg134
  | 135 => pg135
  | 136 => pg136
  | 137 => pg137
  | 138 => pg138
  | 139 => pg139
  | 140 => pg140
  | 141 => pg141
  | 142 => pg142
  | 143 => pg143
  | 144 => pg144
  | 145 => pg145
  | 146 => pg146
  | 147 => pg147
  | 148 => pg148
  | 149 => pg149
  | 150 => pg150
  | 151 => pg151
  | 152 => pg152
  | 153 => pg153
  | 154 => pg154
  | 155 => pg155
  | 156 => pg156
  | 157 => pg157
  | 158 => pg158
  | 159 => pg159
  | 160 => pg160
  | 161 => pg161
  | 162 => pg162
  | 163 => pg163
  | 164 => pg164
  | 165 => pg165
  | 166 => pg166
  | 167 => pg167
  | 168 => pg168
  | 169 => pg169
  | 170 => pg170
  | 171 => pg171
  | 172 => pg172
  | 173 => pg173
  | _ => []
def mAct (mi : Nat) : List Instr := match mi with
  | 0 => ac0
  | 1 => ac1
  | 2 => ac2
  | 3 => ac3
  | 4 => ac4
  | 5 => ac5
  | 6 => ac6
  | 7 => ac7
  | 8 => ac8
  | 9 => ac9
  | 10 => ac10
  | 11 => ac11
  | 12 => ac12
  | 13 => ac13
  | 14 => ac14
  | 15 => ac15
  | 16 => ac16
  | 17 => ac17
  | 18 => ac18
  | 19 => ac19
  | 20 => ac20
  | 21 => ac21
  | 22 => ac22
  | 23 => ac23
  | 24 => ac24
  | 25 => ac25
  | 26 => ac26
  | 27 => ac27
  | 28 => ac28
  | 29 => ac29
  | 30 => ac30
  | 31 => ac31
  | 32 => ac32
  | 33 => ac33
  | 34 => ac34
  | 35 => ac35
  | 36 => ac36
  | 37 => ac37
  | 38 => ac38
  | 39 => ac39
  | 40 => ac40
  | 41 => ac41
  | 42 => ac42
  | 43 => ac43
  | 44 => ac44
  | 45 => ac45
  | 46 => ac46
  | 47 => ac47
  | 48 => ac48
  | 49 => ac49
  | 50 => ac50
  | 51 => ac51
  | 52 => ac52
  | 53 => ac53
  | 54 => ac54
  | 55 => ac55
  | 56 => ac56
  | 57 => ac57
  | 58 => ac58
  | 59 => ac59
  | 60 => ac60
  | 61 => ac61
  | 62 => ac62
  | 63 => ac63
  | 64 => ac64
  | 65 => ac65
  | 66 => ac66
  | 67 => ac67
  | 68 => ac68
  | 69 => ac69
  | 70 => ac70
  | 71 => ac71
  | 72 => ac72
  | 73 => ac73
  | 74 => ac74
  | 75 => ac75
  | 76 => ac76
  | 77 => ac77
  | 78 => ac78
  | 79 => ac79
  | 80 => ac80
  | 81 => ac81
  | 82 => ac82
  | 83 => ac83
  | 84 => ac84
  | 85 => ac85
  | 86 => ac86
  | 87 => ac87
  | 88 => ac88
  | 89 => ac89
  | 90 => ac90
  | 91 => ac91
  | 92 => ac92
  | 93 => ac93
  | 94 => ac94
  | 95 => ac95
  | 96 => ac96
  | 97 => ac97
  | 98 => ac98
  | 99 => ac99
  | 100 => ac100
  | 101 => ac101
  | 102 => ac102
  | 103 => ac103
  | 104 => ac104
  | 105 => ac105
  | 106 => ac106
  | 107 => ac107
  | 108 => ac108
  | 109 => ac109
  | 110 => ac110
  | 111 => ac111
  | 112 => ac112
  | 113 => ac113
  | 114 => ac114
  | 115 => ac115
  | 116 => ac116
  | 117 => ac117
  | 118 => ac118
  | 119 => ac119
  | 120 => ac120
  | 121 => ac121
  | 122 => ac122
  | 123 => ac123
  | 124 => ac124
  | 125 => ac125
  | 126 => ac126
  | 127 => ac127
  | 128 => ac128
  | 129 => ac129
  | 130 => ac130
  | 131 => ac131
  | 132 => ac132
  | 133 => ac133
  | 134 => ac134
  | 135 => ac135
  | 136 => ac136
  | 137 => ac137
  | 138 => ac138
  | 139 => ac139
  | 140 => ac140
  | 141 => ac141
  | 142 => ac142
  | 143 => ac143
  | 144 => ac144
  | 145 => ac145
  | 146 => ac146
  | 147 => ac147
  | 148 => ac148
  | 149 => ac149
  | 150 => ac150
  | 151 => ac151
  | 152 => ac152
  | 153 => ac153
  | 154 => ac154
  | 155 => ac155
  | 156 => ac156
  | 157 => ac157
  | 158 => ac158
  | 159 => ac159
  | 160 => ac160
  | 161 => ac161
  | 162 => ac162
  | 163 => ac163
  | 164 => ac164
  | 165 => ac165
  | 166 => ac166
  | 167 => ac167
  | 168 => ac168
  | 169 => ac169
  | 170 => ac170
  | 171 => ac171
  | 172 => ac172
  | 173 => ac173
  | _ => []
def mPar (mi : Nat) : Nat := match mi with
  | 0 => 1
  | 1 => 2
  | 2 => 3
  | 3 => 1
  | 4 => 2
  | 5 => 2
  | 6 => 1
  | 7 => 4
  | 8 => 2
  | 9 => 1
  | 10 => 1
  | 11 => 3
  | 12 => 1
  | 13 => 1
  | 14 => 1
  | 15 => 2
  | 16 => 2
  | 17 => 2
  | 18 => 1
  | 19 => 2
  | 20 => 2
  | 21 => 2
  | 22 => 2
  | 23 => 4
  | 24 => 3
  | 25 => 2
  | 26 => 2
  | 27 => 3
  | 28 => 2
  | 29 => 1
  | 30 => 1
  | 31 => 2
  | 32 => 1
  | 33 => 2
  | 34 => 2
  | 35 => 1
  | 36 => 2
  | 37 => 1
  | 38 => 2
  | 39 => 3
  | 40 => 3
  | 41 => 2
  | 42 => 1
  | 43 => 2
  | 44 => 2
  | 45 => 1
  | 46 => 1
  | 47 => 1
  | 48 => 1
  | 49 => 1
  | 50 => 1
  | 51 => 2
  | 52 => 2
  | 53 => 1
  | 54 => 2
  | 55 => 2
  | 56 => 1
  | 57 => 1
  | 58 => 2
  | 59 => 4
  | 60 => 3
  | 61 => 2
  | 62 => 2
  | 63 => 2
  | 64 => 3
  | 65 => 3
  | 66 => 3
  | 67 => 2
  | 68 => 3
  | 69 => 3
  | 70 => 1
  | 71 => 2
  | 72 => 2
  | 73 => 1
  | 74 => 2
  | 75 => 1
  | 76 => 2
  | 77 => 1
  | 78 => 2
  | 79 => 1
  | 80 => 2
  | 81 => 1
  | 82 => 1
  | 83 => 2
  | 84 => 1
  | 85 => 2
  | 86 => 4
  | 87 => 2
  | 88 => 2
  | 89 => 1
  | 90 => 1
  | 91 => 1
  | 92 => 3
  | 93 => 4
  | 94 => 1
  | 95 => 2
  | 96 => 2
  | 97 => 3
  | 98 => 4
  | 99 => 4
  | 100 => 3
  | 101 => 4
  | 102 => 3
  | 103 => 2
  | 104 => 2
  | 105 => 2
  | 106 => 3
  | 107 => 2
  | 108 => 1
  | 109 => 2
  | 110 => 1
  | 111 => 2
  | 112 => 4
  | 113 => 2
  | 114 => 2
  | 115 => 2
  | 116 => 2
  | 117 => 2
  | 118 => 3
  | 119 => 2
  | 120 => 1
  | 121 => 2
  | 122 => 2
  | 123 => 4
  | 124 => 3
  | 125 => 2
  | 126 => 2
  | 127 => 2
  | 128 => 2
  | 129 => 4
  | 130 => 3
  | 131 => 2
  | 132 => 2
  | 133 => 2
  | 134 => 1
  | 135 => 3
  | 136 => 1
  | 137 => 3
  | 138 => 2
  | 139 => 2
  | 140 => 3
  | 141 => 2
  | 142 => 3
  | 143 => 2
  | 144 => 3
  | 145 => 1
  | 146 => 2
  | 147 => 2
  | 148 => 1
  | 149 => 2
  | 150 => 1
  | 151 => 2
  | 152 => 1
  | 153 => 1
  | 154 => 3
  | 155 => 2
  | 156 => 2
  | 157 => 1
  | 158 => 1
  | 159 => 2
  | 160 => 2
  | 161 => 1
  | 162 => 1
  | 163 => 1
  | 164 => 1
  | 165 => 2
  | 166 => 1
  | 167 => 1
  | 168 => 1
  | 169 => 1
  | 170 => 1
  | 171 => 2
  | 172 => 2
  | 173 => 1
  | _ => 0
def mCls (mi : Nat) : Nat := match mi with
  | 0 => 0
  | 1 => 0
  | 2 => 0
  | 3 => 0
  | 4 => 0
  | 5 => 0
  | 6 => 1
  | 7 => 1
  | 8 => 1
  | 9 => 1
  | 10 => 1
  | 11 => 1
  | 12 => 1
  | 13 => 1
  | 14 => 2
  | 15 => 2
  | 16 => 2
  | 17 => 2
  | 18 => 3
  | 19 => 3
  | 20 => 3
  | 21 => 3
  | 22 => 3
  | 23 => 3
  | 24 => 3
  | 25 => 3
  | 26 => 3
  | 27 => 3
  | 28 => 3
  | 29 => 3
  | 30 => 3
  | 31 => 3
  | 32 => 3
  | 33 => 3
  | 34 => 3
  | 35 => 3
  | 36 => 3
  | 37 => 3
  | 38 => 3
  | 39 => 3
  | 40 => 3
  | 41 => 3
  | 42 => 3
  | 43 => 3
  | 44 => 3
  | 45 => 3
  | 46 => 3
  | 47 => 3
  | 48 => 3
  | 49 => 3
  | 50 => 4
  | 51 => 4
  | 52 => 4
  | 53 => 4
  | 54 => 4
  | 55 => 4
  | 56 => 4
  | 57 => 5
  | 58 => 5
  | 59 => 5
  | 60 => 5
  | 61 => 5
  | 62 => 5
  | 63 => 5
  | 64 => 5
  | 65 => 5
  | 66 => 5
  | 67 => 5
  | 68 => 5
  | 69 => 5
  | 70 => 5
  | 71 => 5
  | 72 => 5
  | 73 => 5
  | 74 => 5
  | 75 => 5
  | 76 => 5
  | 77 => 5
  | 78 => 5
  | 79 => 5
  | 80 => 5
  | 81 => 5
  | 82 => 5
  | 83 => 5
  | 84 => 5
  | 85 => 5
  | 86 => 5
  | 87 => 5
  | 88 => 5
  | 89 => 5
  | 90 => 5
  | 91 => 6
  | 92 => 6
  | 93 => 6
  | 94 => 6
  | 95 => 6
  | 96 => 6
  | 97 => 6
  | 98 => 6
  | 99 => 6
  | 100 => 6
  | 101 => 6
  | 102 => 6
  | 103 => 6
  | 104 => 6
  | 105 => 6
  | 106 => 6
  | 107 => 6
  | 108 => 6
  | 109 => 6
  | 110 => 6
  | 111 => 6
  | 112 => 6
  | 113 => 6
  | 114 => 6
  | 115 => 6
  | 116 => 6
  | 117 => 6
  | 118 => 6
  | 119 => 6
  | 120 => 6
  | 121 => 6
  | 122 => 6
  | 123 => 6
  | 124 => 6
  | 125 => 6
  | 126 => 6
  | 127 => 6
  | 128 => 6
  | 129 => 6
  | 130 => 6
  | 131 => 6
  | 132 => 6
  | 133 => 6
  | 134 => 6
  | 135 => 6
  | 136 => 6
  | 137 => 6
  | 138 => 6
  | 139 => 6
  | 140 => 6
  | 141 => 6
  | 142 => 6
  | 143 => 6
  | 144 => 6
  | 145 => 6
  | 146 => 6
  | 147 => 6
  | 148 => 6
  | 149 => 6
  | 150 => 6
  | 151 => 6
  | 152 => 6
  | 153 => 6
  | 154 => 6
  | 155 => 6
  | 156 => 6
  | 157 => 6
  | 158 => 6
  | 159 => 6
  | 160 => 6
  | 161 => 6
  | 162 => 6
  | 163 => 6
  | 164 => 6
  | 165 => 6
  | 166 => 6
  | 167 => 10
  | 168 => 10
  | 169 => 8
  | 170 => 8
  | 171 => 9
  | 172 => 9
  | 173 => 7
  | _ => 0
def mMax (mi : Nat) : Nat := match mi with
  | 0 => 1
  | 1 => 3
  | 2 => 3
  | 3 => 2
  | 4 => 2
  | 5 => 2
  | 6 => 1
  | 7 => 4
  | 8 => 2
  | 9 => 1
  | 10 => 1
  | 11 => 3
  | 12 => 1
  | 13 => 2
  | 14 => 1
  | 15 => 2
  | 16 => 2
  | 17 => 2
  | 18 => 2
  | 19 => 3
  | 20 => 2
  | 21 => 2
  | 22 => 2
  | 23 => 4
  | 24 => 6
  | 25 => 2
  | 26 => 2
  | 27 => 4
  | 28 => 4
  | 29 => 5
  | 30 => 3
  | 31 => 3
  | 32 => 5
  | 33 => 2
  | 34 => 2
  | 35 => 1
  | 36 => 2
  | 37 => 6
  | 38 => 4
  | 39 => 6
  | 40 => 6
  | 41 => 2
  | 42 => 4
  | 43 => 4
  | 44 => 4
  | 45 => 4
  | 46 => 3
  | 47 => 3
  | 48 => 3
  | 49 => 3
  | 50 => 1
  | 51 => 2
  | 52 => 4
  | 53 => 1
  | 54 => 2
  | 55 => 4
  | 56 => 1
  | 57 => 2
  | 58 => 2
  | 59 => 4
  | 60 => 3
  | 61 => 2
  | 62 => 2
  | 63 => 2
  | 64 => 3
  | 65 => 4
  | 66 => 4
  | 67 => 2
  | 68 => 3
  | 69 => 4
  | 70 => 1
  | 71 => 3
  | 72 => 4
  | 73 => 4
  | 74 => 5
  | 75 => 1
  | 76 => 2
  | 77 => 2
  | 78 => 2
  | 79 => 2
  | 80 => 2
  | 81 => 1
  | 82 => 1
  | 83 => 3
  | 84 => 3
  | 85 => 4
  | 86 => 4
  | 87 => 3
  | 88 => 2
  | 89 => 1
  | 90 => 4
  | 91 => 1
  | 92 => 3
  | 93 => 5
  | 94 => 2
  | 95 => 2
  | 96 => 2
  | 97 => 3
  | 98 => 4
  | 99 => 4
  | 100 => 3
  | 101 => 4
  | 102 => 3
  | 103 => 2
  | 104 => 2
  | 105 => 2
  | 106 => 7
  | 107 => 2
  | 108 => 3
  | 109 => 2
  | 110 => 4
  | 111 => 4
  | 112 => 6
  | 113 => 3
  | 114 => 2
  | 115 => 2
  | 116 => 3
  | 117 => 3
  | 118 => 5
  | 119 => 3
  | 120 => 5
  | 121 => 4
  | 122 => 2
  | 123 => 5
  | 124 => 4
  | 125 => 2
  | 126 => 2
  | 127 => 2
  | 128 => 3
  | 129 => 5
  | 130 => 4
  | 131 => 3
  | 132 => 3
  | 133 => 3
  | 134 => 1
  | 135 => 4
  | 136 => 1
  | 137 => 3
  | 138 => 4
  | 139 => 7
  | 140 => 3
  | 141 => 2
  | 142 => 3
  | 143 => 3
  | 144 => 4
  | 145 => 1
  | 146 => 2
  | 147 => 4
  | 148 => 4
  | 149 => 3
  | 150 => 3
  | 151 => 4
  | 152 => 3
  | 153 => 3
  | 154 => 6
  | 155 => 2
  | 156 => 2
  | 157 => 2
  | 158 => 1
  | 159 => 2
  | 160 => 4
  | 161 => 2
  | 162 => 1
  | 163 => 1
  | 164 => 4
  | 165 => 3
  | 166 => 2
  | 167 => 1
  | 168 => 1
  | 169 => 2
  | 170 => 1
  | 171 => 2
  | 172 => 2
  | 173 => 4
  | _ => 0
def mDep (mi : Nat) : Nat := match mi with
  | 0 => 1
  | 1 => 0
  | 2 => 1
  | 3 => 0
  | 4 => 0
  | 5 => 0
  | 6 => 1
  | 7 => 0
  | 8 => 0
  | 9 => 0
  | 10 => 0
  | 11 => 1
  | 12 => 1
  | 13 => 0
  | 14 => 1
  | 15 => 0
  | 16 => 0
  | 17 => 1
  | 18 => 2
  | 19 => 1
  | 20 => 0
  | 21 => 0
  | 22 => 1
  | 23 => 1
  | 24 => 4
  | 25 => 1
  | 26 => 1
  | 27 => 0
  | 28 => 4
  | 29 => 3
  | 30 => 2
  | 31 => 2
  | 32 => 2
  | 33 => 0
  | 34 => 0
  | 35 => 1
  | 36 => 3
  | 37 => 2
  | 38 => 0
  | 39 => 1
  | 40 => 0
  | 41 => 2
  | 42 => 2
  | 43 => 1
  | 44 => 1
  | 45 => 2
  | 46 => 2
  | 47 => 0
  | 48 => 0
  | 49 => 1
  | 50 => 1
  | 51 => 0
  | 52 => 2
  | 53 => 0
  | 54 => 0
  | 55 => 1
  | 56 => 0
  | 57 => 3
  | 58 => 3
  | 59 => 3
  | 60 => 5
  | 61 => 3
  | 62 => 3
  | 63 => 5
  | 64 => 3
  | 65 => 3
  | 66 => 2
  | 67 => 2
  | 68 => 1
  | 69 => 4
  | 70 => 3
  | 71 => 1
  | 72 => 4
  | 73 => 4
  | 74 => 4
  | 75 => 1
  | 76 => 3
  | 77 => 0
  | 78 => 1
  | 79 => 0
  | 80 => 7
  | 81 => 7
  | 82 => 2
  | 83 => 1
  | 84 => 0
  | 85 => 6
  | 86 => 0
  | 87 => 5
  | 88 => 0
  | 89 => 1
  | 90 => 0
  | 91 => 1
  | 92 => 0
  | 93 => 0
  | 94 => 1
  | 95 => 1
  | 96 => 1
  | 97 => 0
  | 98 => 0
  | 99 => 0
  | 100 => 0
  | 101 => 0
  | 102 => 0
  | 103 => 1
  | 104 => 1
  | 105 => 2
  | 106 => 2
  | 107 => 3
  | 108 => 1
  | 109 => 4
  | 110 => 5
  | 111 => 1
  | 112 => 1
  | 113 => 4
  | 114 => 1
  | 115 => 0
  | 116 => 1
  | 117 => 1
  | 118 => 1
  | 119 => 0
  | 120 => 6
  | 121 => 7
  | 122 => 1
  | 123 => 2
  | 124 => 5
  | 125 => 2
  | 126 => 1
  | 127 => 1
  | 128 => 2
  | 129 => 3
  | 130 => 6
  | 131 => 3
  | 132 => 2
  | 133 => 8
  | 134 => 0
  | 135 => 2
  | 136 => 1
  | 137 => 4
  | 138 => 2
  | 139 => 2
  | 140 => 3
  | 141 => 3
  | 142 => 1
  | 143 => 0
  | 144 => 5
  | 145 => 6
  | 146 => 2
  | 147 => 7
  | 148 => 7
  | 149 => 8
  | 150 => 2
  | 151 => 3
  | 152 => 4
  | 153 => 3
  | 154 => 1
  | 155 => 5
  | 156 => 1
  | 157 => 0
  | 158 => 0
  | 159 => 0
  | 160 => 1
  | 161 => 2
  | 162 => 6
  | 163 => 8
  | 164 => 9
  | 165 => 10
  | 166 => 10
  | 167 => 0
  | 168 => 1
  | 169 => 0
  | 170 => 0
  | 171 => 0
  | 172 => 0
  | 173 => 11
  | _ => 0
def mRk (mi : Nat) : Nat := match mi with
  | 0 => 0
  | 1 => 0
  | 2 => 0
  | 3 => 0
  | 4 => 1
  | 5 => 1
  | 6 => 0
  | 7 => 0
  | 8 => 0
  | 9 => 0
  | 10 => 0
  | 11 => 0
  | 12 => 0
  | 13 => 1
  | 14 => 0
  | 15 => 0
  | 16 => 0
  | 17 => 2
  | 18 => 0
  | 19 => 0
  | 20 => 2
  | 21 => 2
  | 22 => 1
  | 23 => 1
  | 24 => 1
  | 25 => 1
  | 26 => 1
  | 27 => 1
  | 28 => 1
  | 29 => 1
  | 30 => 0
  | 31 => 0
  | 32 => 1
  | 33 => 0
  | 34 => 0
  | 35 => 1
  | 36 => 1
  | 37 => 1
  | 38 => 1
  | 39 => 1
  | 40 => 1
  | 41 => 1
  | 42 => 1
  | 43 => 1
  | 44 => 1
  | 45 => 1
  | 46 => 1
  | 47 => 1
  | 48 => 1
  | 49 => 1
  | 50 => 0
  | 51 => 2
  | 52 => 2
  | 53 => 1
  | 54 => 2
  | 55 => 2
  | 56 => 2
  | 57 => 0
  | 58 => 1
  | 59 => 1
  | 60 => 1
  | 61 => 1
  | 62 => 1
  | 63 => 1
  | 64 => 1
  | 65 => 1
  | 66 => 1
  | 67 => 1
  | 68 => 1
  | 69 => 1
  | 70 => 1
  | 71 => 1
  | 72 => 1
  | 73 => 1
  | 74 => 1
  | 75 => 1
  | 76 => 1
  | 77 => 1
  | 78 => 1
  | 79 => 1
  | 80 => 1
  | 81 => 1
  | 82 => 3
  | 83 => 1
  | 84 => 0
  | 85 => 2
  | 86 => 0
  | 87 => 1
  | 88 => 2
  | 89 => 1
  | 90 => 1
  | 91 => 0
  | 92 => 2
  | 93 => 0
  | 94 => 0
  | 95 => 2
  | 96 => 2
  | 97 => 1
  | 98 => 0
  | 99 => 0
  | 100 => 1
  | 101 => 0
  | 102 => 0
  | 103 => 2
  | 104 => 2
  | 105 => 1
  | 106 => 1
  | 107 => 1
  | 108 => 1
  | 109 => 1
  | 110 => 1
  | 111 => 1
  | 112 => 1
  | 113 => 1
  | 114 => 1
  | 115 => 1
  | 116 => 0
  | 117 => 0
  | 118 => 1
  | 119 => 0
  | 120 => 1
  | 121 => 1
  | 122 => 1
  | 123 => 1
  | 124 => 1
  | 125 => 1
  | 126 => 1
  | 127 => 1
  | 128 => 1
  | 129 => 1
  | 130 => 1
  | 131 => 1
  | 132 => 1
  | 133 => 1
  | 134 => 1
  | 135 => 1
  | 136 => 1
  | 137 => 1
  | 138 => 1
  | 139 => 1
  | 140 => 1
  | 141 => 1
  | 142 => 1
  | 143 => 1
  | 144 => 1
  | 145 => 1
  | 146 => 1
  | 147 => 1
  | 148 => 1
  | 149 => 1
  | 150 => 1
  | 151 => 1
  | 152 => 1
  | 153 => 1
  | 154 => 1
  | 155 => 1
  | 156 => 1
  | 157 => 1
  | 158 => 1
  | 159 => 0
  | 160 => 0
  | 161 => 0
  | 162 => 1
  | 163 => 1
  | 164 => 1
  | 165 => 1
  | 166 => 1
  | 167 => 2
  | 168 => 1
  | 169 => 1
  | 170 => 1
  | 171 => 1
  | 172 => 1
  | 173 => 2
  | _ => 0
def mNam (mi : Nat) : MethodName := match mi with
  | 0 => ⟨"CoatedBridges$Book", "<init>", "()V"⟩
  | 1 => ⟨"CoatedBridges$Book", "copyFrom", "(LCoatedBridges$Book;)V"⟩
  | 2 => ⟨"CoatedBridges$Book", "note", "(II)V"⟩
  | 3 => ⟨"CoatedBridges$Book", "dropFirst", "()V"⟩
  | 4 => ⟨"CoatedBridges$Book", "dayAgo", "(I)I"⟩
  | 5 => ⟨"CoatedBridges$Book", "complaintsAgo", "(I)I"⟩
  | 6 => ⟨"CoatedBridges$Bridge", "<init>", "()V"⟩
  | 7 => ⟨"CoatedBridges$Bridge", "begin", "(III)V"⟩
  | 8 => ⟨"CoatedBridges$Bridge", "copyFrom", "(LCoatedBridges$Bridge;)V"⟩
  | 9 => ⟨"CoatedBridges$Bridge", "takeCrew", "()V"⟩
  | 10 => ⟨"CoatedBridges$Bridge", "loseCrew", "()V"⟩
  | 11 => ⟨"CoatedBridges$Bridge", "paint", "(II)V"⟩
  | 12 => ⟨"CoatedBridges$Bridge", "wearOff", "()V"⟩
  | 13 => ⟨"CoatedBridges$Bridge", "daysUntilRusted", "()I"⟩
  | 14 => ⟨"CoatedBridges$Island", "<init>", "()V"⟩
  | 15 => ⟨"CoatedBridges$Island", "begin", "(I)V"⟩
  | 16 => ⟨"CoatedBridges$Island", "copyFrom", "(LCoatedBridges$Island;)V"⟩
  | 17 => ⟨"CoatedBridges$Island", "waitAlone", "(I)Z"⟩
  | 18 => ⟨"CoatedBridges$State", "<init>", "()V"⟩
  | 19 => ⟨"CoatedBridges$State", "copyFrom", "(LCoatedBridges$State;)V"⟩
  | 20 => ⟨"CoatedBridges$State", "hasIsland", "(I)Z"⟩
  | 21 => ⟨"CoatedBridges$State", "hasBridge", "(I)Z"⟩
  | 22 => ⟨"CoatedBridges$State", "addIsland", "(I)I"⟩
  | 23 => ⟨"CoatedBridges$State", "addBridge", "(III)I"⟩
  | 24 => ⟨"CoatedBridges$State", "sendCrew", "(II)I"⟩
  | 25 => ⟨"CoatedBridges$State", "callBack", "(I)I"⟩
  | 26 => ⟨"CoatedBridges$State", "payIn", "(I)I"⟩
  | 27 => ⟨"CoatedBridges$State", "changeSetting", "(II)I"⟩
  | 28 => ⟨"CoatedBridges$State", "endDays", "(I)I"⟩
  | 29 => ⟨"CoatedBridges$State", "endDay", "()I"⟩
  | 30 => ⟨"CoatedBridges$State", "paintBridges", "()V"⟩
  | 31 => ⟨"CoatedBridges$State", "wearBridges", "(I)V"⟩
  | 32 => ⟨"CoatedBridges$State", "letIslandsWait", "()I"⟩
  | 33 => ⟨"CoatedBridges$State", "payFerry", "(LCoatedBridges$Island;)V"⟩
  | 34 => ⟨"CoatedBridges$State", "receive", "(I)V"⟩
  | 35 => ⟨"CoatedBridges$State", "freeCrews", "()I"⟩
  | 36 => ⟨"CoatedBridges$State", "reasonAgainst", "(I)I"⟩
  | 37 => ⟨"CoatedBridges$State", "bridgeToPaintNext", "()I"⟩
  | 38 => ⟨"CoatedBridges$State", "bridgesThatAre", "(I)I"⟩
  | 39 => ⟨"CoatedBridges$State", "reachFrom", "(II)I"⟩
  | 40 => ⟨"CoatedBridges$State", "oneBridgeOn", "(II)I"⟩
  | 41 => ⟨"CoatedBridges$State", "lostWithout", "(I)I"⟩
  | 42 => ⟨"CoatedBridges$State", "neededBridges", "()I"⟩
  | 43 => ⟨"CoatedBridges$State", "bridgesTo", "(I)I"⟩
  | 44 => ⟨"CoatedBridges$State", "openBridgesAt", "(I)I"⟩
  | 45 => ⟨"CoatedBridges$State", "groups", "()I"⟩
  | 46 => ⟨"CoatedBridges$State", "lowestOnes", "()I"⟩
  | 47 => ⟨"CoatedBridges$State", "coatsTogether", "()I"⟩
  | 48 => ⟨"CoatedBridges$State", "complaintsSoFar", "()I"⟩
  | 49 => ⟨"CoatedBridges$State", "longestWaitSoFar", "()I"⟩
  | 50 => ⟨"CoatedBridges$Text", "<init>", "()V"⟩
  | 51 => ⟨"CoatedBridges$Text", "append", "(C)Z"⟩
  | 52 => ⟨"CoatedBridges$Text", "readOrder", "(I)Z"⟩
  | 53 => ⟨"CoatedBridges$Text", "numbersOf", "(C)I"⟩
  | 54 => ⟨"CoatedBridges$Text", "take", "(C)Z"⟩
  | 55 => ⟨"CoatedBridges$Text", "readNumber", "(I)Z"⟩
  | 56 => ⟨"CoatedBridges$Text", "atDigit", "()Z"⟩
  | 57 => ⟨"CoatedBridges", "<init>", "()V"⟩
  | 58 => ⟨"CoatedBridges", "island", "(I)I"⟩
  | 59 => ⟨"CoatedBridges", "bridge", "(III)I"⟩
  | 60 => ⟨"CoatedBridges", "send", "(II)I"⟩
  | 61 => ⟨"CoatedBridges", "recall", "(I)I"⟩
  | 62 => ⟨"CoatedBridges", "pay", "(I)I"⟩
  | 63 => ⟨"CoatedBridges", "days", "(I)I"⟩
  | 64 => ⟨"CoatedBridges", "set", "(II)I"⟩
  | 65 => ⟨"CoatedBridges", "bridgeOf", "(II)I"⟩
  | 66 => ⟨"CoatedBridges", "islandOf", "(II)I"⟩
  | 67 => ⟨"CoatedBridges", "reach", "(I)I"⟩
  | 68 => ⟨"CoatedBridges", "book", "(II)I"⟩
  | 69 => ⟨"CoatedBridges", "why", "(II)I"⟩
  | 70 => ⟨"CoatedBridges", "best", "()I"⟩
  | 71 => ⟨"CoatedBridges", "rustsIn", "(I)I"⟩
  | 72 => ⟨"CoatedBridges", "paintedIn", "(I)I"⟩
  | 73 => ⟨"CoatedBridges", "aloneIn", "()I"⟩
  | 74 => ⟨"CoatedBridges", "ifDays", "(I)I"⟩
  | 75 => ⟨"CoatedBridges", "mean", "()I"⟩
  | 76 => ⟨"CoatedBridges", "count", "(I)I"⟩
  | 77 => ⟨"CoatedBridges", "undo", "()I"⟩
  | 78 => ⟨"CoatedBridges", "type", "(I)I"⟩
  | 79 => ⟨"CoatedBridges", "clearText", "()I"⟩
  | 80 => ⟨"CoatedBridges", "fault", "(I)I"⟩
  | 81 => ⟨"CoatedBridges", "play", "()I"⟩
  | 82 => ⟨"CoatedBridges", "startTrial", "()LCoatedBridges$State;"⟩
  | 83 => ⟨"CoatedBridges", "settle", "(I)I"⟩
  | 84 => ⟨"CoatedBridges", "dropOldest", "()V"⟩
  | 85 => ⟨"CoatedBridges", "obeyText", "(LCoatedBridges$State;)Z"⟩
  | 86 => ⟨"CoatedBridges", "noteFault", "(III)V"⟩
  | 87 => ⟨"CoatedBridges", "obeyOrder", "(LCoatedBridges$State;)I"⟩
  | 88 => ⟨"CoatedBridges", "holds", "(II)Z"⟩
  | 89 => ⟨"CoatedBridges", "lowestIn", "(I)I"⟩
  | 90 => ⟨"CoatedBridges", "bitsOf", "(F)I"⟩
  | 91 => ⟨"CoatedBridgesModel", "<init>", "()V"⟩
  | 92 => ⟨"CoatedBridgesModel", "in", "(III)Z"⟩
  | 93 => ⟨"CoatedBridgesModel", "copies", "([II[II)V"⟩
  | 94 => ⟨"CoatedBridgesModel", "records", "()V"⟩
  | 95 => ⟨"CoatedBridgesModel", "isIsland", "(I)Z"⟩
  | 96 => ⟨"CoatedBridgesModel", "isBridge", "(I)Z"⟩
  | 97 => ⟨"CoatedBridgesModel", "of", "(II)I"⟩
  | 98 => ⟨"CoatedBridgesModel", "lays", "(III)V"⟩
  | 99 => ⟨"CoatedBridgesModel", "adds", "(III)V"⟩
  | 100 => ⟨"CoatedBridgesModel", "ofIsland", "(II)I"⟩
  | 101 => ⟨"CoatedBridgesModel", "laysIsland", "(III)V"⟩
  | 102 => ⟨"CoatedBridgesModel", "addsIsland", "(II)V"⟩
  | 103 => ⟨"CoatedBridgesModel", "isPainted", "(I)Z"⟩
  | 104 => ⟨"CoatedBridgesModel", "isOpen", "(I)Z"⟩
  | 105 => ⟨"CoatedBridgesModel", "stateOf", "(I)I"⟩
  | 106 => ⟨"CoatedBridgesModel", "reached", "(II)I"⟩
  | 107 => ⟨"CoatedBridgesModel", "cutOff", "(I)I"⟩
  | 108 => ⟨"CoatedBridgesModel", "painted", "()I"⟩
  | 109 => ⟨"CoatedBridgesModel", "reasonOf", "(I)I"⟩
  | 110 => ⟨"CoatedBridgesModel", "bestOne", "()I"⟩
  | 111 => ⟨"CoatedBridgesModel", "goIsland", "(I)I"⟩
  | 112 => ⟨"CoatedBridgesModel", "goBridge", "(III)I"⟩
  | 113 => ⟨"CoatedBridgesModel", "goSend", "(I)I"⟩
  | 114 => ⟨"CoatedBridgesModel", "goRecall", "(I)I"⟩
  | 115 => ⟨"CoatedBridgesModel", "goPay", "(I)I"⟩
  | 116 => ⟨"CoatedBridgesModel", "paints", "(I)V"⟩
  | 117 => ⟨"CoatedBridgesModel", "wears", "(I)V"⟩
  | 118 => ⟨"CoatedBridgesModel", "waits", "(IZ)I"⟩
  | 119 => ⟨"CoatedBridgesModel", "books", "(I)V"⟩
  | 120 => ⟨"CoatedBridgesModel", "endsDay", "()I"⟩
  | 121 => ⟨"CoatedBridgesModel", "endsDays", "(I)I"⟩
  | 122 => ⟨"CoatedBridgesModel", "errorIsland", "(I)I"⟩
  | 123 => ⟨"CoatedBridgesModel", "errorBridge", "(III)I"⟩
  | 124 => ⟨"CoatedBridgesModel", "errorSend", "(II)I"⟩
  | 125 => ⟨"CoatedBridgesModel", "errorRecall", "(I)I"⟩
  | 126 => ⟨"CoatedBridgesModel", "errorPay", "(I)I"⟩
  | 127 => ⟨"CoatedBridgesModel", "errorDays", "(I)I"⟩
  | 128 => ⟨"CoatedBridgesModel", "island", "(I)I"⟩
  | 129 => ⟨"CoatedBridgesModel", "bridge", "(III)I"⟩
  | 130 => ⟨"CoatedBridgesModel", "send", "(II)I"⟩
  | 131 => ⟨"CoatedBridgesModel", "recall", "(I)I"⟩
  | 132 => ⟨"CoatedBridgesModel", "pay", "(I)I"⟩
  | 133 => ⟨"CoatedBridgesModel", "days", "(I)I"⟩
  | 134 => ⟨"CoatedBridgesModel", "mostOf", "(I)I"⟩
  | 135 => ⟨"CoatedBridgesModel", "set", "(II)I"⟩
  | 136 => ⟨"CoatedBridgesModel", "undo", "()I"⟩
  | 137 => ⟨"CoatedBridgesModel", "bridgeOf", "(II)I"⟩
  | 138 => ⟨"CoatedBridgesModel", "openAt", "(I)I"⟩
  | 139 => ⟨"CoatedBridgesModel", "fewestTo", "(I)I"⟩
  | 140 => ⟨"CoatedBridgesModel", "islandOf", "(II)I"⟩
  | 141 => ⟨"CoatedBridgesModel", "reach", "(I)I"⟩
  | 142 => ⟨"CoatedBridgesModel", "book", "(II)I"⟩
  | 143 => ⟨"CoatedBridgesModel", "lowest", "(I)I"⟩
  | 144 => ⟨"CoatedBridgesModel", "why", "(II)I"⟩
  | 145 => ⟨"CoatedBridgesModel", "best", "()I"⟩
  | 146 => ⟨"CoatedBridgesModel", "rustsIn", "(I)I"⟩
  | 147 => ⟨"CoatedBridgesModel", "paintedIn", "(I)I"⟩
  | 148 => ⟨"CoatedBridgesModel", "aloneIn", "()I"⟩
  | 149 => ⟨"CoatedBridgesModel", "ifDays", "(I)I"⟩
  | 150 => ⟨"CoatedBridgesModel", "mean", "()I"⟩
  | 151 => ⟨"CoatedBridgesModel", "setOf", "(I)I"⟩
  | 152 => ⟨"CoatedBridgesModel", "neededOnes", "()I"⟩
  | 153 => ⟨"CoatedBridgesModel", "groups", "()I"⟩
  | 154 => ⟨"CoatedBridgesModel", "ofIslands", "(IZ)I"⟩
  | 155 => ⟨"CoatedBridgesModel", "count", "(I)I"⟩
  | 156 => ⟨"CoatedBridgesModel", "type", "(I)I"⟩
  | 157 => ⟨"CoatedBridgesModel", "clearText", "()I"⟩
  | 158 => ⟨"CoatedBridgesModel", "here", "()I"⟩
  | 159 => ⟨"CoatedBridgesModel", "takes", "(Z)V"⟩
  | 160 => ⟨"CoatedBridgesModel", "takesNumber", "(I)V"⟩
  | 161 => ⟨"CoatedBridgesModel", "takesOrder", "()V"⟩
  | 162 => ⟨"CoatedBridgesModel", "errorOfOrder", "()I"⟩
  | 163 => ⟨"CoatedBridgesModel", "doesOrder", "()I"⟩
  | 164 => ⟨"CoatedBridgesModel", "doesAll", "()I"⟩
  | 165 => ⟨"CoatedBridgesModel", "fault", "(I)I"⟩
  | 166 => ⟨"CoatedBridgesModel", "play", "()I"⟩
  | 167 => ⟨"java/lang/Float", "isNaN", "(F)Z"⟩
  | 168 => ⟨"java/lang/Float", "floatToIntBits", "(F)I"⟩
  | 169 => ⟨"java/lang/Integer", "numberOfTrailingZeros", "(I)I"⟩
  | 170 => ⟨"java/lang/Integer", "bitCount", "(I)I"⟩
  | 171 => ⟨"java/lang/Math", "max", "(II)I"⟩
  | 172 => ⟨"java/lang/Math", "min", "(II)I"⟩
  | 173 => ⟨"CoatedBridgesLaw", "law", "([I)Z"⟩
  | _ => ⟨"", "", ""⟩
def mByt (mi : Nat) : ByteArray := match mi with
  | 0 => prog_2_method_1_code
  | 1 => prog_2_method_2_code
  | 2 => prog_2_method_3_code
  | 3 => prog_2_method_4_code
  | 4 => prog_2_method_5_code
  | 5 => prog_2_method_6_code
  | 6 => prog_3_method_1_code
  | 7 => prog_3_method_2_code
  | 8 => prog_3_method_3_code
  | 9 => prog_3_method_4_code
  | 10 => prog_3_method_5_code
  | 11 => prog_3_method_6_code
  | 12 => prog_3_method_7_code
  | 13 => prog_3_method_8_code
  | 14 => prog_4_method_1_code
  | 15 => prog_4_method_2_code
  | 16 => prog_4_method_3_code
  | 17 => prog_4_method_4_code
  | 18 => prog_5_method_1_code
  | 19 => prog_5_method_2_code
  | 20 => prog_5_method_3_code
  | 21 => prog_5_method_4_code
  | 22 => prog_5_method_5_code
  | 23 => prog_5_method_6_code
  | 24 => prog_5_method_7_code
  | 25 => prog_5_method_8_code
  | 26 => prog_5_method_9_code
  | 27 => prog_5_method_10_code
  | 28 => prog_5_method_11_code
  | 29 => prog_5_method_12_code
  | 30 => prog_5_method_13_code
  | 31 => prog_5_method_14_code
  | 32 => prog_5_method_15_code
  | 33 => prog_5_method_16_code
  | 34 => prog_5_method_17_code
  | 35 => prog_5_method_18_code
  | 36 => prog_5_method_19_code
  | 37 => prog_5_method_20_code
  | 38 => prog_5_method_21_code
  | 39 => prog_5_method_22_code
  | 40 => prog_5_method_23_code
  | 41 => prog_5_method_24_code
  | 42 => prog_5_method_25_code
  | 43 => prog_5_method_26_code
  | 44 => prog_5_method_27_code
  | 45 => prog_5_method_28_code
  | 46 => prog_5_method_29_code
  | 47 => prog_5_method_30_code
  | 48 => prog_5_method_31_code
  | 49 => prog_5_method_32_code
  | 50 => prog_6_method_1_code
  | 51 => prog_6_method_2_code
  | 52 => prog_6_method_3_code
  | 53 => prog_6_method_4_code
  | 54 => prog_6_method_5_code
  | 55 => prog_6_method_6_code
  | 56 => prog_6_method_7_code
  | 57 => prog_1_method_1_code
  | 58 => prog_1_method_2_code
  | 59 => prog_1_method_3_code
  | 60 => prog_1_method_4_code
  | 61 => prog_1_method_5_code
  | 62 => prog_1_method_6_code
  | 63 => prog_1_method_7_code
  | 64 => prog_1_method_8_code
  | 65 => prog_1_method_9_code
  | 66 => prog_1_method_10_code
  | 67 => prog_1_method_11_code
  | 68 => prog_1_method_12_code
  | 69 => prog_1_method_13_code
  | 70 => prog_1_method_14_code
  | 71 => prog_1_method_15_code
  | 72 => prog_1_method_16_code
  | 73 => prog_1_method_17_code
  | 74 => prog_1_method_18_code
  | 75 => prog_1_method_19_code
  | 76 => prog_1_method_20_code
  | 77 => prog_1_method_21_code
  | 78 => prog_1_method_22_code
  | 79 => prog_1_method_23_code
  | 80 => prog_1_method_24_code
  | 81 => prog_1_method_25_code
  | 82 => prog_1_method_26_code
  | 83 => prog_1_method_27_code
  | 84 => prog_1_method_28_code
  | 85 => prog_1_method_29_code
  | 86 => prog_1_method_30_code
  | 87 => prog_1_method_31_code
  | 88 => prog_1_method_32_code
  | 89 => prog_1_method_33_code
  | 90 => prog_1_method_34_code
  | 91 => prog_8_method_1_code
  | 92 => prog_8_method_3_code
  | 93 => prog_8_method_4_code
  | 94 => prog_8_method_5_code
  | 95 => prog_8_method_6_code
  | 96 => prog_8_method_7_code
  | 97 => prog_8_method_8_code
  | 98 => prog_8_method_9_code
  | 99 => prog_8_method_10_code
  | 100 => prog_8_method_11_code
  | 101 => prog_8_method_12_code
  | 102 => prog_8_method_13_code
  | 103 => prog_8_method_14_code
  | 104 => prog_8_method_15_code
  | 105 => prog_8_method_16_code
  | 106 => prog_8_method_17_code
  | 107 => prog_8_method_18_code
  | 108 => prog_8_method_19_code
  | 109 => prog_8_method_20_code
  | 110 => prog_8_method_21_code
  | 111 => prog_8_method_22_code
  | 112 => prog_8_method_23_code
  | 113 => prog_8_method_24_code
  | 114 => prog_8_method_25_code
  | 115 => prog_8_method_26_code
  | 116 => prog_8_method_27_code
  | 117 => prog_8_method_28_code
  | 118 => prog_8_method_29_code
  | 119 => prog_8_method_30_code
  | 120 => prog_8_method_31_code
  | 121 => prog_8_method_32_code
  | 122 => prog_8_method_33_code
  | 123 => prog_8_method_34_code
  | 124 => prog_8_method_35_code
  | 125 => prog_8_method_36_code
  | 126 => prog_8_method_37_code
  | 127 => prog_8_method_38_code
  | 128 => prog_8_method_39_code
  | 129 => prog_8_method_40_code
  | 130 => prog_8_method_41_code
  | 131 => prog_8_method_42_code
  | 132 => prog_8_method_43_code
  | 133 => prog_8_method_44_code
  | 134 => prog_8_method_45_code
  | 135 => prog_8_method_46_code
  | 136 => prog_8_method_47_code
  | 137 => prog_8_method_48_code
  | 138 => prog_8_method_49_code
  | 139 => prog_8_method_50_code
  | 140 => prog_8_method_51_code
  | 141 => prog_8_method_52_code
  | 142 => prog_8_method_53_code
  | 143 => prog_8_method_54_code
  | 144 => prog_8_method_55_code
  | 145 => prog_8_method_56_code
  | 146 => prog_8_method_57_code
  | 147 => prog_8_method_58_code
  | 148 => prog_8_method_59_code
  | 149 => prog_8_method_60_code
  | 150 => prog_8_method_61_code
  | 151 => prog_8_method_62_code
  | 152 => prog_8_method_63_code
  | 153 => prog_8_method_64_code
  | 154 => prog_8_method_65_code
  | 155 => prog_8_method_66_code
  | 156 => prog_8_method_67_code
  | 157 => prog_8_method_68_code
  | 158 => prog_8_method_69_code
  | 159 => prog_8_method_70_code
  | 160 => prog_8_method_71_code
  | 161 => prog_8_method_72_code
  | 162 => prog_8_method_73_code
  | 163 => prog_8_method_74_code
  | 164 => prog_8_method_75_code
  | 165 => prog_8_method_76_code
  | 166 => prog_8_method_77_code
  | 167 => prog_10_method_6_code
  | 168 => prog_10_method_24_code
  | 169 => prog_11_method_48_code
  | 170 => prog_11_method_49_code
  | 171 => prog_12_method_65_code
  | 172 => prog_12_method_69_code
  | 173 => code
  | _ => code
def mRet (mi : Nat) : Option FieldType := match mi with
  | 0 => (Option.none : Option Jvm.ClassFile.FieldType)
  | 1 => (Option.none : Option Jvm.ClassFile.FieldType)
  | 2 => (Option.none : Option Jvm.ClassFile.FieldType)
  | 3 => (Option.none : Option Jvm.ClassFile.FieldType)
  | 4 => (Option.some Jvm.ClassFile.FieldType.int)
  | 5 => (Option.some Jvm.ClassFile.FieldType.int)
  | 6 => (Option.none : Option Jvm.ClassFile.FieldType)
  | 7 => (Option.none : Option Jvm.ClassFile.FieldType)
  | 8 => (Option.none : Option Jvm.ClassFile.FieldType)
  | 9 => (Option.none : Option Jvm.ClassFile.FieldType)
  | 10 => (Option.none : Option Jvm.ClassFile.FieldType)
  | 11 => (Option.none : Option Jvm.ClassFile.FieldType)
  | 12 => (Option.none : Option Jvm.ClassFile.FieldType)
  | 13 => (Option.some Jvm.ClassFile.FieldType.int)
  | 14 => (Option.none : Option Jvm.ClassFile.FieldType)
  | 15 => (Option.none : Option Jvm.ClassFile.FieldType)
  | 16 => (Option.none : Option Jvm.ClassFile.FieldType)
  | 17 => (Option.some Jvm.ClassFile.FieldType.boolean)
  | 18 => (Option.none : Option Jvm.ClassFile.FieldType)
  | 19 => (Option.none : Option Jvm.ClassFile.FieldType)
  | 20 => (Option.some Jvm.ClassFile.FieldType.boolean)
  | 21 => (Option.some Jvm.ClassFile.FieldType.boolean)
  | 22 => (Option.some Jvm.ClassFile.FieldType.int)
  | 23 => (Option.some Jvm.ClassFile.FieldType.int)
  | 24 => (Option.some Jvm.ClassFile.FieldType.int)
  | 25 => (Option.some Jvm.ClassFile.FieldType.int)
  | 26 => (Option.some Jvm.ClassFile.FieldType.int)
  | 27 => (Option.some Jvm.ClassFile.FieldType.int)
  | 28 => (Option.some Jvm.ClassFile.FieldType.int)
  | 29 => (Option.some Jvm.ClassFile.FieldType.int)
  | 30 => (Option.none : Option Jvm.ClassFile.FieldType)
  | 31 => (Option.none : Option Jvm.ClassFile.FieldType)
  | 32 => (Option.some Jvm.ClassFile.FieldType.int)
  | 33 => (Option.none : Option Jvm.ClassFile.FieldType)
  | 34 => (Option.none : Option Jvm.ClassFile.FieldType)
  | 35 => (Option.some Jvm.ClassFile.FieldType.int)
  | 36 => (Option.some Jvm.ClassFile.FieldType.int)
  | 37 => (Option.some Jvm.ClassFile.FieldType.int)
  | 38 => (Option.some Jvm.ClassFile.FieldType.int)
  | 39 => (Option.some Jvm.ClassFile.FieldType.int)
  | 40 => (Option.some Jvm.ClassFile.FieldType.int)
  | 41 => (Option.some Jvm.ClassFile.FieldType.int)
  | 42 => (Option.some Jvm.ClassFile.FieldType.int)
  | 43 => (Option.some Jvm.ClassFile.FieldType.int)
  | 44 => (Option.some Jvm.ClassFile.FieldType.int)
  | 45 => (Option.some Jvm.ClassFile.FieldType.int)
  | 46 => (Option.some Jvm.ClassFile.FieldType.int)
  | 47 => (Option.some Jvm.ClassFile.FieldType.int)
  | 48 => (Option.some Jvm.ClassFile.FieldType.int)
  | 49 => (Option.some Jvm.ClassFile.FieldType.int)
  | 50 => (Option.none : Option Jvm.ClassFile.FieldType)
  | 51 => (Option.some Jvm.ClassFile.FieldType.boolean)
  | 52 => (Option.some Jvm.ClassFile.FieldType.boolean)
  | 53 => (Option.some Jvm.ClassFile.FieldType.int)
  | 54 => (Option.some Jvm.ClassFile.FieldType.boolean)
  | 55 => (Option.some Jvm.ClassFile.FieldType.boolean)
  | 56 => (Option.some Jvm.ClassFile.FieldType.boolean)
  | 57 => (Option.none : Option Jvm.ClassFile.FieldType)
  | 58 => (Option.some Jvm.ClassFile.FieldType.int)
  | 59 => (Option.some Jvm.ClassFile.FieldType.int)
  | 60 => (Option.some Jvm.ClassFile.FieldType.int)
  | 61 => (Option.some Jvm.ClassFile.FieldType.int)
  | 62 => (Option.some Jvm.ClassFile.FieldType.int)
  | 63 => (Option.some Jvm.ClassFile.FieldType.int)
  | 64 => (Option.some Jvm.ClassFile.FieldType.int)
  | 65 => (Option.some Jvm.ClassFile.FieldType.int)
  | 66 => (Option.some Jvm.ClassFile.FieldType.int)
  | 67 => (Option.some Jvm.ClassFile.FieldType.int)
  | 68 => (Option.some Jvm.ClassFile.FieldType.int)
  | 69 => (Option.some Jvm.ClassFile.FieldType.int)
  | 70 => (Option.some Jvm.ClassFile.FieldType.int)
  | 71 => (Option.some Jvm.ClassFile.FieldType.int)
  | 72 => (Option.some Jvm.ClassFile.FieldType.int)
  | 73 => (Option.some Jvm.ClassFile.FieldType.int)
  | 74 => (Option.some Jvm.ClassFile.FieldType.int)
  | 75 => (Option.some Jvm.ClassFile.FieldType.int)
  | 76 => (Option.some Jvm.ClassFile.FieldType.int)
  | 77 => (Option.some Jvm.ClassFile.FieldType.int)
  | 78 => (Option.some Jvm.ClassFile.FieldType.int)
  | 79 => (Option.some Jvm.ClassFile.FieldType.int)
  | 80 => (Option.some Jvm.ClassFile.FieldType.int)
  | 81 => (Option.some Jvm.ClassFile.FieldType.int)
  | 82 => (Option.some (Jvm.ClassFile.FieldType.object "CoatedBridges$State"))
  | 83 => (Option.some Jvm.ClassFile.FieldType.int)
  | 84 => (Option.none : Option Jvm.ClassFile.FieldType)
  | 85 => (Option.some Jvm.ClassFile.FieldType.boolean)
  | 86 => (Option.none : Option Jvm.ClassFile.FieldType)
  | 87 => (Option.some Jvm.ClassFile.FieldType.int)
  | 88 => (Option.some Jvm.ClassFile.FieldType.boolean)
  | 89 => (Option.some Jvm.ClassFile.FieldType.int)
  | 90 => (Option.some Jvm.ClassFile.FieldType.int)
  | 91 => (Option.none : Option Jvm.ClassFile.FieldType)
  | 92 => (Option.some Jvm.ClassFile.FieldType.boolean)
  | 93 => (Option.none : Option Jvm.ClassFile.FieldType)
  | 94 => (Option.none : Option Jvm.ClassFile.FieldType)
  | 95 => (Option.some Jvm.ClassFile.FieldType.boolean)
  | 96 => (Option.some Jvm.ClassFile.FieldType.boolean)
  | 97 => (Option.some Jvm.ClassFile.FieldType.int)
  | 98 => (Option.none : Option Jvm.ClassFile.FieldType)
  | 99 => (Option.none : Option Jvm.ClassFile.FieldType)
  | 100 => (Option.some Jvm.ClassFile.FieldType.int)
  | 101 => (Option.none : Option Jvm.ClassFile.FieldType)
  | 102 => (Option.none : Option Jvm.ClassFile.FieldType)
  | 103 => (Option.some Jvm.ClassFile.FieldType.boolean)
  | 104 => (Option.some Jvm.ClassFile.FieldType.boolean)
  | 105 => (Option.some Jvm.ClassFile.FieldType.int)
  | 106 => (Option.some Jvm.ClassFile.FieldType.int)
  | 107 => (Option.some Jvm.ClassFile.FieldType.int)
  | 108 => (Option.some Jvm.ClassFile.FieldType.int)
  | 109 => (Option.some Jvm.ClassFile.FieldType.int)
  | 110 => (Option.some Jvm.ClassFile.FieldType.int)
  | 111 => (Option.some Jvm.ClassFile.FieldType.int)
  | 112 => (Option.some Jvm.ClassFile.FieldType.int)
  | 113 => (Option.some Jvm.ClassFile.FieldType.int)
  | 114 => (Option.some Jvm.ClassFile.FieldType.int)
  | 115 => (Option.some Jvm.ClassFile.FieldType.int)
  | 116 => (Option.none : Option Jvm.ClassFile.FieldType)
  | 117 => (Option.none : Option Jvm.ClassFile.FieldType)
  | 118 => (Option.some Jvm.ClassFile.FieldType.int)
  | 119 => (Option.none : Option Jvm.ClassFile.FieldType)
  | 120 => (Option.some Jvm.ClassFile.FieldType.int)
  | 121 => (Option.some Jvm.ClassFile.FieldType.int)
  | 122 => (Option.some Jvm.ClassFile.FieldType.int)
  | 123 => (Option.some Jvm.ClassFile.FieldType.int)
  | 124 => (Option.some Jvm.ClassFile.FieldType.int)
  | 125 => (Option.some Jvm.ClassFile.FieldType.int)
  | 126 => (Option.some Jvm.ClassFile.FieldType.int)
  | 127 => (Option.some Jvm.ClassFile.FieldType.int)
  | 128 => (Option.some Jvm.ClassFile.FieldType.int)
  | 129 => (Option.some Jvm.ClassFile.FieldType.int)
  | 130 => (Option.some Jvm.ClassFile.FieldType.int)
  | 131 => (Option.some Jvm.ClassFile.FieldType.int)
  | 132 => (Option.some Jvm.ClassFile.FieldType.int)
  | 133 => (Option.some Jvm.ClassFile.FieldType.int)
  | 134 => (Option.some Jvm.ClassFile.FieldType.int)
  | 135 => (Option.some Jvm.ClassFile.FieldType.int)
  | 136 => (Option.some Jvm.ClassFile.FieldType.int)
  | 137 => (Option.some Jvm.ClassFile.FieldType.int)
  | 138 => (Option.some Jvm.ClassFile.FieldType.int)
  | 139 => (Option.some Jvm.ClassFile.FieldType.int)
  | 140 => (Option.some Jvm.ClassFile.FieldType.int)
  | 141 => (Option.some Jvm.ClassFile.FieldType.int)
  | 142 => (Option.some Jvm.ClassFile.FieldType.int)
  | 143 => (Option.some Jvm.ClassFile.FieldType.int)
  | 144 => (Option.some Jvm.ClassFile.FieldType.int)
  | 145 => (Option.some Jvm.ClassFile.FieldType.int)
  | 146 => (Option.some Jvm.ClassFile.FieldType.int)
  | 147 => (Option.some Jvm.ClassFile.FieldType.int)
  | 148 => (Option.some Jvm.ClassFile.FieldType.int)
  | 149 => (Option.some Jvm.ClassFile.FieldType.int)
  | 150 => (Option.some Jvm.ClassFile.FieldType.int)
  | 151 => (Option.some Jvm.ClassFile.FieldType.int)
  | 152 => (Option.some Jvm.ClassFile.FieldType.int)
  | 153 => (Option.some Jvm.ClassFile.FieldType.int)
  | 154 => (Option.some Jvm.ClassFile.FieldType.int)
  | 155 => (Option.some Jvm.ClassFile.FieldType.int)
  | 156 => (Option.some Jvm.ClassFile.FieldType.int)
  | 157 => (Option.some Jvm.ClassFile.FieldType.int)
  | 158 => (Option.some Jvm.ClassFile.FieldType.int)
  | 159 => (Option.none : Option Jvm.ClassFile.FieldType)
  | 160 => (Option.none : Option Jvm.ClassFile.FieldType)
  | 161 => (Option.none : Option Jvm.ClassFile.FieldType)
  | 162 => (Option.some Jvm.ClassFile.FieldType.int)
  | 163 => (Option.some Jvm.ClassFile.FieldType.int)
  | 164 => (Option.some Jvm.ClassFile.FieldType.int)
  | 165 => (Option.some Jvm.ClassFile.FieldType.int)
  | 166 => (Option.some Jvm.ClassFile.FieldType.int)
  | 167 => (Option.some Jvm.ClassFile.FieldType.boolean)
  | 168 => (Option.some Jvm.ClassFile.FieldType.int)
  | 169 => (Option.some Jvm.ClassFile.FieldType.int)
  | 170 => (Option.some Jvm.ClassFile.FieldType.int)
  | 171 => (Option.some Jvm.ClassFile.FieldType.int)
  | 172 => (Option.some Jvm.ClassFile.FieldType.int)
  | 173 => ((Option.some (Jvm.ClassFile.FieldType.boolean)))
  | _ => none
/-- own class, pool entry, class and field (100 * class + number), the place of its word -/
def lkF_0 : List (Nat × Nat × Nat × Nat) := [(0, 9, 0, 108), (0, 15, 1, 109), (0, 18, 2, 110), (1, 9, 100, 156), (1, 15, 101, 158), (1, 18, 102, 160), (1, 21, 103, 162), (1, 24, 104, 164), (1, 27, 105, 167), (1, 30, 106, 170), (1, 33, 107, 172), (1, 36, 108, 175), (2, 7, 200, 125), (2, 13, 201, 128), (2, 16, 202, 131), (2, 19, 203, 134), (2, 22, 204, 137), (3, 11, 300, 196), (3, 19, 301, 198), (3, 32, 302, 200), (3, 38, 303, 202), (3, 42, 304, 204), (3, 46, 307, 210), (3, 55, 305, 206), (3, 64, 306, 208), (3, 67, 308, 212), (3, 70, 309, 214), (3, 73, 310, 216), (3, 103, 105, 168), (3, 109, 104, 165), (3, 155, 107, 174), (3, 162, 201, 130), (3, 165, 200, 127), (3, 174, 204, 139), (3, 194, 102, 161), (3, 200, 203, 136), (3, 203, 202, 133), (4, 9, 400, 248), (4, 15, 402, 251), (4, 19, 401, 249), (4, 23, 404, 255), (4, 26, 403, 253), (5, 10, 500, 269), (5, 16, 501, 270), (5, 19, 502, 271), (5, 26, 504, 273), (5, 66, 301, 199), (5, 70, 100, 157), (5, 76, 101, 159), (5, 79, 103, 163), (5, 82, 104, 166), (5, 85, 105, 169), (5, 88, 106, 171), (5, 91, 107, 173), (5, 94, 108, 176), (5, 108, 300, 197), (5, 115, 201, 129), (5, 120, 200, 126), (5, 123, 203, 135), (5, 126, 202, 132)]
def lkF_1 : List (Nat × Nat × Nat × Nat) := [(5, 129, 204, 138), (5, 138, 303, 203), (5, 170, 305, 207), (5, 180, 302, 201), (5, 184, 306, 209), (5, 187, 304, 205), (5, 208, 307, 211), (5, 211, 308, 213), (5, 212, 309, 215), (5, 215, 310, 217), (5, 218, 2, 111), (5, 221, 503, 272), (5, 224, 401, 250), (5, 234, 506, 275), (5, 237, 507, 276), (5, 240, 508, 277), (5, 243, 505, 274), (5, 256, 404, 256), (5, 267, 402, 252), (5, 270, 403, 254), (6, 7, 600, 684), (6, 13, 601, 685), (6, 16, 602, 686), (6, 19, 603, 687), (6, 22, 605, 689), (6, 25, 607, 691), (6, 29, 612, 696), (6, 32, 604, 688), (6, 190, 606, 690), (6, 193, 608, 692), (6, 196, 610, 694), (6, 203, 609, 693), (6, 206, 611, 695), (6, 216, 613, 697), (6, 225, 614, 698)]
def lkF : List (Nat × Nat × Nat × Nat) := lkF_0 ++ (lkF_1)
/-- own class, pool entry, constant, place -/
def lkK : List (Nat × Nat × Int × Nat) := [(0, 25, -1000004, 541), (3, 76, -1000001, 325), (3, 77, -1000003, 326), (3, 96, -1000002, 400), (3, 112, 999999, 425), (3, 190, -1000004, 491), (5, 65, -1000001, 509), (5, 159, -1000004, 559), (5, 163, -1000002, 569), (5, 229, -1000003, 634), (6, 55, -1000004, 811), (6, 110, -1000001, 742), (6, 111, -1000003, 743), (6, 118, -1000002, 820), (6, 119, 999999, 849), (10, 77, 2143289344, 978), (8, 264, 65536, 558), (8, 265, 1431655765, 382), (8, 266, 858993459, 383), (8, 267, 252645135, 384)]
def lkFK : List (Nat × Nat × Nat × Nat) := [(5, 279, 1258291200, 598)]
def lkA : List (Nat × Nat × Nat × Nat) := [(3, 9, 13, 89), (3, 17, 14, 91), (5, 7, 15, 83)]
def lkN : List (Nat × Nat × Nat × Nat × Nat × Nat) := [(3, 35, 0, 102, 103, 67), (3, 9, 2, 89, 120, 68), (3, 17, 1, 91, 151, 69), (5, 7, 3, 83, 84, 66), (5, 23, 4, 242, 243, 70), (7, 7, 5, 75, 76, 65), (7, 10, 6, 678, 679, 71)]
def lkO : List (Nat × Nat × Nat) := [(0, 3, 107), (1, 3, 155), (2, 1, 124), (3, 3, 88), (4, 3, 247), (5, 1, 80), (6, 1, 683)]
def lkS : List (Nat × Nat × Nat) := [(3, 23, 0), (3, 116, 1), (3, 119, 2)]
def lkC : List (Nat × Nat × Nat) := [(3, 27, 95)]
def lkB : List (Nat × Nat × Nat) := [(10, 74, 975)]
def lkX : List (Nat × Nat × Nat) := [(3, 28, 101)]
/-- own class, pool entry, callee, kind, places: link, instance or static, selects, code, initialised -/
def lkM_0 : List (Nat × Nat × Nat × Nat × Nat × Nat × Nat × Nat × Nat) := [(0, 22, 3, 0, 483, 485, 9, 486, 67), (1, 39, 172, 1, 450, 451, 0, 452, 73), (1, 45, 10, 0, 453, 414, 415, 416, 69), (1, 48, 171, 1, 465, 386, 0, 387, 73), (2, 25, 171, 1, 478, 386, 0, 387, 73), (3, 37, 0, 5, 104, 105, 0, 106, 67), (3, 49, 14, 5, 121, 122, 0, 123, 68), (3, 50, 6, 5, 152, 153, 0, 154, 69), (3, 51, 16, 0, 309, 310, 311, 312, 68), (3, 58, 8, 0, 313, 314, 315, 316, 69), (3, 61, 1, 0, 317, 318, 319, 320, 67), (3, 78, 15, 0, 327, 328, 329, 330, 68), (3, 82, 20, 0, 347, 348, 349, 350, 66), (3, 86, 7, 0, 351, 352, 353, 354, 69), (3, 89, 21, 0, 363, 364, 365, 366, 66), (3, 92, 36, 0, 367, 368, 369, 370, 66), (3, 97, 41, 0, 388, 389, 390, 391, 66), (3, 100, 9, 0, 401, 402, 403, 404, 69), (3, 106, 10, 0, 413, 414, 415, 416, 69), (3, 113, 34, 0, 426, 428, 4, 429, 66), (3, 122, 29, 0, 438, 439, 440, 441, 66), (3, 126, 38, 0, 375, 376, 377, 378, 66), (3, 129, 30, 0, 442, 444, 5, 445, 66), (3, 132, 31, 0, 454, 456, 6, 457, 66), (3, 135, 32, 0, 466, 468, 7, 469, 66), (3, 138, 2, 0, 479, 480, 481, 482, 67), (3, 142, 37, 0, 487, 488, 489, 490, 66), (3, 145, 11, 0, 446, 447, 448, 449, 69), (3, 148, 88, 4, 458, 459, 0, 460, 65), (3, 152, 12, 0, 461, 462, 463, 464, 69), (3, 158, 39, 0, 392, 393, 394, 395, 66), (3, 168, 33, 0, 470, 472, 8, 473, 66), (3, 171, 17, 0, 474, 475, 476, 477, 68), (3, 177, 170, 1, 379, 380, 0, 381, 72), (3, 182, 171, 1, 385, 386, 0, 387, 73), (3, 187, 35, 0, 371, 372, 373, 374, 66), (3, 191, 40, 0, 396, 398, 3, 399, 66), (3, 197, 89, 4, 612, 553, 0, 554, 65), (4, 30, 53, 1, 651, 652, 0, 653, 70), (4, 34, 54, 0, 654, 656, 11, 657, 70)]
def lkM_1 : List (Nat × Nat × Nat × Nat × Nat × Nat × Nat × Nat × Nat) := [(4, 38, 55, 0, 658, 660, 12, 661, 70), (4, 42, 56, 0, 662, 664, 13, 665, 70), (5, 9, 18, 2, 85, 86, 0, 87, 66), (5, 25, 50, 5, 244, 245, 0, 246, 70), (5, 30, 82, 0, 301, 303, 0, 304, 65), (5, 34, 22, 0, 321, 322, 323, 324, 66), (5, 38, 83, 0, 331, 333, 1, 334, 65), (5, 41, 23, 0, 343, 344, 345, 346, 66), (5, 45, 24, 0, 359, 360, 361, 362, 66), (5, 49, 25, 0, 409, 410, 411, 412, 66), (5, 52, 26, 0, 421, 422, 423, 424, 66), (5, 55, 28, 0, 434, 435, 436, 437, 66), (5, 58, 27, 0, 496, 497, 498, 499, 66), (5, 61, 21, 0, 508, 364, 365, 366, 66), (5, 97, 42, 0, 510, 511, 512, 513, 66), (5, 101, 88, 1, 514, 459, 0, 460, 65), (5, 105, 20, 0, 519, 348, 349, 350, 66), (5, 112, 39, 0, 520, 393, 394, 395, 66), (5, 132, 44, 0, 521, 522, 523, 524, 66), (5, 135, 43, 0, 525, 526, 527, 528, 66), (5, 142, 4, 0, 537, 538, 539, 540, 67), (5, 147, 5, 0, 542, 543, 544, 545, 67), (5, 150, 36, 0, 550, 368, 369, 370, 66), (5, 153, 41, 0, 551, 389, 390, 391, 66), (5, 156, 89, 1, 552, 553, 0, 554, 65), (5, 160, 37, 0, 564, 488, 489, 490, 66), (5, 164, 13, 0, 570, 571, 572, 573, 69), (5, 167, 29, 0, 578, 439, 440, 441, 66), (5, 173, 47, 0, 591, 592, 593, 594, 66), (5, 176, 90, 1, 595, 596, 0, 597, 65), (5, 190, 38, 0, 603, 376, 377, 378, 66), (5, 193, 45, 0, 604, 605, 606, 607, 66), (5, 196, 46, 0, 608, 609, 610, 611, 66), (5, 199, 35, 0, 613, 372, 373, 374, 66), (5, 202, 48, 0, 614, 615, 616, 617, 66), (5, 205, 49, 0, 618, 619, 620, 621, 66), (5, 225, 51, 0, 630, 631, 632, 633, 70), (5, 230, 85, 0, 643, 645, 10, 646, 65), (5, 246, 19, 0, 305, 306, 307, 308, 66), (5, 250, 84, 0, 335, 337, 2, 338, 65)]
def lkM_2 : List (Nat × Nat × Nat × Nat × Nat × Nat × Nat × Nat × Nat) := [(5, 253, 52, 0, 647, 648, 649, 650, 70), (5, 259, 86, 0, 666, 668, 14, 669, 65), (5, 263, 87, 0, 670, 672, 15, 673, 65), (5, 274, 169, 1, 555, 556, 0, 557, 72), (6, 36, 93, 1, 748, 749, 0, 750, 71), (6, 40, 92, 1, 739, 740, 0, 741, 71), (6, 44, 97, 0, 799, 801, 28, 802, 71), (6, 48, 103, 0, 795, 797, 27, 798, 71), (6, 52, 104, 0, 816, 818, 32, 819, 71), (6, 56, 106, 0, 812, 814, 31, 815, 71), (6, 59, 108, 0, 803, 805, 29, 806, 71), (6, 63, 107, 0, 807, 809, 30, 810, 71), (6, 67, 109, 0, 791, 793, 26, 794, 71), (6, 70, 101, 0, 755, 757, 19, 758, 71), (6, 74, 98, 0, 775, 777, 23, 778, 71), (6, 77, 99, 0, 825, 827, 34, 828, 71), (6, 80, 100, 0, 882, 884, 45, 885, 71), (6, 83, 102, 0, 886, 888, 46, 889, 71), (6, 87, 116, 0, 870, 872, 42, 873, 71), (6, 91, 117, 0, 874, 876, 43, 877, 71), (6, 94, 118, 0, 878, 880, 44, 881, 71), (6, 98, 119, 0, 890, 892, 47, 893, 71), (6, 101, 110, 0, 894, 896, 48, 897, 71), (6, 104, 113, 0, 821, 823, 33, 824, 71), (6, 107, 120, 0, 866, 868, 41, 869, 71), (6, 112, 95, 0, 767, 769, 21, 770, 71), (6, 115, 96, 0, 787, 789, 25, 790, 71), (6, 120, 122, 0, 735, 737, 16, 738, 71), (6, 123, 94, 0, 744, 746, 17, 747, 71), (6, 126, 111, 0, 751, 753, 18, 754, 71), (6, 129, 123, 0, 763, 765, 20, 766, 71), (6, 133, 112, 0, 771, 773, 22, 774, 71), (6, 136, 124, 0, 783, 785, 24, 786, 71), (6, 139, 125, 0, 833, 835, 35, 836, 71), (6, 142, 114, 0, 837, 839, 36, 840, 71), (6, 145, 126, 0, 845, 847, 37, 848, 71), (6, 148, 115, 0, 850, 852, 38, 853, 71), (6, 151, 127, 0, 858, 860, 39, 861, 71), (6, 154, 121, 0, 862, 864, 40, 865, 71), (6, 157, 134, 1, 902, 903, 0, 904, 71)]
def lkM_3 : List (Nat × Nat × Nat × Nat × Nat × Nat × Nat × Nat × Nat) := [(6, 160, 105, 0, 913, 915, 49, 916, 71), (6, 163, 138, 0, 921, 923, 50, 924, 71), (6, 166, 139, 0, 925, 927, 51, 928, 71), (6, 169, 143, 0, 941, 943, 52, 944, 71), (6, 172, 168, 1, 969, 970, 0, 971, 74), (6, 178, 151, 0, 983, 985, 53, 986, 71), (6, 181, 152, 0, 987, 989, 54, 990, 71), (6, 184, 153, 0, 991, 993, 55, 994, 71), (6, 187, 154, 0, 995, 997, 56, 998, 71), (6, 200, 158, 0, 1019, 1021, 59, 1022, 71), (6, 209, 159, 0, 1023, 1025, 60, 1026, 71), (6, 213, 160, 0, 1027, 1029, 61, 1030, 71), (6, 219, 161, 0, 1015, 1017, 58, 1018, 71), (6, 222, 162, 0, 1031, 1033, 62, 1034, 71), (6, 228, 163, 0, 1035, 1037, 63, 1038, 71), (6, 231, 164, 0, 1011, 1013, 57, 1014, 71), (10, 59, 167, 1, 972, 973, 0, 974, 74), (7, 9, 57, 2, 77, 78, 0, 79, 65), (7, 12, 91, 2, 680, 681, 0, 682, 71), (7, 13, 58, 0, 297, 298, 299, 300, 65), (7, 17, 128, 0, 731, 732, 733, 734, 71), (7, 18, 59, 0, 339, 340, 341, 342, 65), (7, 22, 129, 0, 759, 760, 761, 762, 71), (7, 23, 60, 0, 355, 356, 357, 358, 65), (7, 27, 130, 0, 779, 780, 781, 782, 71), (7, 28, 61, 0, 405, 406, 407, 408, 65), (7, 31, 131, 0, 829, 830, 831, 832, 71), (7, 32, 62, 0, 417, 418, 419, 420, 65), (7, 35, 132, 0, 841, 842, 843, 844, 71), (7, 36, 63, 0, 430, 431, 432, 433, 65), (7, 39, 133, 0, 854, 855, 856, 857, 71), (7, 40, 64, 0, 492, 493, 494, 495, 65), (7, 43, 135, 0, 898, 899, 900, 901, 71), (7, 44, 65, 0, 504, 505, 506, 507, 65), (7, 47, 137, 0, 909, 910, 911, 912, 71), (7, 48, 66, 0, 515, 516, 517, 518, 65), (7, 51, 140, 0, 917, 918, 919, 920, 71), (7, 52, 67, 0, 529, 530, 531, 532, 65), (7, 55, 141, 0, 929, 930, 931, 932, 71), (7, 56, 68, 0, 533, 534, 535, 536, 65)]
def lkM_4 : List (Nat × Nat × Nat × Nat × Nat × Nat × Nat × Nat × Nat) := [(7, 59, 142, 0, 933, 934, 935, 936, 71), (7, 60, 69, 0, 546, 547, 548, 549, 65), (7, 63, 144, 0, 937, 938, 939, 940, 71), (7, 64, 70, 0, 560, 561, 562, 563, 65), (7, 68, 145, 0, 945, 946, 947, 948, 71), (7, 69, 71, 0, 565, 566, 567, 568, 65), (7, 72, 146, 0, 949, 950, 951, 952, 71), (7, 73, 72, 0, 574, 575, 576, 577, 65), (7, 76, 147, 0, 953, 954, 955, 956, 71), (7, 77, 73, 0, 579, 580, 581, 582, 65), (7, 80, 148, 0, 957, 958, 959, 960, 71), (7, 81, 74, 0, 583, 584, 585, 586, 65), (7, 84, 149, 0, 961, 962, 963, 964, 71), (7, 85, 75, 0, 587, 588, 589, 590, 65), (7, 88, 150, 0, 965, 966, 967, 968, 71), (7, 89, 76, 0, 599, 600, 601, 602, 65), (7, 92, 155, 0, 979, 980, 981, 982, 71), (7, 93, 77, 0, 622, 623, 624, 625, 65), (7, 96, 136, 0, 905, 906, 907, 908, 71), (7, 97, 78, 0, 626, 627, 628, 629, 65), (7, 100, 156, 0, 999, 1000, 1001, 1002, 71), (7, 101, 79, 0, 635, 636, 637, 638, 65), (7, 104, 157, 0, 1003, 1004, 1005, 1006, 71), (7, 105, 80, 0, 639, 640, 641, 642, 65), (7, 108, 165, 0, 1007, 1008, 1009, 1010, 71), (7, 109, 81, 0, 674, 675, 676, 677, 65), (7, 112, 166, 0, 1039, 1040, 1041, 1042, 71)]
def lkM : List (Nat × Nat × Nat × Nat × Nat × Nat × Nat × Nat × Nat) := lkM_0 ++ (lkM_1 ++ (lkM_2 ++ (lkM_3 ++ (lkM_4))))
/-- the words that do not keep: links of nest mates, what is over a class, castable: a list -/
def nstW : List Cond := [.fieldLinkNest "CoatedBridges$State" 23 "CoatedBridges" "FIRST_SETTINGS" "[I" "CoatedBridges", .fieldLinkNest "CoatedBridges$State" 116 "CoatedBridges" "LOWEST_SETTINGS" "[I" "CoatedBridges", .fieldLinkNest "CoatedBridges$State" 119 "CoatedBridges" "HIGHEST_SETTINGS" "[I" "CoatedBridges", .methodLinkNest "CoatedBridges$State" 37 (⟨"CoatedBridges$Book", "<init>", "()V"⟩ : MethodName) "CoatedBridges", .methodLinkNest "CoatedBridges$State" 49 (⟨"CoatedBridges$Island", "<init>", "()V"⟩ : MethodName) "CoatedBridges", .methodLinkNest "CoatedBridges$State" 50 (⟨"CoatedBridges$Bridge", "<init>", "()V"⟩ : MethodName) "CoatedBridges", .methodLinkNest "CoatedBridges$State" 148 (⟨"CoatedBridges", "holds", "(II)Z"⟩ : MethodName) "CoatedBridges", .methodLinkNest "CoatedBridges$State" 197 (⟨"CoatedBridges", "lowestIn", "(I)I"⟩ : MethodName) "CoatedBridges", .methodLinkNest "CoatedBridges" 25 (⟨"CoatedBridges$Text", "<init>", "()V"⟩ : MethodName) "CoatedBridges"]
def nstP : List Nat := [93, 500, 502, 104, 121, 152, 458, 612, 244]
end
section
/-! A SMALL MACHINE beside the JVM: cells by number (no addresses), ints and references apart; 'ex' runs a method's normalised code. A method's contract is then said of 'ex' alone; the tie to the JVM is one theorem (part snd). -/
abbrev ASt : Type := List (Nat × Nat) × (Nat → Nat → Int32) × (Nat → Nat → Nat)
abbrev AEnv : Type := Nat → Nat × (Nat → Int32)
abbrev ARes : Type := (Nat × List Value × List Value × ASt) ⊕ (Nat × List Value × List Value) ⊕ (Option Value)
def wrI (σ : ASt) (c k : Nat) (x : Int32) : ASt := (σ.1, (fun q => if q = c then upd (σ.2.1 c) k x else σ.2.1 q), σ.2.2)
def wrR (σ : ASt) (c k r : Nat) : ASt := (σ.1, σ.2.1, (fun q => if q = c then va_up (σ.2.2 c) k (r + 1) else σ.2.2 q))
def pushC (σ : ASt) (k n : Nat) (f : Nat → Int32) : ASt := (σ.1 ++ [(k, n)], (fun q => if q = σ.1.length then f else σ.2.1 q), (fun q => if q = σ.1.length then (fun _ => 0) else σ.2.2 q))
/-- a written number -/
def ic (n : Int) : Int32 := match n with
  | .ofNat k => Int32.ofNat k
  | .negSucc k => -(Int32.ofNat (k + 1))
def fnd : List AEnt → Nat → Option (Instr × Nat × Nat)
  | [], _ => none
  | e :: t, pc => match Nat.beq e.1 pc with
    | true => some e.2
    | false => fnd t pc
def alu (o : Instr) (x y : Int32) : Option Int32 := match o with
  | .iadd => some (x + y)
  | .isub => some (x - y)
  | .imul => some (x * y)
  | .iand => some (x &&& y)
  | .ior => some (x ||| y)
  | .ixor => some (x ^^^ y)
  | .ishl => some (x <<< (y &&& 31))
  | .ishr => some (x >>> (y &&& 31))
  | .iushr => some (x.toUInt32 >>> (y.toUInt32 &&& Int32.toUInt32 31)).toInt32
  | .idiv => if y = 0 then none else some (x / y)
  | _ => none
def cnd (c : Jvm.ClassFile.Cond) (x y : Int32) : Prop := match c with
  | .eq => x = y
  | .ne => x ≠ y
  | .lt => x < y
  | .ge => y ≤ x
  | .gt => y < x
  | .le => x ≤ y
def cndB (c : Jvm.ClassFile.Cond) (x y : Int32) : Bool := match c with
  | .eq => decide (x = y)
  | .ne => decide (x ≠ y)
  | .lt => decide (x < y)
  | .ge => decide (y ≤ x)
  | .gt => decide (y < x)
  | .le => decide (x ≤ y)
def go (pc : Nat) (ls st : List Value) (σ : ASt) : Option ARes := some (.inl (pc, ls, st, σ))
def sto (ls : List Value) (i : Nat) (v : Value) : Option (List Value) := match Nat.blt i ls.length with
  | true => some (ls.set i v)
  | false => match Nat.beq i ls.length with
    | true => some (ls ++ [v])
    | false => none
def falu (o : Instr) (x y : UInt32) : Option UInt32 := match o with
  | .fdiv => some (FP.fdiv x y)
  | .fmul => some (FP.fmul x y)
  | .fsub => some (FP.fsub x y)
  | _ => none
def inB (i : Int32) (n : Nat) : Bool := decide (¬ (i < 0 ∨ n ≤ i.toNatClampNeg))
/-- an array's type by its kind -/
def akT (k : Nat) : FieldType := match k with
  | 10 => .int
  | 11 => .char
  | _ => .boolean
def fN (ty : FieldType) (x : Int32) : Bool := decide (narrow ty (.int x) = .int x) && fits ty (.int x)
def swT (lo : Int) : List Int → Int → Int → Option Int
  | [], _, _ => none
  | t :: r, k, x => if x = lo + k then some t else swT lo r (k + 1) x
def s_alu (o : Instr) (pc : Nat) (ls st : List Value) (σ : ASt) : Option ARes := match st with
  | .int y :: .int x :: st => match alu o x y with
    | some z => go pc ls (.int z :: st) σ
    | none => none
  | _ => none
def s_falu (o : Instr) (pc : Nat) (ls st : List Value) (σ : ASt) : Option ARes := match st with
  | .float y :: .float x :: st => match falu o x y with
    | some z => if z &&& 0x7fffffff ≤ 0x7f800000 then go pc ls (.float z :: st) σ else none
    | none => none
  | _ => none
def s_store (i pc : Nat) (ls st : List Value) (σ : ASt) : Option ARes := match st with
  | v :: st => match sto ls i v with
    | some ls' => go pc ls' st σ
    | none => none
  | _ => none
def s_aload (k pc : Nat) (ls st : List Value) (σ : ASt) : Option ARes := match st with
  | .int i :: .ref c :: st => match σ.1[c]? with
    | some (k', n) => if k' = k ∧ inB i n = true then go pc ls (.int (σ.2.1 c i.toNatClampNeg) :: st) σ else none
    | none => none
  | _ => none
def s_astore (k pc : Nat) (ls st : List Value) (σ : ASt) : Option ARes := match st with
  | .int x :: .int i :: .ref c :: st => match σ.1[c]? with
    | some (k', n) => if k' = k ∧ inB i n = true then go pc ls st (wrI σ c i.toNatClampNeg (vp_nar (akT k) x)) else none
    | none => none
  | _ => none
def s_call (virt : Bool) (mi : Nat) (st : List Value) (σ : ASt) : Option ARes :=
  let n := mPar mi
  let args := (st.take n).reverse
  let rest := st.drop n
  match (Nat.ble n st.length && args.all (fun v => Nat.beq v.category 1) && Nat.ble ((rest.map fun v => v.category).sum) 8) with
  | false => none
  | true => match virt with
    | false => some (.inr (.inl (mi, args, rest)))
    | true => match args with
      | .ref c :: _ => if σ.1[c]? = some (mCls mi, nFl (mCls mi)) then some (.inr (.inl (mi, args, rest))) else none
      | _ => none
def step (E : AEnv) (o : Instr) (pc : Nat) (ls st : List Value) (σ : ASt) : Option ARes := match o with
  | .iconst n => go pc ls (.int (ic n) :: st) σ
  | .ldc n => go pc ls (.float (UInt32.ofNat n) :: st) σ
  | .iload i => match ls[i]? with
    | some (.int x) => go pc ls (.int x :: st) σ
    | _ => none
  | .aload i => match ls[i]? with
    | some (.ref x) => go pc ls (.ref x :: st) σ
    | _ => none
  | .fload i => match ls[i]? with
    | some (.float x) => go pc ls (.float x :: st) σ
    | _ => none
  | .istore i => match st with
    | .int x :: st => s_store i pc ls (.int x :: st) σ
    | _ => none
  | .astore i => match st with
    | .ref x :: st => s_store i pc ls (.ref x :: st) σ
    | _ => none
  | .fstore i => match st with
    | .float x :: st => s_store i pc ls (.float x :: st) σ
    | _ => none
  | .iinc i n => match ls[i]? with
    | some (.int x) => go pc (ls.set i (.int (x + ic n))) st σ
    | _ => none
  | .iadd => s_alu .iadd pc ls st σ
  | .isub => s_alu .isub pc ls st σ
  | .imul => s_alu .imul pc ls st σ
  | .iand => s_alu .iand pc ls st σ
  | .ior => s_alu .ior pc ls st σ
  | .ixor => s_alu .ixor pc ls st σ
  | .ishl => s_alu .ishl pc ls st σ
  | .ishr => s_alu .ishr pc ls st σ
  | .iushr => s_alu .iushr pc ls st σ
  | .idiv => s_alu .idiv pc ls st σ
  | .fdiv => s_falu .fdiv pc ls st σ
  | .fmul => s_falu .fmul pc ls st σ
  | .fsub => s_falu .fsub pc ls st σ
  | .fcmp op => match st with
    | .float y :: .float x :: st => go pc ls (.int (Op.cmpValue (FP.fcmp x y) op) :: st) σ
    | _ => none
  | .i2f => match st with
    | .int x :: st => go pc ls (.float (FP.i2f x) :: st) σ
    | _ => none
  | .f2i => match st with
    | .float x :: st => go pc ls (.int (FP.f2i x) :: st) σ
    | _ => none
  | .i2c => match st with
    | .int x :: st => go pc ls (.int (x.toUInt32 % 65536).toInt32 :: st) σ
    | _ => none
  | .dup => match st with
    | v :: st => match Nat.beq v.category 1 with
      | true => go pc ls (v :: v :: st) σ
      | false => none
    | _ => none
  | .dup2 => match st with
    | v :: w :: st => match Nat.beq v.category 1 && Nat.beq w.category 1 with
      | true => go pc ls (v :: w :: v :: w :: st) σ
      | false => none
    | _ => none
  | .pop => match st with
    | v :: st => match Nat.beq v.category 1 with
      | true => go pc ls st σ
      | false => none
    | _ => none
  | .goto t => go t.toNat ls st σ
  | .ifCond c t => match st with
    | .int x :: st => match cndB c x 0 with
      | true => go t.toNat ls st σ
      | false => go pc ls st σ
    | _ => none
  | .if_icmp c t => match st with
    | .int y :: .int x :: st => match cndB c x y with
      | true => go t.toNat ls st σ
      | false => go pc ls st σ
    | _ => none
  | .tableswitch d lo _ ts => match st with
    | .int x :: st => match swT lo ts.toList 0 x.toInt with
      | some t => go t.toNat ls st σ
      | none => go d.toNat ls st σ
    | _ => none
  | .lookupswitch d ps => match st with
    | .int x :: st => go (Op.lookupswitch.offset ps.toList d x.toInt).toNat ls st σ
    | _ => none
  | .getfield i => match st with
    | .ref c :: st => if σ.1[c]? = some (i / 100, nFl (i / 100)) then (match fTy (i / 100) (i % 100) with
      | 3 => match σ.2.2 c (i % 100) with
        | 0 => none
        | r + 1 => go pc ls (.ref r :: st) σ
      | _ => go pc ls (.int (σ.2.1 c (i % 100)) :: st) σ) else none
    | _ => none
  | .putfield i => match st with
    | v :: .ref c :: st => if σ.1[c]? = some (i / 100, nFl (i / 100)) then (match fTy (i / 100) (i % 100), v with
      | 3, .ref r => go pc ls st (wrR σ c (i % 100) r)
      | 0, .int x => go pc ls st (wrI σ c (i % 100) x)
      | 1, .int x => if fN .boolean x = true then go pc ls st (wrI σ c (i % 100) x) else none
      | 2, .int x => if fN .char x = true then go pc ls st (wrI σ c (i % 100) x) else none
      | _, _ => none) else none
    | _ => none
  | .getstatic j => go pc ls (.ref (1000 + j) :: st) σ
  | .iaload => s_aload 10 pc ls st σ
  | .caload => s_aload 11 pc ls st σ
  | .baload => s_aload 12 pc ls st σ
  | .iastore => s_astore 10 pc ls st σ
  | .castore => s_astore 11 pc ls st σ
  | .bastore => s_astore 12 pc ls st σ
  | .laload => match st with
    | .int i :: .ref c :: st => if 1000 ≤ c ∧ c < 1004 ∧ inB i (E (c - 1000)).1 = true then go pc ls (.int ((E (c - 1000)).2 i.toNatClampNeg) :: st) σ else none
    | _ => none
  | .arraylength => match st with
    | .ref c :: st => if 1000 ≤ c ∧ c < 1004 then go pc ls (.int (Int32.ofNat (E (c - 1000)).1) :: st) σ else none
    | _ => none
  | .instanceof k => match st with
    | .int i :: .ref c :: st => match σ.1[c]? with
      | some (k', n) => if k' = k ∧ inB i n = true then (match σ.2.2 c i.toNatClampNeg with
        | 0 => none
        | r + 1 => go pc ls (.ref r :: st) σ) else none
      | none => none
    | _ => none
  | .multianewarray k _ => match st with
    | .ref v :: .int i :: .ref c :: st => match σ.1[c]? with
      | some (k', n) => if k' = k ∧ inB i n = true ∧ σ.1[v]? = some (aCl k, nFl (aCl k)) then go pc ls st (wrR σ c i.toNatClampNeg v) else none
      | none => none
    | _ => none
  | .newarray ty => match st with
    | .int n :: st => if ¬ n < 0 ∧ n.toNatClampNeg ≤ 100000 then go pc ls (.ref σ.1.length :: st) (pushC σ (match ty with | .int => 10 | .char => 11 | _ => 12) n.toNatClampNeg (fun _ => 0)) else none
    | _ => none
  | .anewarray k => match st with
    | .int n :: st => if ¬ n < 0 ∧ n.toNatClampNeg ≤ 100000 then go pc ls (.ref σ.1.length :: st) (pushC σ k n.toNatClampNeg (fun _ => 0)) else none
    | _ => none
  | .new ci => go pc ls (.ref σ.1.length :: st) (pushC σ ci (nFl ci) (fun _ => 0))
  | .nop => match st with
    | .ref _ :: st => match Nat.ble ((st.map fun v => v.category).sum) 8 with
      | true => go pc ls st σ
      | false => none
    | _ => none
  | .invokedynamic 0 => match st with
    | .ref 1000 :: st => match Nat.ble ((st.map fun v => v.category).sum) 8 with
      | true => go pc ls (.ref σ.1.length :: st) (pushC σ 10 8 (E 0).2)
      | false => none
    | _ => none
  | .invokedynamic 1 => match st with
    | .float b :: st => match Nat.ble ((st.map fun v => v.category).sum) 8 with
      | true => go pc ls (.int b.toInt32 :: st) σ
      | false => none
    | _ => none
  | .checkcast _ => match st with
    | .ref c :: st => match σ.1[c]? with
      | some (10, _) => go pc ls (.ref c :: st) σ
      | _ => none
    | _ => none
  | .invokevirtual mi => s_call true mi st σ
  | .invokestatic mi => s_call false mi st σ
  | .ireturn => match st with
    | [.int v] => some (.inr (.inr (some (.int v))))
    | _ => none
  | .freturn => match st with
    | [.int v] => if fN .boolean v = true then some (.inr (.inr (some (.int v)))) else none
    | _ => none
  | .areturn => match st with
    | [.ref v] => some (.inr (.inr (some (.ref v))))
    | _ => none
  | .return_ => match st with
    | [] => some (.inr (.inr none))
    | _ => none
  | _ => none
def ex (E : AEnv) : Nat → Nat → Nat → List Value → List Value → ASt → Option (Option Value × ASt)
  | 0, _, _, _, _, _ => none
  | n + 1, mi, pc, ls, st, σ => match fnd (mCode mi) pc with
    | none => none
    | some (o, nx, ct) => match step E o nx (ls.take ct) st σ with
      | none => none
      | some (.inl (pc', ls', st', σ')) => ex E n mi pc' ls' st' σ'
      | some (.inr (.inl (c, as, st'))) => match ex E n c 0 as [] σ with
        | none => none
        | some (r, σ1) => ex E n mi nx (ls.take ct) (r.toList ++ st') σ1
      | some (.inr (.inr r)) => some (r, σ)
theorem ex_succ (E : AEnv) : ∀ (n mi pc : Nat) (ls st : List Value) (σ : ASt) (x : Option Value × ASt), ex E n mi pc ls st σ = some x → ex E (n + 1) mi pc ls st σ = some x := by
  intro n
  induction n with
  | zero => intro mi pc ls st σ x h; simp [ex] at h
  | succ n ih =>
    intro mi pc ls st σ x h
    rw [ex] at h
    rw [ex]
    cases hf : fnd (mCode mi) pc with
    | none => rw [hf] at h; cases h
    | some q =>
      obtain ⟨o, nx, ct⟩ := q
      rw [hf] at h
      dsimp only at h ⊢
      cases hs : step E o nx (ls.take ct) st σ with
      | none => rw [hs] at h; cases h
      | some r =>
        rw [hs] at h
        rcases r with ⟨pc', ls', st', σ'⟩ | ⟨c, as, st'⟩ | r
        · exact ih _ _ _ _ _ _ h
        · dsimp only at h ⊢
          cases hc : ex E n c 0 as [] σ with
          | none => rw [hc] at h; cases h
          | some y =>
            rw [hc] at h
            rw [ih _ _ _ _ _ _ hc]
            exact ih _ _ _ _ _ _ h
        · exact h
theorem ex_le (E : AEnv) {n k mi pc : Nat} {ls st : List Value} {σ : ASt} {x : Option Value × ASt} (h : ex E n mi pc ls st σ = some x) (hk : n ≤ k) : ex E k mi pc ls st σ = some x := by
  induction hk with
  | refl => exact h
  | step _ ih => exact ex_succ E _ _ _ _ _ _ _ ih
/-- from here on, the method ends, with Q -/
def wp (E : AEnv) (mi pc : Nat) (ls st : List Value) (σ : ASt) (Q : Option Value → ASt → Prop) : Prop := ∃ (n : Nat) (r : Option Value) (σ' : ASt), ex E n mi pc ls st σ = some (r, σ') ∧ Q r σ'
theorem wp_go {E : AEnv} {mi pc : Nat} {ls st : List Value} {σ : ASt} {Q : Option Value → ASt → Prop} {o : Instr} {nx ct pc' : Nat} {ls' st' : List Value} {σ' : ASt} (hf : fnd (mCode mi) pc = some (o, nx, ct)) (hs : step E o nx (ls.take ct) st σ = some (.inl (pc', ls', st', σ'))) (h : wp E mi pc' ls' st' σ' Q) : wp E mi pc ls st σ Q := by
  obtain ⟨n, r, t, h1, h2⟩ := h
  exact ⟨n + 1, r, t, by rw [ex, hf]; dsimp only; rw [hs]; exact h1, h2⟩
theorem wp_cl {E : AEnv} {mi pc : Nat} {ls st : List Value} {σ : ASt} {Q : Option Value → ASt → Prop} {o : Instr} {nx ct c : Nat} {as st' : List Value} (hf : fnd (mCode mi) pc = some (o, nx, ct)) (hs : step E o nx (ls.take ct) st σ = some (.inr (.inl (c, as, st')))) (h : wp E c 0 as [] σ (fun r σ1 => wp E mi nx (ls.take ct) (r.toList ++ st') σ1 Q)) : wp E mi pc ls st σ Q := by
  obtain ⟨n, r, t, h1, n2, r2, t2, h3, h4⟩ := h
  refine ⟨(n + n2) + 1, r2, t2, ?_, h4⟩
  rw [ex, hf]
  dsimp only
  rw [hs]
  dsimp only
  rw [ex_le E h1 (Nat.le_add_right n n2)]
  exact ex_le E h3 (Nat.le_add_left n2 n)
theorem wp_rt {E : AEnv} {mi pc : Nat} {ls st : List Value} {σ : ASt} {Q : Option Value → ASt → Prop} {o : Instr} {nx ct : Nat} {r : Option Value} (hf : fnd (mCode mi) pc = some (o, nx, ct)) (hs : step E o nx (ls.take ct) st σ = some (.inr (.inr r))) (h : Q r σ) : wp E mi pc ls st σ Q :=
  ⟨1, r, σ, by rw [ex, hf]; dsimp only; rw [hs], h⟩
theorem wp_mono {E : AEnv} {mi pc : Nat} {ls st : List Value} {σ : ASt} {Q Q' : Option Value → ASt → Prop} (h : wp E mi pc ls st σ Q) (hQ : ∀ r s, Q r s → Q' r s) : wp E mi pc ls st σ Q' := by
  obtain ⟨n, r, t, h1, h2⟩ := h
  exact ⟨n, r, t, h1, hQ _ _ h2⟩
end
section
/-! WHAT IS TO BE SHOWN of a stretch of code, as a proposition that unfolds by itself: 'vc'; it implies 'wp' -/
def sh (σ : ASt) (c k n : Nat) : Prop := σ.1[c]? = some (k, n)
def gI (σ : ASt) (c k : Nat) : Int32 := σ.2.1 c k
def rf (σ : ASt) (c k r : Nat) : Prop := σ.2.2 c k = r + 1
def QI (K : Int32 → ASt → Prop) : Option Value → ASt → Prop := fun r s => match r with
  | some (.int x) => K x s
  | _ => False
def QR (K : Nat → ASt → Prop) : Option Value → ASt → Prop := fun r s => match r with
  | some (.ref x) => K x s
  | _ => False
def QV (K : ASt → Prop) : Option Value → ASt → Prop := fun r s => match r with
  | none => K s
  | _ => False
/-- a call that answers an int; a reference; nothing -/
def cI (E : AEnv) (mi : Nat) (as : List Value) (σ : ASt) (K : Int32 → ASt → Prop) : Prop := wp E mi 0 as [] σ (QI K)
def cR (E : AEnv) (mi : Nat) (as : List Value) (σ : ASt) (K : Nat → ASt → Prop) : Prop := wp E mi 0 as [] σ (QR K)
def cV (E : AEnv) (mi : Nat) (as : List Value) (σ : ASt) (K : ASt → Prop) : Prop := wp E mi 0 as [] σ (QV K)
/-- the memory gets a name -/
def nw (σ : ASt) (K : ASt → Prop) : Prop := ∀ s, s = σ → K s
theorem nw_i {σ : ASt} {K : ASt → Prop} (h : K σ) : nw σ K := fun s hs => hs ▸ h
theorem nw_e {σ τ : ASt} {K : ASt → Prop} (he : σ = τ) (h : K τ) : nw σ K := fun s hs => (hs.trans he) ▸ h
def inI (a : Int) : Bool := decide (-2147483648 ≤ a ∧ a < 2147483648)
def swV (lo : Int) (x : Int32) (K : Nat → Prop) (d : Nat) : List Int → Int → Prop
  | [], _ => K d
  | t :: r, k => match inI (lo + k) with
    | true => (x = ic (lo + k) → K t.toNat) ∧ (¬ x = ic (lo + k) → swV lo x K d r (k + 1))
    | false => False
def lkV (x : Int32) (K : Nat → Prop) (d : Nat) : List (Int × Int) → Prop
  | [] => K d
  | t :: r => match inI t.1 with
    | true => (x = ic t.1 → K t.2.toNat) ∧ (¬ x = ic t.1 → lkV x K d r)
    | false => False
abbrev AK : Type := Nat → List Value → List Value → ASt → Prop
def v_alu (o : Instr) (pc : Nat) (ls st : List Value) (σ : ASt) (K : AK) : Prop := match st with
  | .int y :: .int x :: st => match o with
    | .idiv => ¬ y = 0 ∧ K pc ls (.int (x / y) :: st) σ
    | o => match alu o x y with
      | some z => K pc ls (.int z :: st) σ
      | none => False
  | _ => False
def v_falu (o : Instr) (pc : Nat) (ls st : List Value) (σ : ASt) (K : AK) : Prop := match st with
  | .float y :: .float x :: st => match falu o x y with
    | some z => z &&& 0x7fffffff ≤ 0x7f800000 ∧ K pc ls (.float z :: st) σ
    | none => False
  | _ => False
def v_store (i pc : Nat) (ls st : List Value) (σ : ASt) (K : AK) : Prop := match st with
  | v :: st => match sto ls i v with
    | some ls' => K pc ls' st σ
    | none => False
  | _ => False
def v_aload (k pc : Nat) (ls st : List Value) (σ : ASt) (K : AK) : Prop := match st with
  | .int i :: .ref c :: st => ∃ n, sh σ c k n ∧ vp_in i n ∧ K pc ls (.int (gI σ c i.toNatClampNeg) :: st) σ
  | _ => False
def v_astore (k pc : Nat) (ls st : List Value) (σ : ASt) (K : AK) : Prop := match st with
  | .int x :: .int i :: .ref c :: st => ∃ n, sh σ c k n ∧ vp_in i n ∧ nw (wrI σ c i.toNatClampNeg (vp_nar (akT k) x)) (fun s => K pc ls st s)
  | _ => False
def v_cont (E : AEnv) (mi : Nat) (as : List Value) (pc : Nat) (ls rest : List Value) (σ : ASt) (K : AK) : Prop := match mRk mi with
  | 0 => cV E mi as σ (fun s => K pc ls rest s)
  | 3 => cR E mi as σ (fun x s => K pc ls (.ref x :: rest) s)
  | _ => cI E mi as σ (fun x s => K pc ls (.int x :: rest) s)
def v_call (E : AEnv) (virt : Bool) (mi pc : Nat) (ls st : List Value) (σ : ASt) (K : AK) : Prop :=
  match (Nat.ble (mPar mi) st.length && ((st.take (mPar mi)).reverse).all (fun v => Nat.beq v.category 1) && Nat.ble (((st.drop (mPar mi)).map fun v => v.category).sum) 8) with
  | false => False
  | true => match virt with
    | false => v_cont E mi (st.take (mPar mi)).reverse pc ls (st.drop (mPar mi)) σ K
    | true => match (st.take (mPar mi)).reverse with
      | .ref c :: as => sh σ c (mCls mi) (nFl (mCls mi)) ∧ v_cont E mi (.ref c :: as) pc ls (st.drop (mPar mi)) σ K
      | _ => False
def vst (E : AEnv) (o : Instr) (pc : Nat) (ls st : List Value) (σ : ASt) (K : AK) (Q : Option Value → ASt → Prop) : Prop := match o with
  | .iconst n => K pc ls (.int (ic n) :: st) σ
  | .ldc n => K pc ls (.float (UInt32.ofNat n) :: st) σ
  | .iload i => match ls[i]? with
    | some (.int x) => K pc ls (.int x :: st) σ
    | _ => False
  | .aload i => match ls[i]? with
    | some (.ref x) => K pc ls (.ref x :: st) σ
    | _ => False
  | .fload i => match ls[i]? with
    | some (.float x) => K pc ls (.float x :: st) σ
    | _ => False
  | .istore i => match st with
    | .int x :: st => v_store i pc ls (.int x :: st) σ K
    | _ => False
  | .astore i => match st with
    | .ref x :: st => v_store i pc ls (.ref x :: st) σ K
    | _ => False
  | .fstore i => match st with
    | .float x :: st => v_store i pc ls (.float x :: st) σ K
    | _ => False
  | .iinc i n => match ls[i]? with
    | some (.int x) => K pc (ls.set i (.int (x + ic n))) st σ
    | _ => False
  | .iadd => v_alu .iadd pc ls st σ K
  | .isub => v_alu .isub pc ls st σ K
  | .imul => v_alu .imul pc ls st σ K
  | .iand => v_alu .iand pc ls st σ K
  | .ior => v_alu .ior pc ls st σ K
  | .ixor => v_alu .ixor pc ls st σ K
  | .ishl => v_alu .ishl pc ls st σ K
  | .ishr => v_alu .ishr pc ls st σ K
  | .iushr => v_alu .iushr pc ls st σ K
  | .idiv => v_alu .idiv pc ls st σ K
  | .fdiv => v_falu .fdiv pc ls st σ K
  | .fmul => v_falu .fmul pc ls st σ K
  | .fsub => v_falu .fsub pc ls st σ K
  | .fcmp op => match st with
    | .float y :: .float x :: st => K pc ls (.int (Op.cmpValue (FP.fcmp x y) op) :: st) σ
    | _ => False
  | .i2f => match st with
    | .int x :: st => K pc ls (.float (FP.i2f x) :: st) σ
    | _ => False
  | .f2i => match st with
    | .float x :: st => K pc ls (.int (FP.f2i x) :: st) σ
    | _ => False
  | .i2c => match st with
    | .int x :: st => K pc ls (.int (x.toUInt32 % 65536).toInt32 :: st) σ
    | _ => False
  | .dup => match st with
    | v :: st => match Nat.beq v.category 1 with
      | true => K pc ls (v :: v :: st) σ
      | false => False
    | _ => False
  | .dup2 => match st with
    | v :: w :: st => match Nat.beq v.category 1 && Nat.beq w.category 1 with
      | true => K pc ls (v :: w :: v :: w :: st) σ
      | false => False
    | _ => False
  | .pop => match st with
    | v :: st => match Nat.beq v.category 1 with
      | true => K pc ls st σ
      | false => False
    | _ => False
  | .goto t => K t.toNat ls st σ
  | .ifCond c t => match st with
    | .int x :: st => (cnd c x 0 → K t.toNat ls st σ) ∧ (¬ cnd c x 0 → K pc ls st σ)
    | _ => False
  | .if_icmp c t => match st with
    | .int y :: .int x :: st => (cnd c x y → K t.toNat ls st σ) ∧ (¬ cnd c x y → K pc ls st σ)
    | _ => False
  | .tableswitch d lo _ ts => match st with
    | .int x :: st => swV lo x (fun t => K t ls st σ) d.toNat ts.toList 0
    | _ => False
  | .lookupswitch d ps => match st with
    | .int x :: st => lkV x (fun t => K t ls st σ) d.toNat ps.toList
    | _ => False
  | .getfield i => match st with
    | .ref c :: st => sh σ c (i / 100) (nFl (i / 100)) ∧ (match fTy (i / 100) (i % 100) with
      | 3 => ∃ r, rf σ c (i % 100) r ∧ K pc ls (.ref r :: st) σ
      | _ => K pc ls (.int (gI σ c (i % 100)) :: st) σ)
    | _ => False
  | .putfield i => match st with
    | v :: .ref c :: st => sh σ c (i / 100) (nFl (i / 100)) ∧ (match fTy (i / 100) (i % 100), v with
      | 3, .ref r => nw (wrR σ c (i % 100) r) (fun s => K pc ls st s)
      | 0, .int x => nw (wrI σ c (i % 100) x) (fun s => K pc ls st s)
      | 1, .int x => fN .boolean x = true ∧ nw (wrI σ c (i % 100) x) (fun s => K pc ls st s)
      | 2, .int x => fN .char x = true ∧ nw (wrI σ c (i % 100) x) (fun s => K pc ls st s)
      | _, _ => False)
    | _ => False
  | .getstatic j => K pc ls (.ref (1000 + j) :: st) σ
  | .iaload => v_aload 10 pc ls st σ K
  | .caload => v_aload 11 pc ls st σ K
  | .baload => v_aload 12 pc ls st σ K
  | .iastore => v_astore 10 pc ls st σ K
  | .castore => v_astore 11 pc ls st σ K
  | .bastore => v_astore 12 pc ls st σ K
  | .laload => match st with
    | .int i :: .ref c :: st => match Nat.ble 1000 c && Nat.blt c 1004 with
      | true => vp_in i (E (c - 1000)).1 ∧ K pc ls (.int ((E (c - 1000)).2 i.toNatClampNeg) :: st) σ
      | false => False
    | _ => False
  | .arraylength => match st with
    | .ref c :: st => match Nat.ble 1000 c && Nat.blt c 1004 with
      | true => K pc ls (.int (Int32.ofNat (E (c - 1000)).1) :: st) σ
      | false => False
    | _ => False
  | .instanceof k => match st with
    | .int i :: .ref c :: st => ∃ n r, sh σ c k n ∧ vp_in i n ∧ rf σ c i.toNatClampNeg r ∧ K pc ls (.ref r :: st) σ
    | _ => False
  | .multianewarray k _ => match st with
    | .ref v :: .int i :: .ref c :: st => ∃ n, sh σ c k n ∧ vp_in i n ∧ sh σ v (aCl k) (nFl (aCl k)) ∧ nw (wrR σ c i.toNatClampNeg v) (fun s => K pc ls st s)
    | _ => False
  | .invokedynamic 1 => match st with
    | .float b :: st => match Nat.ble ((st.map fun v => v.category).sum) 8 with
      | true => K pc ls (.int b.toInt32 :: st) σ
      | false => False
    | _ => False
  | .invokevirtual mi => v_call E true mi pc ls st σ K
  | .invokestatic mi => v_call E false mi pc ls st σ K
  | .ireturn => match st with
    | [.int v] => Q (some (.int v)) σ
    | _ => False
  | .freturn => match st with
    | [.int v] => fN .boolean v = true ∧ Q (some (.int v)) σ
    | _ => False
  | .areturn => match st with
    | [.ref v] => Q (some (.ref v)) σ
    | _ => False
  | .return_ => match st with
    | [] => Q none σ
    | _ => False
  | _ => False
def vc (E : AEnv) (mi : Nat) (stop : List Nat) (Q : Option Value → ASt → Prop) : Nat → Bool → AK
  | 0, _, pc, ls, st, σ => wp E mi pc ls st σ Q
  | n + 1, b, pc, ls, st, σ => match fnd (mCode mi) pc with
    | none => False
    | some (o, nx, ct) => match b && stop.any (Nat.beq pc) with
      | true => wp E mi pc (ls.take ct) st σ Q
      | false => vst E o nx (ls.take ct) st σ (vc E mi stop Q n true) Q
theorem inB_of {i : Int32} {n : Nat} (h : vp_in i n) : inB i n = true := decide_eq_true h
theorem cndB_iff (c : Jvm.ClassFile.Cond) (x y : Int32) : cndB c x y = true ↔ cnd c x y := by cases c <;> simp [cndB, cnd]
theorem ic_toInt {a : Int} (h : inI a = true) : (ic a).toInt = a := by
  have h : -2147483648 ≤ a ∧ a < 2147483648 := of_decide_eq_true h
  cases a with
  | ofNat k => exact Int32.toInt_ofNat_of_lt (by have h2 := h.2; simp at h2; omega)
  | negSucc k =>
    show (-(Int32.ofNat (k + 1))).toInt = _
    have h1 : (Int32.ofNat (k + 1)) = Int32.ofInt ((k + 1 : Nat) : Int) := rfl
    rw [h1, ← Int32.ofInt_neg, Int32.toInt_ofInt_of_le (by omega) (by omega)]
    omega
theorem swV_ok {lo : Int} {x : Int32} {K : Nat → Prop} {d : Nat} : ∀ (ts : List Int) (k : Int), swV lo x K d ts k → (∃ t, swT lo ts k x.toInt = some t ∧ K t.toNat) ∨ (swT lo ts k x.toInt = none ∧ K d)
  | [], k, h => Or.inr ⟨rfl, h⟩
  | t :: r, k, h => by
    rw [swV] at h
    cases hi : inI (lo + k) with
    | false => rw [hi] at h; exact h.elim
    | true =>
      rw [hi] at h
      rw [swT]
      by_cases hx : x = ic (lo + k)
      · exact Or.inl ⟨t, by rw [if_pos (by rw [hx]; exact ic_toInt hi)], h.1 hx⟩
      · rw [if_neg (fun z => hx (Int32.toInt_inj.mp (by rw [z, ic_toInt hi])))]
        exact swV_ok r (k + 1) (h.2 hx)
theorem lkV_ok {x : Int32} {K : Nat → Prop} {d : Int} : ∀ (ts : List (Int × Int)), lkV x K d.toNat ts → K (Op.lookupswitch.offset ts d x.toInt).toNat
  | [], h => h
  | (a, t) :: r, h => by
    rw [lkV] at h
    dsimp only at h
    cases hi : inI a with
    | false => rw [hi] at h; exact h.elim
    | true =>
      rw [hi] at h
      rw [Op.lookupswitch.offset_cons]
      by_cases hx : x = ic a
      · rw [if_pos (by rw [hx, ic_toInt hi])]; exact h.1 hx
      · rw [if_neg (fun z => hx (Int32.toInt_inj.mp (by rw [ic_toInt hi]; first | exact z | exact z.symm)))]
        exact lkV_ok r (h.2 hx)
section VC1
variable {E : AEnv} {mi pc0 nx ct : Nat} {ls0 : List Value} {Q : Option Value → ASt → Prop} {K : AK} {o : Instr}
theorem vs_go {st0 : List Value} {σ0 : ASt} (hf : fnd (mCode mi) pc0 = some (o, nx, ct)) (hK : ∀ pc ls st σ, K pc ls st σ → wp E mi pc ls st σ Q) {pc : Nat} {ls st : List Value} {σ : ASt} (hs : step E o nx (ls0.take ct) st0 σ0 = go pc ls st σ) (h : K pc ls st σ) : wp E mi pc0 ls0 st0 σ0 Q := wp_go hf hs (hK _ _ _ _ h)
theorem vs_alu {st : List Value} {σ : ASt} (hf : fnd (mCode mi) pc0 = some (o, nx, ct)) (hK : ∀ pc ls st σ, K pc ls st σ → wp E mi pc ls st σ Q) (hs : step E o nx (ls0.take ct) st σ = s_alu o nx (ls0.take ct) st σ) (h : v_alu o nx (ls0.take ct) st σ K) : wp E mi pc0 ls0 st σ Q := by
  unfold v_alu at h
  split at h
  · split at h
    · rename_i y x rest
      refine vs_go hf hK (hs.trans ?_) h.2
      simp only [s_alu, alu, if_neg h.1]
    · split at h
      · rename_i hz
        refine vs_go hf hK (hs.trans ?_) h
        simp only [s_alu, hz]
      · exact h.elim
  · exact h.elim
theorem vs_falu {st : List Value} {σ : ASt} (hf : fnd (mCode mi) pc0 = some (o, nx, ct)) (hK : ∀ pc ls st σ, K pc ls st σ → wp E mi pc ls st σ Q) (hs : step E o nx (ls0.take ct) st σ = s_falu o nx (ls0.take ct) st σ) (h : v_falu o nx (ls0.take ct) st σ K) : wp E mi pc0 ls0 st σ Q := by
  unfold v_falu at h
  split at h
  · split at h
    · rename_i hz
      refine vs_go hf hK (hs.trans ?_) h.2
      simp only [s_falu, hz, if_pos h.1]
    · exact h.elim
  · exact h.elim
theorem vs_store {st : List Value} {σ : ASt} {i : Nat} (hf : fnd (mCode mi) pc0 = some (o, nx, ct)) (hK : ∀ pc ls st σ, K pc ls st σ → wp E mi pc ls st σ Q) (hs : step E o nx (ls0.take ct) st σ = s_store i nx (ls0.take ct) st σ) (h : v_store i nx (ls0.take ct) st σ K) : wp E mi pc0 ls0 st σ Q := by
  unfold v_store at h
  split at h
  · split at h
    · rename_i hz
      refine vs_go hf hK (hs.trans ?_) h
      simp only [s_store, hz]
    · exact h.elim
  · exact h.elim
theorem vs_aload {st : List Value} {σ : ASt} {k : Nat} (hf : fnd (mCode mi) pc0 = some (o, nx, ct)) (hK : ∀ pc ls st σ, K pc ls st σ → wp E mi pc ls st σ Q) (hs : step E o nx (ls0.take ct) st σ = s_aload k nx (ls0.take ct) st σ) (h : v_aload k nx (ls0.take ct) st σ K) : wp E mi pc0 ls0 st σ Q := by
  unfold v_aload at h
  split at h
  · obtain ⟨n, h1, h2, h3⟩ := h
    refine vs_go hf hK (hs.trans ?_) h3
    unfold sh at h1
    simp only [s_aload, h1, inB_of h2, and_self, if_true]
    rfl
  · exact h.elim
theorem vs_astore {st : List Value} {σ : ASt} {k : Nat} (hf : fnd (mCode mi) pc0 = some (o, nx, ct)) (hK : ∀ pc ls st σ, K pc ls st σ → wp E mi pc ls st σ Q) (hs : step E o nx (ls0.take ct) st σ = s_astore k nx (ls0.take ct) st σ) (h : v_astore k nx (ls0.take ct) st σ K) : wp E mi pc0 ls0 st σ Q := by
  unfold v_astore at h
  split at h
  · obtain ⟨n, h1, h2, h3⟩ := h
    refine vs_go hf hK (hs.trans ?_) (h3 _ rfl)
    unfold sh at h1
    simp only [s_astore, h1, inB_of h2, and_self, if_true]
  · exact h.elim
theorem vs_cont {c : Nat} {as st rest : List Value} {σ : ASt} (hf : fnd (mCode mi) pc0 = some (o, nx, ct)) (hK : ∀ pc ls st σ, K pc ls st σ → wp E mi pc ls st σ Q) (hs : step E o nx (ls0.take ct) st σ = some (.inr (.inl (c, as, rest)))) (h : v_cont E c as nx (ls0.take ct) rest σ K) : wp E mi pc0 ls0 st σ Q := by
  unfold v_cont at h
  split at h
  · refine wp_cl hf hs (wp_mono h ?_)
    intro r s hq
    unfold QV at hq
    split at hq
    · exact hK _ _ _ _ hq
    · exact hq.elim
  · refine wp_cl hf hs (wp_mono h ?_)
    intro r s hq
    unfold QR at hq
    split at hq
    · exact hK _ _ _ _ hq
    · exact hq.elim
  · refine wp_cl hf hs (wp_mono h ?_)
    intro r s hq
    unfold QI at hq
    split at hq
    · exact hK _ _ _ _ hq
    · exact hq.elim
theorem vs_call {c : Nat} {st : List Value} {σ : ASt} (virt : Bool) (hf : fnd (mCode mi) pc0 = some (o, nx, ct)) (hK : ∀ pc ls st σ, K pc ls st σ → wp E mi pc ls st σ Q) (hs : step E o nx (ls0.take ct) st σ = s_call virt c st σ) (h : v_call E virt c nx (ls0.take ct) st σ K) : wp E mi pc0 ls0 st σ Q := by
  unfold v_call at h
  split at h
  · exact h.elim
  · rename_i hc
    split at h
    · refine vs_cont hf hK (hs.trans ?_) h
      simp only [s_call, hc]
    · split at h
      · rename_i r as ha
        refine vs_cont hf hK (hs.trans ?_) h.2
        have h1 := h.1
        unfold sh at h1
        rw [ha] at hc
        simp only [s_call, ha, hc, h1, if_true]
      · exact h.elim
end VC1
set_option maxHeartbeats 4000000 in
theorem vst_ok {E : AEnv} {mi pc0 nx ct : Nat} {ls0 : List Value} {Q : Option Value → ASt → Prop} {K : AK} {o : Instr} {st : List Value} {σ : ASt} (hf : fnd (mCode mi) pc0 = some (o, nx, ct)) (hK : ∀ pc ls st σ, K pc ls st σ → wp E mi pc ls st σ Q) (h : vst E o nx (ls0.take ct) st σ K Q) : wp E mi pc0 ls0 st σ Q := by
  unfold vst at h
  split at h
  · exact vs_go hf hK rfl h
  · exact vs_go hf hK rfl h
  · split at h
    · rename_i hz; exact vs_go hf hK (by simp only [step, hz]) h
    · exact h.elim
  · split at h
    · rename_i hz; exact vs_go hf hK (by simp only [step, hz]) h
    · exact h.elim
  · split at h
    · rename_i hz; exact vs_go hf hK (by simp only [step, hz]) h
    · exact h.elim
  · split at h
    · exact vs_store hf hK rfl h
    · exact h.elim
  · split at h
    · exact vs_store hf hK rfl h
    · exact h.elim
  · split at h
    · exact vs_store hf hK rfl h
    · exact h.elim
  · split at h
    · rename_i hz; exact vs_go hf hK (by simp only [step, hz]) h
    · exact h.elim
  · exact vs_alu hf hK rfl h
  · exact vs_alu hf hK rfl h
  · exact vs_alu hf hK rfl h
  · exact vs_alu hf hK rfl h
  · exact vs_alu hf hK rfl h
  · exact vs_alu hf hK rfl h
  · exact vs_alu hf hK rfl h
  · exact vs_alu hf hK rfl h
  · exact vs_alu hf hK rfl h
  · exact vs_alu hf hK rfl h
  · exact vs_falu hf hK rfl h
  · exact vs_falu hf hK rfl h
  · exact vs_falu hf hK rfl h
  · split at h
    · exact vs_go hf hK rfl h
    · exact h.elim
  · split at h
    · exact vs_go hf hK rfl h
    · exact h.elim
  · split at h
    · exact vs_go hf hK rfl h
    · exact h.elim
  · split at h
    · exact vs_go hf hK rfl h
    · exact h.elim
  · split at h
    · split at h
      · rename_i hz; exact vs_go hf hK (by simp only [step, hz]) h
      · exact h.elim
    · exact h.elim
  · split at h
    · split at h
      · rename_i hz; exact vs_go hf hK (by simp only [step, hz]) h
      · exact h.elim
    · exact h.elim
  · split at h
    · split at h
      · rename_i hz; exact vs_go hf hK (by simp only [step, hz]) h
      · exact h.elim
    · exact h.elim
  · exact vs_go hf hK rfl h
  · split at h
    · rename_i c t st x rest
      cases hc : cndB c x 0 with
      | true => exact vs_go hf hK (by simp only [step, hc]) (h.1 ((cndB_iff _ _ _).mp hc))
      | false => exact vs_go hf hK (by simp only [step, hc]) (h.2 (fun z => by rw [(cndB_iff _ _ _).mpr z] at hc; cases hc))
    · exact h.elim
  · split at h
    · rename_i c t st y x rest
      cases hc : cndB c x y with
      | true => exact vs_go hf hK (by simp only [step, hc]) (h.1 ((cndB_iff _ _ _).mp hc))
      | false => exact vs_go hf hK (by simp only [step, hc]) (h.2 (fun z => by rw [(cndB_iff _ _ _).mpr z] at hc; cases hc))
    · exact h.elim
  · split at h
    · rcases swV_ok _ _ h with ⟨t, h1, h2⟩ | ⟨h1, h2⟩
      · exact vs_go hf hK (by simp only [step, h1]) h2
      · exact vs_go hf hK (by simp only [step, h1]) h2
    · exact h.elim
  · split at h
    · exact vs_go hf hK rfl (lkV_ok _ h)
    · exact h.elim
  · split at h
    · obtain ⟨h1, h⟩ := h
      unfold sh at h1
      split at h
      · rename_i hty
        obtain ⟨r, h2, h3⟩ := h
        unfold rf at h2
        exact vs_go hf hK (by simp only [step, h1, if_true, hty, h2]) h3
      · rename_i hty
        refine vs_go hf hK ?_ h
        simp only [step, h1, if_true]
        rfl
    · exact h.elim
  · split at h
    · obtain ⟨h1, h⟩ := h
      unfold sh at h1
      split at h
      · rename_i hty; exact vs_go hf hK (by simp only [step, h1, if_true, hty]) (h _ rfl)
      · rename_i hty; exact vs_go hf hK (by simp only [step, h1, if_true, hty]) (h _ rfl)
      · rename_i hty; exact vs_go hf hK (by simp only [step, h1, if_true, hty, h.1]) (h.2 _ rfl)
      · rename_i hty; exact vs_go hf hK (by simp only [step, h1, if_true, hty, h.1]) (h.2 _ rfl)
      · exact h.elim
    · exact h.elim
  · exact vs_go hf hK rfl h
  · exact vs_aload hf hK rfl h
  · exact vs_aload hf hK rfl h
  · exact vs_aload hf hK rfl h
  · exact vs_astore hf hK rfl h
  · exact vs_astore hf hK rfl h
  · exact vs_astore hf hK rfl h
  · split at h
    · split at h
      · rename_i hz
        obtain ⟨h1, h⟩ := h
        simp only [Bool.and_eq_true, Nat.ble_eq, Nat.blt_eq] at hz
        exact vs_go hf hK (by simp only [step, hz.1, hz.2, inB_of h1, and_self, if_true]) h
      · exact h.elim
    · exact h.elim
  · split at h
    · split at h
      · rename_i hz
        simp only [Bool.and_eq_true, Nat.ble_eq, Nat.blt_eq] at hz
        exact vs_go hf hK (by simp only [step, hz.1, hz.2, and_self, if_true]) h
      · exact h.elim
    · exact h.elim
  · split at h
    · obtain ⟨n, r, h1, h2, h3, h⟩ := h
      unfold sh at h1
      unfold rf at h3
      exact vs_go hf hK (by simp only [step, h1, inB_of h2, and_self, if_true, h3]) h
    · exact h.elim
  · split at h
    · obtain ⟨n, h1, h2, h3, h⟩ := h
      unfold sh at h1 h3
      exact vs_go hf hK (by simp only [step, h1, inB_of h2, h3, and_self, if_true]) (h _ rfl)
    · exact h.elim
  · split at h
    · split at h
      · rename_i hz; exact vs_go hf hK (by simp only [step, hz]) h
      · exact h.elim
    · exact h.elim
  · exact vs_call true hf hK rfl h
  · exact vs_call false hf hK rfl h
  · split at h
    · exact wp_rt hf rfl h
    · exact h.elim
  · split at h
    · exact wp_rt hf (by simp only [step, h.1, if_true]) h.2
    · exact h.elim
  · split at h
    · exact wp_rt hf rfl h
    · exact h.elim
  · split at h
    · exact wp_rt hf rfl h
    · exact h.elim
  · exact h.elim
theorem wp_cut {E : AEnv} {mi pc nx ct : Nat} {ls st : List Value} {σ : ASt} {Q : Option Value → ASt → Prop} {o : Instr} (hf : fnd (mCode mi) pc = some (o, nx, ct)) (h : wp E mi pc (ls.take ct) st σ Q) : wp E mi pc ls st σ Q := by
  obtain ⟨n, r, t, h1, h2⟩ := h
  refine ⟨n, r, t, ?_, h2⟩
  cases n with
  | zero => simp [ex] at h1
  | succ n =>
    rw [ex, hf] at h1
    rw [ex, hf]
    dsimp only at h1 ⊢
    rw [List.take_take, Nat.min_self] at h1
    exact h1
theorem vc_ok (E : AEnv) (mi : Nat) (stop : List Nat) (Q : Option Value → ASt → Prop) : ∀ (n : Nat) (b : Bool) (pc : Nat) (ls st : List Value) (σ : ASt), vc E mi stop Q n b pc ls st σ → wp E mi pc ls st σ Q
  | 0, _, _, _, _, _, h => h
  | n + 1, b, pc, ls, st, σ, h => by
    unfold vc at h
    split at h
    · exact h.elim
    · rename_i o nx ct hf
      split at h
      · exact wp_cut hf h
      · exact vst_ok hf (vc_ok E mi stop Q n true) h
end
section
/-! the written tables, and the script, as the small machine has them -/
def tbK (j : Nat) : List Int32 := match j with
  | 0 => [1, 30, 10, 0, 3, 12, 0, 40]
  | 1 => [0, 1, 0, 0, 0, 0, 0, 0]
  | _ => [4, 100, 99, 1, 30, 99, 1, 99]
def lawE (L : Nat) (xs : Nat → Int32) : AEnv := fun k => match k with
  | 3 => (L, xs)
  | k => (8, fun j => (tbK k).getD j 0)
def lawI : Nat := 173
def sig0 : ASt := ([], (fun _ _ => 0), (fun _ _ => 0))
end
section
-- 1 CoatedBridges$Book.copyFrom(LCoatedBridges$Book;)V
theorem sg1_0 {E : AEnv} {a0 : Nat} {a1 : Nat} {s : ASt} {Q : Option Value → ASt → Prop} (h :
  sh s a1 0 3 ∧ sh s a0 0 3 ∧ nw (wrI s a0 2 (gI s a1 2)) (fun s1 =>
  wp E 1 10 [.ref a0, .ref a1, .int (nI 0)] [] s1 Q)) : wp E 1 0 [.ref a0, .ref a1] [] s Q := vc_ok E 1 [10] Q 8 false 0 _ _ _ h
theorem sg1_10 {E : AEnv} {a0 : Nat} {a1 : Nat} {a2 : Int32} {s : ASt} {Q : Option Value → ASt → Prop} (h :
  ((nI 8) ≤ a2 →
    Q none s) ∧
  (¬ (nI 8) ≤ a2 →
    sh s a0 0 3 ∧ ∃ r1, rf s a0 0 r1 ∧ sh s a1 0 3 ∧ ∃ r2, rf s a1 0 r2 ∧ ∃ n3, sh s r2 10 n3 ∧ vp_in a2 n3 ∧ ∃ n4, sh s r1 10 n4 ∧ vp_in a2 n4 ∧ nw (wrI s r1 (a2).toNatClampNeg (gI s r2 (a2).toNatClampNeg)) (fun s5 =>
    sh s5 a0 0 3 ∧ ∃ r6, rf s5 a0 1 r6 ∧ sh s5 a1 0 3 ∧ ∃ r7, rf s5 a1 1 r7 ∧ ∃ n8, sh s5 r7 10 n8 ∧ vp_in a2 n8 ∧ ∃ n9, sh s5 r6 10 n9 ∧ vp_in a2 n9 ∧ nw (wrI s5 r6 (a2).toNatClampNeg (gI s5 r7 (a2).toNatClampNeg)) (fun s10 =>
    wp E 1 10 [.ref a0, .ref a1, .int (a2 + (nI 1))] [] s10 Q)))) : wp E 1 10 [.ref a0, .ref a1, .int a2] [] s Q := vc_ok E 1 [10] Q 23 false 10 _ _ _ h
-- 2 CoatedBridges$Book.note(II)V
theorem sg2_0 {E : AEnv} {a0 : Nat} {a1 : Int32} {a2 : Int32} {s : ASt} {Q : Option Value → ASt → Prop} (h :
  sh s a0 0 3 ∧ ((gI s a0 2) < (nI 8) →
    sh s a0 0 3 ∧ ∃ r1, rf s a0 0 r1 ∧ sh s a0 0 3 ∧ ∃ n2, sh s r1 10 n2 ∧ vp_in (gI s a0 2) n2 ∧ nw (wrI s r1 ((gI s a0 2)).toNatClampNeg a1) (fun s3 =>
    sh s3 a0 0 3 ∧ ∃ r4, rf s3 a0 1 r4 ∧ sh s3 a0 0 3 ∧ ∃ n5, sh s3 r4 10 n5 ∧ vp_in (gI s3 a0 2) n5 ∧ nw (wrI s3 r4 ((gI s3 a0 2)).toNatClampNeg a2) (fun s6 =>
    sh s6 a0 0 3 ∧ sh s6 a0 0 3 ∧ nw (wrI s6 a0 2 ((gI s6 a0 2) + (nI 1))) (fun s7 =>
    Q none s7)))) ∧
  (¬ (gI s a0 2) < (nI 8) →
    sh s a0 0 3 ∧ cV E 3 [.ref a0] s (fun s8 =>
    sh s8 a0 0 3 ∧ ∃ r9, rf s8 a0 0 r9 ∧ sh s8 a0 0 3 ∧ ∃ n10, sh s8 r9 10 n10 ∧ vp_in (gI s8 a0 2) n10 ∧ nw (wrI s8 r9 ((gI s8 a0 2)).toNatClampNeg a1) (fun s11 =>
    sh s11 a0 0 3 ∧ ∃ r12, rf s11 a0 1 r12 ∧ sh s11 a0 0 3 ∧ ∃ n13, sh s11 r12 10 n13 ∧ vp_in (gI s11 a0 2) n13 ∧ nw (wrI s11 r12 ((gI s11 a0 2)).toNatClampNeg a2) (fun s14 =>
    sh s14 a0 0 3 ∧ sh s14 a0 0 3 ∧ nw (wrI s14 a0 2 ((gI s14 a0 2) + (nI 1))) (fun s15 =>
    Q none s15)))))) : wp E 2 0 [.ref a0, .int a1, .int a2] [] s Q := vc_ok E 2 [] Q 26 false 0 _ _ _ h
-- 3 CoatedBridges$Book.dropFirst()V
theorem sg3_0 {E : AEnv} {a0 : Nat} {s : ASt} {Q : Option Value → ASt → Prop} (h :
  wp E 3 2 [.ref a0, .int (nI 1)] [] s Q) : wp E 3 0 [.ref a0] [] s Q := vc_ok E 3 [2] Q 4 false 0 _ _ _ h
theorem sg3_2 {E : AEnv} {a0 : Nat} {a1 : Int32} {s : ASt} {Q : Option Value → ASt → Prop} (h :
  ((nI 8) ≤ a1 →
    sh s a0 0 3 ∧ nw (wrI s a0 2 (nI 7)) (fun s1 =>
    Q none s1)) ∧
  (¬ (nI 8) ≤ a1 →
    sh s a0 0 3 ∧ ∃ r2, rf s a0 0 r2 ∧ sh s a0 0 3 ∧ ∃ r3, rf s a0 0 r3 ∧ ∃ n4, sh s r3 10 n4 ∧ vp_in a1 n4 ∧ ∃ n5, sh s r2 10 n5 ∧ vp_in (a1 - (nI 1)) n5 ∧ nw (wrI s r2 ((a1 - (nI 1))).toNatClampNeg (gI s r3 (a1).toNatClampNeg)) (fun s6 =>
    sh s6 a0 0 3 ∧ ∃ r7, rf s6 a0 1 r7 ∧ sh s6 a0 0 3 ∧ ∃ r8, rf s6 a0 1 r8 ∧ ∃ n9, sh s6 r8 10 n9 ∧ vp_in a1 n9 ∧ ∃ n10, sh s6 r7 10 n10 ∧ vp_in (a1 - (nI 1)) n10 ∧ nw (wrI s6 r7 ((a1 - (nI 1))).toNatClampNeg (gI s6 r8 (a1).toNatClampNeg)) (fun s11 =>
    wp E 3 2 [.ref a0, .int (a1 + (nI 1))] [] s11 Q)))) : wp E 3 2 [.ref a0, .int a1] [] s Q := vc_ok E 3 [2] Q 27 false 2 _ _ _ h
-- 4 CoatedBridges$Book.dayAgo(I)I
theorem sg4_0 {E : AEnv} {a0 : Nat} {a1 : Int32} {s : ASt} {Q : Option Value → ASt → Prop} (h :
  sh s a0 0 3 ∧ ((gI s a0 2) ≤ a1 →
    Q (some (.int (-1000004 : Int32))) s) ∧
  (¬ (gI s a0 2) ≤ a1 →
    sh s a0 0 3 ∧ ∃ r1, rf s a0 0 r1 ∧ sh s a0 0 3 ∧ ∃ n2, sh s r1 10 n2 ∧ vp_in (((gI s a0 2) - (nI 1)) - a1) n2 ∧ Q (some (.int (gI s r1 ((((gI s a0 2) - (nI 1)) - a1)).toNatClampNeg))) s)) : wp E 4 0 [.ref a0, .int a1] [] s Q := vc_ok E 4 [] Q 16 false 0 _ _ _ h
-- 5 CoatedBridges$Book.complaintsAgo(I)I
theorem sg5_0 {E : AEnv} {a0 : Nat} {a1 : Int32} {s : ASt} {Q : Option Value → ASt → Prop} (h :
  sh s a0 0 3 ∧ ((gI s a0 2) ≤ a1 →
    Q (some (.int (-1000004 : Int32))) s) ∧
  (¬ (gI s a0 2) ≤ a1 →
    sh s a0 0 3 ∧ ∃ r1, rf s a0 1 r1 ∧ sh s a0 0 3 ∧ ∃ n2, sh s r1 10 n2 ∧ vp_in (((gI s a0 2) - (nI 1)) - a1) n2 ∧ Q (some (.int (gI s r1 ((((gI s a0 2) - (nI 1)) - a1)).toNatClampNeg))) s)) : wp E 5 0 [.ref a0, .int a1] [] s Q := vc_ok E 5 [] Q 16 false 0 _ _ _ h
-- 7 CoatedBridges$Bridge.begin(III)V
theorem sg7_0 {E : AEnv} {a0 : Nat} {a1 : Int32} {a2 : Int32} {a3 : Int32} {s : ASt} {Q : Option Value → ASt → Prop} (h :
  sh s a0 1 9 ∧ nw (wrI s a0 0 a1) (fun s1 =>
  sh s1 a0 1 9 ∧ nw (wrI s1 a0 1 a2) (fun s2 =>
  sh s2 a0 1 9 ∧ nw (wrI s2 a0 2 (((nI 1) <<< (a1 &&& 31)) ||| ((nI 1) <<< (a2 &&& 31)))) (fun s3 =>
  sh s3 a0 1 9 ∧ nw (wrI s3 a0 3 a3) (fun s4 =>
  sh s4 a0 1 9 ∧ nw (wrI s4 a0 4 (nI 100)) (fun s5 =>
  sh s5 a0 1 9 ∧ nw (wrI s5 a0 5 (nI 0)) (fun s6 =>
  sh s6 a0 1 9 ∧ nw (wrI s6 a0 6 (nI 0)) (fun s7 =>
  sh s7 a0 1 9 ∧ nw (wrI s7 a0 7 (nI 0)) (fun s8 =>
  sh s8 a0 1 9 ∧ nw (wrI s8 a0 8 (nI 0)) (fun s9 =>
  Q none s9)))))))))) : wp E 7 0 [.ref a0, .int a1, .int a2, .int a3] [] s Q := vc_ok E 7 [] Q 35 false 0 _ _ _ h
-- 8 CoatedBridges$Bridge.copyFrom(LCoatedBridges$Bridge;)V
theorem sg8_0 {E : AEnv} {a0 : Nat} {a1 : Nat} {s : ASt} {Q : Option Value → ASt → Prop} (h :
  sh s a1 1 9 ∧ sh s a0 1 9 ∧ nw (wrI s a0 0 (gI s a1 0)) (fun s1 =>
  sh s1 a1 1 9 ∧ sh s1 a0 1 9 ∧ nw (wrI s1 a0 1 (gI s1 a1 1)) (fun s2 =>
  sh s2 a1 1 9 ∧ sh s2 a0 1 9 ∧ nw (wrI s2 a0 2 (gI s2 a1 2)) (fun s3 =>
  sh s3 a1 1 9 ∧ sh s3 a0 1 9 ∧ nw (wrI s3 a0 3 (gI s3 a1 3)) (fun s4 =>
  sh s4 a1 1 9 ∧ sh s4 a0 1 9 ∧ nw (wrI s4 a0 4 (gI s4 a1 4)) (fun s5 =>
  sh s5 a1 1 9 ∧ sh s5 a0 1 9 ∧ nw (wrI s5 a0 5 (gI s5 a1 5)) (fun s6 =>
  sh s6 a1 1 9 ∧ sh s6 a0 1 9 ∧ nw (wrI s6 a0 6 (gI s6 a1 6)) (fun s7 =>
  sh s7 a1 1 9 ∧ sh s7 a0 1 9 ∧ nw (wrI s7 a0 7 (gI s7 a1 7)) (fun s8 =>
  sh s8 a1 1 9 ∧ sh s8 a0 1 9 ∧ nw (wrI s8 a0 8 (gI s8 a1 8)) (fun s9 =>
  Q none s9)))))))))) : wp E 8 0 [.ref a0, .ref a1] [] s Q := vc_ok E 8 [] Q 38 false 0 _ _ _ h
-- 9 CoatedBridges$Bridge.takeCrew()V
theorem sg9_0 {E : AEnv} {a0 : Nat} {s : ASt} {Q : Option Value → ASt → Prop} (h :
  sh s a0 1 9 ∧ nw (wrI s a0 5 (nI 1)) (fun s1 =>
  sh s1 a0 1 9 ∧ sh s1 a0 1 9 ∧ nw (wrI s1 a0 6 ((gI s1 a0 6) + (nI 1))) (fun s2 =>
  Q none s2))) : wp E 9 0 [.ref a0] [] s Q := vc_ok E 9 [] Q 11 false 0 _ _ _ h
-- 10 CoatedBridges$Bridge.loseCrew()V
theorem sg10_0 {E : AEnv} {a0 : Nat} {s : ASt} {Q : Option Value → ASt → Prop} (h :
  sh s a0 1 9 ∧ ((gI s a0 4) ≠ (nI 0) →
    sh s a0 1 9 ∧ nw (wrI s a0 5 (nI 0)) (fun s1 =>
    Q none s1)) ∧
  (¬ (gI s a0 4) ≠ (nI 0) →
    sh s a0 1 9 ∧ nw (wrI s a0 5 (nI 2)) (fun s2 =>
    Q none s2))) : wp E 10 0 [.ref a0] [] s Q := vc_ok E 10 [] Q 9 false 0 _ _ _ h
-- 11 CoatedBridges$Bridge.paint(II)V
theorem sg11_0 {E : AEnv} {a0 : Nat} {a1 : Int32} {a2 : Int32} {s : ASt} {Q : Option Value → ASt → Prop} (h :
  sh s a0 1 9 ∧ sh s a0 1 9 ∧ nw (wrI s a0 8 ((gI s a0 8) + a2)) (fun s1 =>
  sh s1 a0 1 9 ∧ cI E 172 [.int ((gI s1 a0 4) + a1), .int (nI 100)] s1 (fun x3 s2 =>
  sh s2 a0 1 9 ∧ nw (wrI s2 a0 4 x3) (fun s4 =>
  sh s4 a0 1 9 ∧ ((gI s4 a0 4) ≠ (nI 100) →
    Q none s4) ∧
  (¬ (gI s4 a0 4) ≠ (nI 100) →
    sh s4 a0 1 9 ∧ cV E 10 [.ref a0] s4 (fun s5 =>
    Q none s5)))))) : wp E 11 0 [.ref a0, .int a1, .int a2] [] s Q := vc_ok E 11 [] Q 22 false 0 _ _ _ h
-- 12 CoatedBridges$Bridge.wearOff()V
theorem sg12_0 {E : AEnv} {a0 : Nat} {s : ASt} {Q : Option Value → ASt → Prop} (h :
  sh s a0 1 9 ∧ sh s a0 1 9 ∧ cI E 171 [.int ((gI s a0 4) - (gI s a0 3)), .int (nI 0)] s (fun x2 s1 =>
  sh s1 a0 1 9 ∧ nw (wrI s1 a0 4 x2) (fun s3 =>
  sh s3 a0 1 9 ∧ ((gI s3 a0 4) ≠ (nI 0) →
    Q none s3) ∧
  (¬ (gI s3 a0 4) ≠ (nI 0) →
    sh s3 a0 1 9 ∧ nw (wrI s3 a0 5 (nI 2)) (fun s4 =>
    Q none s4))))) : wp E 12 0 [.ref a0] [] s Q := vc_ok E 12 [] Q 17 false 0 _ _ _ h
-- 13 CoatedBridges$Bridge.daysUntilRusted()I
theorem sg13_0 {E : AEnv} {a0 : Nat} {s : ASt} {Q : Option Value → ASt → Prop} (h :
  wp E 13 2 [.ref a0, .int (nI 0)] [] s Q) : wp E 13 0 [.ref a0] [] s Q := vc_ok E 13 [2] Q 4 false 0 _ _ _ h
theorem sg13_2 {E : AEnv} {a0 : Nat} {a1 : Int32} {s : ASt} {Q : Option Value → ASt → Prop} (h :
  ((nI 100) ≤ a1 →
    Q (some (.int a1)) s) ∧
  (¬ (nI 100) ≤ a1 →
    sh s a0 1 9 ∧ sh s a0 1 9 ∧ ((gI s a0 4) ≤ (a1 * (gI s a0 3)) →
      Q (some (.int a1)) s) ∧
    (¬ (gI s a0 4) ≤ (a1 * (gI s a0 3)) →
      wp E 13 2 [.ref a0, .int (a1 + (nI 1))] [] s Q))) : wp E 13 2 [.ref a0, .int a1] [] s Q := vc_ok E 13 [2] Q 14 false 2 _ _ _ h
-- 15 CoatedBridges$Island.begin(I)V
theorem sg15_0 {E : AEnv} {a0 : Nat} {a1 : Int32} {s : ASt} {Q : Option Value → ASt → Prop} (h :
  sh s a0 2 5 ∧ nw (wrI s a0 0 a1) (fun s1 =>
  sh s1 a0 2 5 ∧ nw (wrI s1 a0 1 (nI 0)) (fun s2 =>
  sh s2 a0 2 5 ∧ nw (wrI s2 a0 2 (nI 0)) (fun s3 =>
  sh s3 a0 2 5 ∧ nw (wrI s3 a0 3 (nI 0)) (fun s4 =>
  sh s4 a0 2 5 ∧ nw (wrI s4 a0 4 (nI 0)) (fun s5 =>
  Q none s5)))))) : wp E 15 0 [.ref a0, .int a1] [] s Q := vc_ok E 15 [] Q 17 false 0 _ _ _ h
-- 16 CoatedBridges$Island.copyFrom(LCoatedBridges$Island;)V
theorem sg16_0 {E : AEnv} {a0 : Nat} {a1 : Nat} {s : ASt} {Q : Option Value → ASt → Prop} (h :
  sh s a1 2 5 ∧ sh s a0 2 5 ∧ nw (wrI s a0 0 (gI s a1 0)) (fun s1 =>
  sh s1 a1 2 5 ∧ sh s1 a0 2 5 ∧ nw (wrI s1 a0 1 (gI s1 a1 1)) (fun s2 =>
  sh s2 a1 2 5 ∧ sh s2 a0 2 5 ∧ nw (wrI s2 a0 2 (gI s2 a1 2)) (fun s3 =>
  sh s3 a1 2 5 ∧ sh s3 a0 2 5 ∧ nw (wrI s3 a0 3 (gI s3 a1 3)) (fun s4 =>
  sh s4 a1 2 5 ∧ sh s4 a0 2 5 ∧ nw (wrI s4 a0 4 (gI s4 a1 4)) (fun s5 =>
  Q none s5)))))) : wp E 16 0 [.ref a0, .ref a1] [] s Q := vc_ok E 16 [] Q 22 false 0 _ _ _ h
-- 17 CoatedBridges$Island.waitAlone(I)Z
theorem sg17_0 {E : AEnv} {a0 : Nat} {a1 : Int32} {s : ASt} {Q : Option Value → ASt → Prop} (h :
  sh s a0 2 5 ∧ sh s a0 2 5 ∧ nw (wrI s a0 1 ((gI s a0 1) + (nI 1))) (fun s1 =>
  sh s1 a0 2 5 ∧ sh s1 a0 2 5 ∧ cI E 171 [.int (gI s1 a0 2), .int (gI s1 a0 1)] s1 (fun x3 s2 =>
  sh s2 a0 2 5 ∧ nw (wrI s2 a0 2 x3) (fun s4 =>
  sh s4 a0 2 5 ∧ (a1 < (gI s4 a0 1) →
    sh s4 a0 2 5 ∧ sh s4 a0 2 5 ∧ nw (wrI s4 a0 3 ((gI s4 a0 3) + (nI 1))) (fun s5 =>
    fN .boolean (nI 1) = true ∧ Q (some (.int (nI 1))) s5)) ∧
  (¬ a1 < (gI s4 a0 1) →
    fN .boolean (nI 0) = true ∧ Q (some (.int (nI 0))) s4))))) : wp E 17 0 [.ref a0, .int a1] [] s Q := vc_ok E 17 [] Q 26 false 0 _ _ _ h
-- 19 CoatedBridges$State.copyFrom(LCoatedBridges$State;)V
theorem sg19_0 {E : AEnv} {a0 : Nat} {a1 : Nat} {s : ASt} {Q : Option Value → ASt → Prop} (h :
  sh s a1 3 11 ∧ sh s a0 3 11 ∧ nw (wrI s a0 4 (gI s a1 4)) (fun s1 =>
  wp E 19 10 [.ref a0, .ref a1, .int (nI 0)] [] s1 Q)) : wp E 19 0 [.ref a0, .ref a1] [] s Q := vc_ok E 19 [10, 49, 80] Q 8 false 0 _ _ _ h
theorem sg19_10 {E : AEnv} {a0 : Nat} {a1 : Nat} {a2 : Int32} {s : ASt} {Q : Option Value → ASt → Prop} (h :
  sh s a0 3 11 ∧ ((gI s a0 4) ≤ a2 →
    sh s a1 3 11 ∧ sh s a0 3 11 ∧ nw (wrI s a0 5 (gI s a1 5)) (fun s1 =>
    wp E 19 49 [.ref a0, .ref a1, .int (nI 0)] [] s1 Q)) ∧
  (¬ (gI s a0 4) ≤ a2 →
    sh s a0 3 11 ∧ ∃ r2, rf s a0 0 r2 ∧ ∃ n3 r4, sh s r2 13 n3 ∧ vp_in a2 n3 ∧ rf s r2 (a2).toNatClampNeg r4 ∧ sh s a1 3 11 ∧ ∃ r5, rf s a1 0 r5 ∧ ∃ n6 r7, sh s r5 13 n6 ∧ vp_in a2 n6 ∧ rf s r5 (a2).toNatClampNeg r7 ∧ sh s r4 2 5 ∧ cV E 16 [.ref r4, .ref r7] s (fun s8 =>
    wp E 19 10 [.ref a0, .ref a1, .int (a2 + (nI 1))] [] s8 Q))) : wp E 19 10 [.ref a0, .ref a1, .int a2] [] s Q := vc_ok E 19 [10, 49, 80] Q 17 false 10 _ _ _ h
theorem sg19_49 {E : AEnv} {a0 : Nat} {a1 : Nat} {a2 : Int32} {s : ASt} {Q : Option Value → ASt → Prop} (h :
  sh s a0 3 11 ∧ ((gI s a0 5) ≤ a2 →
    wp E 19 80 [.ref a0, .ref a1, .int (nI 0)] [] s Q) ∧
  (¬ (gI s a0 5) ≤ a2 →
    sh s a0 3 11 ∧ ∃ r1, rf s a0 1 r1 ∧ ∃ n2 r3, sh s r1 14 n2 ∧ vp_in a2 n2 ∧ rf s r1 (a2).toNatClampNeg r3 ∧ sh s a1 3 11 ∧ ∃ r4, rf s a1 1 r4 ∧ ∃ n5 r6, sh s r4 14 n5 ∧ vp_in a2 n5 ∧ rf s r4 (a2).toNatClampNeg r6 ∧ sh s r3 1 9 ∧ cV E 8 [.ref r3, .ref r6] s (fun s7 =>
    wp E 19 49 [.ref a0, .ref a1, .int (a2 + (nI 1))] [] s7 Q))) : wp E 19 49 [.ref a0, .ref a1, .int a2] [] s Q := vc_ok E 19 [10, 49, 80] Q 17 false 49 _ _ _ h
theorem sg19_80 {E : AEnv} {a0 : Nat} {a1 : Nat} {a2 : Int32} {s : ASt} {Q : Option Value → ASt → Prop} (h :
  ((nI 8) ≤ a2 →
    sh s a0 3 11 ∧ ∃ r1, rf s a0 3 r1 ∧ sh s a1 3 11 ∧ ∃ r2, rf s a1 3 r2 ∧ sh s r1 0 3 ∧ cV E 1 [.ref r1, .ref r2] s (fun s3 =>
    sh s3 a1 3 11 ∧ sh s3 a0 3 11 ∧ nw (wrI s3 a0 6 (gI s3 a1 6)) (fun s4 =>
    sh s4 a1 3 11 ∧ sh s4 a0 3 11 ∧ nw (wrI s4 a0 7 (gI s4 a1 7)) (fun s5 =>
    sh s5 a1 3 11 ∧ sh s5 a0 3 11 ∧ nw (wrI s5 a0 8 (gI s5 a1 8)) (fun s6 =>
    sh s6 a1 3 11 ∧ sh s6 a0 3 11 ∧ nw (wrI s6 a0 9 (gI s6 a1 9)) (fun s7 =>
    sh s7 a1 3 11 ∧ sh s7 a0 3 11 ∧ nw (wrI s7 a0 10 (gI s7 a1 10)) (fun s8 =>
    Q none s8))))))) ∧
  (¬ (nI 8) ≤ a2 →
    sh s a0 3 11 ∧ ∃ r9, rf s a0 2 r9 ∧ sh s a1 3 11 ∧ ∃ r10, rf s a1 2 r10 ∧ ∃ n11, sh s r10 10 n11 ∧ vp_in a2 n11 ∧ ∃ n12, sh s r9 10 n12 ∧ vp_in a2 n12 ∧ nw (wrI s r9 (a2).toNatClampNeg (gI s r10 (a2).toNatClampNeg)) (fun s13 =>
    wp E 19 80 [.ref a0, .ref a1, .int (a2 + (nI 1))] [] s13 Q))) : wp E 19 80 [.ref a0, .ref a1, .int a2] [] s Q := vc_ok E 19 [10, 49, 80] Q 30 false 80 _ _ _ h
-- 20 CoatedBridges$State.hasIsland(I)Z
theorem sg20_0 {E : AEnv} {a0 : Nat} {a1 : Int32} {s : ASt} {Q : Option Value → ASt → Prop} (h :
  (a1 < (nI 0) →
    fN .boolean (nI 0) = true ∧ Q (some (.int (nI 0))) s) ∧
  (¬ a1 < (nI 0) →
    sh s a0 3 11 ∧ ((gI s a0 4) ≤ a1 →
      fN .boolean (nI 0) = true ∧ Q (some (.int (nI 0))) s) ∧
    (¬ (gI s a0 4) ≤ a1 →
      fN .boolean (nI 1) = true ∧ Q (some (.int (nI 1))) s))) : wp E 20 0 [.ref a0, .int a1] [] s Q := vc_ok E 20 [] Q 10 false 0 _ _ _ h
-- 21 CoatedBridges$State.hasBridge(I)Z
theorem sg21_0 {E : AEnv} {a0 : Nat} {a1 : Int32} {s : ASt} {Q : Option Value → ASt → Prop} (h :
  (a1 < (nI 0) →
    fN .boolean (nI 0) = true ∧ Q (some (.int (nI 0))) s) ∧
  (¬ a1 < (nI 0) →
    sh s a0 3 11 ∧ ((gI s a0 5) ≤ a1 →
      fN .boolean (nI 0) = true ∧ Q (some (.int (nI 0))) s) ∧
    (¬ (gI s a0 5) ≤ a1 →
      fN .boolean (nI 1) = true ∧ Q (some (.int (nI 1))) s))) : wp E 21 0 [.ref a0, .int a1] [] s Q := vc_ok E 21 [] Q 10 false 0 _ _ _ h
-- 22 CoatedBridges$State.addIsland(I)I
theorem sg22_0 {E : AEnv} {a0 : Nat} {a1 : Int32} {s : ASt} {Q : Option Value → ASt → Prop} (h :
  (a1 < (nI 0) →
    Q (some (.int (-1000001 : Int32))) s) ∧
  (¬ a1 < (nI 0) →
    (a1 ≤ (nI 99) →
      sh s a0 3 11 ∧ ((gI s a0 4) < (nI 8) →
        sh s a0 3 11 ∧ ∃ r1, rf s a0 0 r1 ∧ sh s a0 3 11 ∧ ∃ n2 r3, sh s r1 13 n2 ∧ vp_in (gI s a0 4) n2 ∧ rf s r1 ((gI s a0 4)).toNatClampNeg r3 ∧ sh s r3 2 5 ∧ cV E 15 [.ref r3, .int a1] s (fun s4 =>
        sh s4 a0 3 11 ∧ sh s4 a0 3 11 ∧ nw (wrI s4 a0 4 ((gI s4 a0 4) + (nI 1))) (fun s5 =>
        sh s5 a0 3 11 ∧ Q (some (.int ((gI s5 a0 4) - (nI 1)))) s5))) ∧
      (¬ (gI s a0 4) < (nI 8) →
        Q (some (.int (-1000003 : Int32))) s)) ∧
    (¬ a1 ≤ (nI 99) →
      Q (some (.int (-1000001 : Int32))) s))) : wp E 22 0 [.ref a0, .int a1] [] s Q := vc_ok E 22 [] Q 28 false 0 _ _ _ h
-- 23 CoatedBridges$State.addBridge(III)I
theorem sg23_0 {E : AEnv} {a0 : Nat} {a1 : Int32} {a2 : Int32} {a3 : Int32} {s : ASt} {Q : Option Value → ASt → Prop} (h :
  sh s a0 3 11 ∧ cI E 20 [.ref a0, .int a1] s (fun x2 s1 =>
  (x2 = (nI 0) →
    Q (some (.int (-1000001 : Int32))) s1) ∧
  (¬ x2 = (nI 0) →
    sh s1 a0 3 11 ∧ cI E 20 [.ref a0, .int a2] s1 (fun x4 s3 =>
    (x4 = (nI 0) →
      Q (some (.int (-1000001 : Int32))) s3) ∧
    (¬ x4 = (nI 0) →
      (a1 = a2 →
        Q (some (.int (-1000001 : Int32))) s3) ∧
      (¬ a1 = a2 →
        (a3 < (nI 1) →
          Q (some (.int (-1000001 : Int32))) s3) ∧
        (¬ a3 < (nI 1) →
          (a3 ≤ (nI 9) →
            sh s3 a0 3 11 ∧ ((gI s3 a0 5) < (nI 14) →
              sh s3 a0 3 11 ∧ ∃ r5, rf s3 a0 1 r5 ∧ sh s3 a0 3 11 ∧ ∃ n6 r7, sh s3 r5 14 n6 ∧ vp_in (gI s3 a0 5) n6 ∧ rf s3 r5 ((gI s3 a0 5)).toNatClampNeg r7 ∧ sh s3 r7 1 9 ∧ cV E 7 [.ref r7, .int a1, .int a2, .int a3] s3 (fun s8 =>
              sh s8 a0 3 11 ∧ sh s8 a0 3 11 ∧ nw (wrI s8 a0 5 ((gI s8 a0 5) + (nI 1))) (fun s9 =>
              sh s9 a0 3 11 ∧ Q (some (.int ((gI s9 a0 5) - (nI 1)))) s9))) ∧
            (¬ (gI s3 a0 5) < (nI 14) →
              Q (some (.int (-1000003 : Int32))) s3)) ∧
          (¬ a3 ≤ (nI 9) →
            Q (some (.int (-1000001 : Int32))) s3)))))))) : wp E 23 0 [.ref a0, .int a1, .int a2, .int a3] [] s Q := vc_ok E 23 [] Q 42 false 0 _ _ _ h
-- 24 CoatedBridges$State.sendCrew(II)I
theorem sg24_0 {E : AEnv} {a0 : Nat} {a1 : Int32} {a2 : Int32} {s : ASt} {Q : Option Value → ASt → Prop} (h :
  sh s a0 3 11 ∧ cI E 21 [.ref a0, .int a1] s (fun x2 s1 =>
  (x2 = (nI 0) →
    Q (some (.int (-1000001 : Int32))) s1) ∧
  (¬ x2 = (nI 0) →
    (a2 < (nI 0) →
      Q (some (.int (-1000001 : Int32))) s1) ∧
    (¬ a2 < (nI 0) →
      (a2 ≤ (nI 1) →
        sh s1 a0 3 11 ∧ cI E 36 [.ref a0, .int a1] s1 (fun x4 s3 =>
        (a2 ≠ (nI 1) →
          (x4 = (nI 0) →
            sh s3 a0 3 11 ∧ cI E 41 [.ref a0, .int a1] s3 (fun x6 s5 =>
            sh s5 a0 3 11 ∧ ∃ r7, rf s5 a0 1 r7 ∧ ∃ n8 r9, sh s5 r7 14 n8 ∧ vp_in a1 n8 ∧ rf s5 r7 (a1).toNatClampNeg r9 ∧ sh s5 r9 1 9 ∧ cV E 9 [.ref r9] s5 (fun s10 =>
            Q (some (.int x6)) s10))) ∧
          (¬ x4 = (nI 0) →
            ((nI 0) ≠ (nI 0) →
              sh s3 a0 3 11 ∧ cI E 41 [.ref a0, .int a1] s3 (fun x12 s11 =>
              sh s11 a0 3 11 ∧ ∃ r13, rf s11 a0 1 r13 ∧ ∃ n14 r15, sh s11 r13 14 n14 ∧ vp_in a1 n14 ∧ rf s11 r13 (a1).toNatClampNeg r15 ∧ sh s11 r15 1 9 ∧ cV E 9 [.ref r15] s11 (fun s16 =>
              Q (some (.int x12)) s16))) ∧
            (¬ (nI 0) ≠ (nI 0) →
              Q (some (.int (-1000002 : Int32))) s3))) ∧
        (¬ a2 ≠ (nI 1) →
          (x4 ≠ (nI 4) →
            (x4 = (nI 0) →
              sh s3 a0 3 11 ∧ cI E 41 [.ref a0, .int a1] s3 (fun x18 s17 =>
              sh s17 a0 3 11 ∧ ∃ r19, rf s17 a0 1 r19 ∧ ∃ n20 r21, sh s17 r19 14 n20 ∧ vp_in a1 n20 ∧ rf s17 r19 (a1).toNatClampNeg r21 ∧ sh s17 r21 1 9 ∧ cV E 9 [.ref r21] s17 (fun s22 =>
              Q (some (.int x18)) s22))) ∧
            (¬ x4 = (nI 0) →
              ((nI 0) ≠ (nI 0) →
                sh s3 a0 3 11 ∧ cI E 41 [.ref a0, .int a1] s3 (fun x24 s23 =>
                sh s23 a0 3 11 ∧ ∃ r25, rf s23 a0 1 r25 ∧ ∃ n26 r27, sh s23 r25 14 n26 ∧ vp_in a1 n26 ∧ rf s23 r25 (a1).toNatClampNeg r27 ∧ sh s23 r27 1 9 ∧ cV E 9 [.ref r27] s23 (fun s28 =>
                Q (some (.int x24)) s28))) ∧
              (¬ (nI 0) ≠ (nI 0) →
                Q (some (.int (-1000002 : Int32))) s3))) ∧
          (¬ x4 ≠ (nI 4) →
            (x4 = (nI 0) →
              sh s3 a0 3 11 ∧ cI E 41 [.ref a0, .int a1] s3 (fun x30 s29 =>
              sh s29 a0 3 11 ∧ ∃ r31, rf s29 a0 1 r31 ∧ ∃ n32 r33, sh s29 r31 14 n32 ∧ vp_in a1 n32 ∧ rf s29 r31 (a1).toNatClampNeg r33 ∧ sh s29 r33 1 9 ∧ cV E 9 [.ref r33] s29 (fun s34 =>
              Q (some (.int x30)) s34))) ∧
            (¬ x4 = (nI 0) →
              ((nI 1) ≠ (nI 0) →
                sh s3 a0 3 11 ∧ cI E 41 [.ref a0, .int a1] s3 (fun x36 s35 =>
                sh s35 a0 3 11 ∧ ∃ r37, rf s35 a0 1 r37 ∧ ∃ n38 r39, sh s35 r37 14 n38 ∧ vp_in a1 n38 ∧ rf s35 r37 (a1).toNatClampNeg r39 ∧ sh s35 r39 1 9 ∧ cV E 9 [.ref r39] s35 (fun s40 =>
                Q (some (.int x36)) s40))) ∧
              (¬ (nI 1) ≠ (nI 0) →
                Q (some (.int (-1000002 : Int32))) s3)))))) ∧
      (¬ a2 ≤ (nI 1) →
        Q (some (.int (-1000001 : Int32))) s1))))) : wp E 24 0 [.ref a0, .int a1, .int a2] [] s Q := vc_ok E 24 [] Q 38 false 0 _ _ _ h
-- 25 CoatedBridges$State.callBack(I)I
theorem sg25_0 {E : AEnv} {a0 : Nat} {a1 : Int32} {s : ASt} {Q : Option Value → ASt → Prop} (h :
  sh s a0 3 11 ∧ cI E 21 [.ref a0, .int a1] s (fun x2 s1 =>
  (x2 ≠ (nI 0) →
    sh s1 a0 3 11 ∧ ∃ r3, rf s1 a0 1 r3 ∧ ∃ n4 r5, sh s1 r3 14 n4 ∧ vp_in a1 n4 ∧ rf s1 r3 (a1).toNatClampNeg r5 ∧ sh s1 r5 1 9 ∧ ((gI s1 r5 5) = (nI 1) →
      sh s1 a0 3 11 ∧ ∃ r6, rf s1 a0 1 r6 ∧ ∃ n7 r8, sh s1 r6 14 n7 ∧ vp_in a1 n7 ∧ rf s1 r6 (a1).toNatClampNeg r8 ∧ sh s1 r8 1 9 ∧ cV E 10 [.ref r8] s1 (fun s9 =>
      sh s9 a0 3 11 ∧ ∃ r10, rf s9 a0 1 r10 ∧ ∃ n11 r12, sh s9 r10 14 n11 ∧ vp_in a1 n11 ∧ rf s9 r10 (a1).toNatClampNeg r12 ∧ sh s9 r12 1 9 ∧ Q (some (.int (gI s9 r12 4))) s9)) ∧
    (¬ (gI s1 r5 5) = (nI 1) →
      Q (some (.int (-1000002 : Int32))) s1)) ∧
  (¬ x2 ≠ (nI 0) →
    Q (some (.int (-1000001 : Int32))) s1))) : wp E 25 0 [.ref a0, .int a1] [] s Q := vc_ok E 25 [] Q 23 false 0 _ _ _ h
-- 26 CoatedBridges$State.payIn(I)I
theorem sg26_0 {E : AEnv} {a0 : Nat} {a1 : Int32} {s : ASt} {Q : Option Value → ASt → Prop} (h :
  (a1 < (nI 1) →
    Q (some (.int (-1000001 : Int32))) s) ∧
  (¬ a1 < (nI 1) →
    (a1 ≤ (nI 999) →
      sh s a0 3 11 ∧ (((gI s a0 7) + a1) ≤ (nI 999999) →
        sh s a0 3 11 ∧ cV E 34 [.ref a0, .int a1] s (fun s1 =>
        sh s1 a0 3 11 ∧ Q (some (.int (gI s1 a0 7))) s1)) ∧
      (¬ ((gI s a0 7) + a1) ≤ (nI 999999) →
        Q (some (.int (-1000003 : Int32))) s)) ∧
    (¬ a1 ≤ (nI 999) →
      Q (some (.int (-1000001 : Int32))) s))) : wp E 26 0 [.ref a0, .int a1] [] s Q := vc_ok E 26 [] Q 19 false 0 _ _ _ h
-- 27 CoatedBridges$State.changeSetting(II)I
theorem sg27_0 {E : AEnv} {a0 : Nat} {a1 : Int32} {a2 : Int32} {s : ASt} {Q : Option Value → ASt → Prop} (h :
  (a1 < (nI 0) →
    Q (some (.int (-1000001 : Int32))) s) ∧
  (¬ a1 < (nI 0) →
    ((nI 8) ≤ a1 →
      Q (some (.int (-1000001 : Int32))) s) ∧
    (¬ (nI 8) ≤ a1 →
      vp_in a1 (E 1).1 ∧ (a2 < ((E 1).2 (a1).toNatClampNeg) →
        Q (some (.int (-1000001 : Int32))) s) ∧
      (¬ a2 < ((E 1).2 (a1).toNatClampNeg) →
        vp_in a1 (E 2).1 ∧ (a2 ≤ ((E 2).2 (a1).toNatClampNeg) →
          sh s a0 3 11 ∧ ∃ r1, rf s a0 2 r1 ∧ ∃ n2, sh s r1 10 n2 ∧ vp_in a1 n2 ∧ sh s a0 3 11 ∧ ∃ r3, rf s a0 2 r3 ∧ ∃ n4, sh s r3 10 n4 ∧ vp_in a1 n4 ∧ nw (wrI s r3 (a1).toNatClampNeg a2) (fun s5 =>
          Q (some (.int (gI s r1 (a1).toNatClampNeg))) s5)) ∧
        (¬ a2 ≤ ((E 2).2 (a1).toNatClampNeg) →
          Q (some (.int (-1000001 : Int32))) s))))) : wp E 27 0 [.ref a0, .int a1, .int a2] [] s Q := vc_ok E 27 [] Q 28 false 0 _ _ _ h
-- 28 CoatedBridges$State.endDays(I)I
theorem sg28_0 {E : AEnv} {a0 : Nat} {a1 : Int32} {s : ASt} {Q : Option Value → ASt → Prop} (h :
  (a1 < (nI 1) →
    Q (some (.int (-1000001 : Int32))) s) ∧
  (¬ a1 < (nI 1) →
    (a1 ≤ (nI 99) →
      sh s a0 3 11 ∧ (((gI s a0 6) + a1) ≤ (nI 9999) →
        wp E 28 33 [.ref a0, .int a1, .int (nI 0), .int (nI 0)] [] s Q) ∧
      (¬ ((gI s a0 6) + a1) ≤ (nI 9999) →
        Q (some (.int (-1000003 : Int32))) s)) ∧
    (¬ a1 ≤ (nI 99) →
      Q (some (.int (-1000001 : Int32))) s))) : wp E 28 0 [.ref a0, .int a1] [] s Q := vc_ok E 28 [33] Q 18 false 0 _ _ _ h
theorem sg28_33 {E : AEnv} {a0 : Nat} {a1 : Int32} {a2 : Int32} {a3 : Int32} {s : ASt} {Q : Option Value → ASt → Prop} (h :
  (a1 ≤ a3 →
    Q (some (.int a2)) s) ∧
  (¬ a1 ≤ a3 →
    sh s a0 3 11 ∧ cI E 29 [.ref a0] s (fun x2 s1 =>
    wp E 28 33 [.ref a0, .int a1, .int (a2 + x2), .int (a3 + (nI 1))] [] s1 Q))) : wp E 28 33 [.ref a0, .int a1, .int a2, .int a3] [] s Q := vc_ok E 28 [33] Q 12 false 33 _ _ _ h
-- 29 CoatedBridges$State.endDay()I
theorem sg29_0 {E : AEnv} {a0 : Nat} {s : ASt} {Q : Option Value → ASt → Prop} (h :
  sh s a0 3 11 ∧ cI E 38 [.ref a0, .int (nI 0)] s (fun x2 s1 =>
  sh s1 a0 3 11 ∧ cV E 30 [.ref a0] s1 (fun s3 =>
  sh s3 a0 3 11 ∧ cV E 31 [.ref a0, .int x2] s3 (fun s4 =>
  sh s4 a0 3 11 ∧ cI E 32 [.ref a0] s4 (fun x6 s5 =>
  (x6 ≤ (nI 0) →
    sh s5 a0 3 11 ∧ sh s5 a0 3 11 ∧ nw (wrI s5 a0 6 ((gI s5 a0 6) + (nI 1))) (fun s7 =>
    sh s7 a0 3 11 ∧ ∃ r8, rf s7 a0 2 r8 ∧ ∃ n9, sh s7 r8 10 n9 ∧ vp_in (nI 5) n9 ∧ sh s7 a0 3 11 ∧ cV E 34 [.ref a0, .int (gI s7 r8 5)] s7 (fun s10 =>
    wp E 29 58 [.ref a0, .int x2, .int x6, .int (nI 0)] [] s10 Q))) ∧
  (¬ x6 ≤ (nI 0) →
    sh s5 a0 3 11 ∧ ∃ r11, rf s5 a0 3 r11 ∧ sh s5 a0 3 11 ∧ sh s5 r11 0 3 ∧ cV E 2 [.ref r11, .int (gI s5 a0 6), .int x6] s5 (fun s12 =>
    sh s12 a0 3 11 ∧ sh s12 a0 3 11 ∧ nw (wrI s12 a0 6 ((gI s12 a0 6) + (nI 1))) (fun s13 =>
    sh s13 a0 3 11 ∧ ∃ r14, rf s13 a0 2 r14 ∧ ∃ n15, sh s13 r14 10 n15 ∧ vp_in (nI 5) n15 ∧ sh s13 a0 3 11 ∧ cV E 34 [.ref a0, .int (gI s13 r14 5)] s13 (fun s16 =>
    wp E 29 58 [.ref a0, .int x2, .int x6, .int (nI 0)] [] s16 Q))))))))) : wp E 29 0 [.ref a0] [] s Q := vc_ok E 29 [58] Q 36 false 0 _ _ _ h
theorem sg29_58 {E : AEnv} {a0 : Nat} {a1 : Int32} {a2 : Int32} {a3 : Int32} {s : ASt} {Q : Option Value → ASt → Prop} (h :
  ((nI 4) ≤ a3 →
    Q (some (.int a2)) s) ∧
  (¬ (nI 4) ≤ a3 →
    sh s a0 3 11 ∧ ∃ r1, rf s a0 2 r1 ∧ ∃ n2, sh s r1 10 n2 ∧ vp_in (nI 6) n2 ∧ ((gI s r1 6) ≠ (nI 1) →
      Q (some (.int a2)) s) ∧
    (¬ (gI s r1 6) ≠ (nI 1) →
      sh s a0 3 11 ∧ cI E 37 [.ref a0] s (fun x4 s3 =>
      sh s3 a0 3 11 ∧ cI E 21 [.ref a0, .int x4] s3 (fun x6 s5 =>
      (x6 ≠ (nI 0) →
        sh s5 a0 3 11 ∧ ∃ r7, rf s5 a0 1 r7 ∧ ∃ n8 r9, sh s5 r7 14 n8 ∧ vp_in x4 n8 ∧ rf s5 r7 (x4).toNatClampNeg r9 ∧ sh s5 r9 1 9 ∧ cV E 9 [.ref r9] s5 (fun s10 =>
        wp E 29 58 [.ref a0, .int a1, .int a2, .int (a3 + (nI 1))] [] s10 Q)) ∧
      (¬ x6 ≠ (nI 0) →
        Q (some (.int a2)) s5)))))) : wp E 29 58 [.ref a0, .int a1, .int a2, .int a3] [] s Q := vc_ok E 29 [58] Q 25 false 58 _ _ _ h
-- 30 CoatedBridges$State.paintBridges()V
theorem sg30_0 {E : AEnv} {a0 : Nat} {s : ASt} {Q : Option Value → ASt → Prop} (h :
  sh s a0 3 11 ∧ ∃ r1, rf s a0 2 r1 ∧ ∃ n2, sh s r1 10 n2 ∧ vp_in (nI 2) n2 ∧ wp E 30 9 [.ref a0, .int (gI s r1 2), .int (nI 0)] [] s Q) : wp E 30 0 [.ref a0] [] s Q := vc_ok E 30 [9] Q 9 false 0 _ _ _ h
theorem sg30_9 {E : AEnv} {a0 : Nat} {a1 : Int32} {a2 : Int32} {s : ASt} {Q : Option Value → ASt → Prop} (h :
  sh s a0 3 11 ∧ ((gI s a0 5) ≤ a2 →
    Q none s) ∧
  (¬ (gI s a0 5) ≤ a2 →
    sh s a0 3 11 ∧ ∃ r1, rf s a0 1 r1 ∧ ∃ n2 r3, sh s r1 14 n2 ∧ vp_in a2 n2 ∧ rf s r1 (a2).toNatClampNeg r3 ∧ sh s r3 1 9 ∧ ((gI s r3 5) ≠ (nI 1) →
      wp E 30 9 [.ref a0, .int a1, .int (a2 + (nI 1))] [] s Q) ∧
    (¬ (gI s r3 5) ≠ (nI 1) →
      sh s a0 3 11 ∧ ((gI s a0 7) < a1 →
        wp E 30 9 [.ref a0, .int a1, .int (a2 + (nI 1))] [] s Q) ∧
      (¬ (gI s a0 7) < a1 →
        sh s a0 3 11 ∧ sh s a0 3 11 ∧ nw (wrI s a0 7 ((gI s a0 7) - a1)) (fun s4 =>
        sh s4 a0 3 11 ∧ sh s4 a0 3 11 ∧ nw (wrI s4 a0 8 ((gI s4 a0 8) + a1)) (fun s5 =>
        sh s5 a0 3 11 ∧ ∃ r6, rf s5 a0 1 r6 ∧ ∃ n7 r8, sh s5 r6 14 n7 ∧ vp_in a2 n7 ∧ rf s5 r6 (a2).toNatClampNeg r8 ∧ sh s5 a0 3 11 ∧ ∃ r9, rf s5 a0 2 r9 ∧ ∃ n10, sh s5 r9 10 n10 ∧ vp_in (nI 1) n10 ∧ sh s5 r8 1 9 ∧ cV E 11 [.ref r8, .int (gI s5 r9 1), .int a1] s5 (fun s11 =>
        wp E 30 9 [.ref a0, .int a1, .int (a2 + (nI 1))] [] s11 Q))))))) : wp E 30 9 [.ref a0, .int a1, .int a2] [] s Q := vc_ok E 30 [9] Q 41 false 9 _ _ _ h
-- 31 CoatedBridges$State.wearBridges(I)V
theorem sg31_0 {E : AEnv} {a0 : Nat} {a1 : Int32} {s : ASt} {Q : Option Value → ASt → Prop} (h :
  wp E 31 2 [.ref a0, .int a1, .int (nI 0)] [] s Q) : wp E 31 0 [.ref a0, .int a1] [] s Q := vc_ok E 31 [2] Q 4 false 0 _ _ _ h
theorem sg31_2 {E : AEnv} {a0 : Nat} {a1 : Int32} {a2 : Int32} {s : ASt} {Q : Option Value → ASt → Prop} (h :
  sh s a0 3 11 ∧ ((gI s a0 5) ≤ a2 →
    Q none s) ∧
  (¬ (gI s a0 5) ≤ a2 →
    cI E 88 [.int a1, .int a2] s (fun x2 s1 =>
    (x2 = (nI 0) →
      sh s1 a0 3 11 ∧ ∃ r3, rf s1 a0 1 r3 ∧ ∃ n4 r5, sh s1 r3 14 n4 ∧ vp_in a2 n4 ∧ rf s1 r3 (a2).toNatClampNeg r5 ∧ sh s1 r5 1 9 ∧ ((gI s1 r5 5) = (nI 0) →
        wp E 31 2 [.ref a0, .int a1, .int (a2 + (nI 1))] [] s1 Q) ∧
      (¬ (gI s1 r5 5) = (nI 0) →
        sh s1 a0 3 11 ∧ ∃ r6, rf s1 a0 1 r6 ∧ ∃ n7 r8, sh s1 r6 14 n7 ∧ vp_in a2 n7 ∧ rf s1 r6 (a2).toNatClampNeg r8 ∧ sh s1 r8 1 9 ∧ sh s1 r8 1 9 ∧ nw (wrI s1 r8 7 ((gI s1 r8 7) + (nI 1))) (fun s9 =>
        wp E 31 2 [.ref a0, .int a1, .int (a2 + (nI 1))] [] s9 Q))) ∧
    (¬ x2 = (nI 0) →
      sh s1 a0 3 11 ∧ ∃ r10, rf s1 a0 1 r10 ∧ ∃ n11 r12, sh s1 r10 14 n11 ∧ vp_in a2 n11 ∧ rf s1 r10 (a2).toNatClampNeg r12 ∧ sh s1 r12 1 9 ∧ cV E 12 [.ref r12] s1 (fun s13 =>
      sh s13 a0 3 11 ∧ ∃ r14, rf s13 a0 1 r14 ∧ ∃ n15 r16, sh s13 r14 14 n15 ∧ vp_in a2 n15 ∧ rf s13 r14 (a2).toNatClampNeg r16 ∧ sh s13 r16 1 9 ∧ ((gI s13 r16 5) = (nI 0) →
        wp E 31 2 [.ref a0, .int a1, .int (a2 + (nI 1))] [] s13 Q) ∧
      (¬ (gI s13 r16 5) = (nI 0) →
        sh s13 a0 3 11 ∧ ∃ r17, rf s13 a0 1 r17 ∧ ∃ n18 r19, sh s13 r17 14 n18 ∧ vp_in a2 n18 ∧ rf s13 r17 (a2).toNatClampNeg r19 ∧ sh s13 r19 1 9 ∧ sh s13 r19 1 9 ∧ nw (wrI s13 r19 7 ((gI s13 r19 7) + (nI 1))) (fun s20 =>
        wp E 31 2 [.ref a0, .int a1, .int (a2 + (nI 1))] [] s20 Q))))))) : wp E 31 2 [.ref a0, .int a1, .int a2] [] s Q := vc_ok E 31 [2] Q 32 false 2 _ _ _ h
-- 32 CoatedBridges$State.letIslandsWait()I
theorem sg32_0 {E : AEnv} {a0 : Nat} {s : ASt} {Q : Option Value → ASt → Prop} (h :
  sh s a0 3 11 ∧ cI E 39 [.ref a0, .int (nI 0), .int (-1 : Int32)] s (fun x2 s1 =>
  wp E 32 11 [.ref a0, .int x2, .int (nI 0), .int (nI 1)] [] s1 Q)) : wp E 32 0 [.ref a0] [] s Q := vc_ok E 32 [11] Q 11 false 0 _ _ _ h
theorem sg32_11 {E : AEnv} {a0 : Nat} {a1 : Int32} {a2 : Int32} {a3 : Int32} {s : ASt} {Q : Option Value → ASt → Prop} (h :
  sh s a0 3 11 ∧ ((gI s a0 4) ≤ a3 →
    Q (some (.int a2)) s) ∧
  (¬ (gI s a0 4) ≤ a3 →
    sh s a0 3 11 ∧ ∃ r1, rf s a0 0 r1 ∧ ∃ n2 r3, sh s r1 13 n2 ∧ vp_in a3 n2 ∧ rf s r1 (a3).toNatClampNeg r3 ∧ cI E 88 [.int a1, .int a3] s (fun x5 s4 =>
    (x5 = (nI 0) →
      sh s4 a0 3 11 ∧ ∃ r6, rf s4 a0 2 r6 ∧ ∃ n7, sh s4 r6 10 n7 ∧ vp_in (nI 3) n7 ∧ ((gI s4 r6 3) ≠ (nI 1) →
        sh s4 a0 3 11 ∧ ∃ r8, rf s4 a0 2 r8 ∧ ∃ n9, sh s4 r8 10 n9 ∧ vp_in (nI 4) n9 ∧ sh s4 r3 2 5 ∧ cI E 17 [.ref r3, .int (gI s4 r8 4)] s4 (fun x11 s10 =>
        (x11 = (nI 0) →
          wp E 32 11 [.ref a0, .int a1, .int a2, .int (a3 + (nI 1))] [] s10 Q) ∧
        (¬ x11 = (nI 0) →
          wp E 32 11 [.ref a0, .int a1, .int (a2 + (nI 1)), .int (a3 + (nI 1))] [] s10 Q))) ∧
      (¬ (gI s4 r6 3) ≠ (nI 1) →
        sh s4 a0 3 11 ∧ sh s4 r3 2 5 ∧ ((gI s4 a0 7) < (gI s4 r3 0) →
          sh s4 a0 3 11 ∧ ∃ r12, rf s4 a0 2 r12 ∧ ∃ n13, sh s4 r12 10 n13 ∧ vp_in (nI 4) n13 ∧ sh s4 r3 2 5 ∧ cI E 17 [.ref r3, .int (gI s4 r12 4)] s4 (fun x15 s14 =>
          (x15 = (nI 0) →
            wp E 32 11 [.ref a0, .int a1, .int a2, .int (a3 + (nI 1))] [] s14 Q) ∧
          (¬ x15 = (nI 0) →
            wp E 32 11 [.ref a0, .int a1, .int (a2 + (nI 1)), .int (a3 + (nI 1))] [] s14 Q))) ∧
        (¬ (gI s4 a0 7) < (gI s4 r3 0) →
          sh s4 a0 3 11 ∧ cV E 33 [.ref a0, .ref r3] s4 (fun s16 =>
          wp E 32 11 [.ref a0, .int a1, .int a2, .int (a3 + (nI 1))] [] s16 Q)))) ∧
    (¬ x5 = (nI 0) →
      sh s4 r3 2 5 ∧ nw (wrI s4 r3 1 (nI 0)) (fun s17 =>
      wp E 32 11 [.ref a0, .int a1, .int a2, .int (a3 + (nI 1))] [] s17 Q))))) : wp E 32 11 [.ref a0, .int a1, .int a2, .int a3] [] s Q := vc_ok E 32 [11] Q 36 false 11 _ _ _ h
-- 33 CoatedBridges$State.payFerry(LCoatedBridges$Island;)V
theorem sg33_0 {E : AEnv} {a0 : Nat} {a1 : Nat} {s : ASt} {Q : Option Value → ASt → Prop} (h :
  sh s a0 3 11 ∧ sh s a1 2 5 ∧ sh s a0 3 11 ∧ nw (wrI s a0 7 ((gI s a0 7) - (gI s a1 0))) (fun s1 =>
  sh s1 a0 3 11 ∧ sh s1 a1 2 5 ∧ sh s1 a0 3 11 ∧ nw (wrI s1 a0 9 ((gI s1 a0 9) + (gI s1 a1 0))) (fun s2 =>
  sh s2 a1 2 5 ∧ sh s2 a1 2 5 ∧ nw (wrI s2 a1 4 ((gI s2 a1 4) + (nI 1))) (fun s3 =>
  sh s3 a1 2 5 ∧ nw (wrI s3 a1 1 (nI 0)) (fun s4 =>
  Q none s4))))) : wp E 33 0 [.ref a0, .ref a1] [] s Q := vc_ok E 33 [] Q 25 false 0 _ _ _ h
-- 34 CoatedBridges$State.receive(I)V
theorem sg34_0 {E : AEnv} {a0 : Nat} {a1 : Int32} {s : ASt} {Q : Option Value → ASt → Prop} (h :
  sh s a0 3 11 ∧ sh s a0 3 11 ∧ nw (wrI s a0 7 ((gI s a0 7) + a1)) (fun s1 =>
  sh s1 a0 3 11 ∧ sh s1 a0 3 11 ∧ nw (wrI s1 a0 10 ((gI s1 a0 10) + a1)) (fun s2 =>
  Q none s2))) : wp E 34 0 [.ref a0, .int a1] [] s Q := vc_ok E 34 [] Q 14 false 0 _ _ _ h
-- 35 CoatedBridges$State.freeCrews()I
theorem sg35_0 {E : AEnv} {a0 : Nat} {s : ASt} {Q : Option Value → ASt → Prop} (h :
  sh s a0 3 11 ∧ ∃ r1, rf s a0 2 r1 ∧ ∃ n2, sh s r1 10 n2 ∧ vp_in (nI 0) n2 ∧ sh s a0 3 11 ∧ cI E 38 [.ref a0, .int (nI 1)] s (fun x4 s3 =>
  cI E 170 [.int x4] s3 (fun x6 s5 =>
  cI E 171 [.int (nI 0), .int ((gI s r1 0) - x6)] s5 (fun x8 s7 =>
  Q (some (.int x8)) s7)))) : wp E 35 0 [.ref a0] [] s Q := vc_ok E 35 [] Q 13 false 0 _ _ _ h
-- 36 CoatedBridges$State.reasonAgainst(I)I
theorem sg36_0 {E : AEnv} {a0 : Nat} {a1 : Int32} {s : ASt} {Q : Option Value → ASt → Prop} (h :
  sh s a0 3 11 ∧ ∃ r1, rf s a0 1 r1 ∧ ∃ n2 r3, sh s r1 14 n2 ∧ vp_in a1 n2 ∧ rf s r1 (a1).toNatClampNeg r3 ∧ sh s r3 1 9 ∧ ((gI s r3 5) ≠ (nI 1) →
    sh s a0 3 11 ∧ ∃ r4, rf s a0 1 r4 ∧ ∃ n5 r6, sh s r4 14 n5 ∧ vp_in a1 n5 ∧ rf s r4 (a1).toNatClampNeg r6 ∧ sh s r6 1 9 ∧ ((gI s r6 4) ≠ (nI 100) →
      sh s a0 3 11 ∧ cI E 35 [.ref a0] s (fun x8 s7 =>
      (x8 ≠ (nI 0) →
        sh s7 a0 3 11 ∧ cI E 41 [.ref a0, .int a1] s7 (fun x10 s9 =>
        (x10 ≠ (nI 0) →
          Q (some (.int (nI 4))) s9) ∧
        (¬ x10 ≠ (nI 0) →
          Q (some (.int (nI 0))) s9))) ∧
      (¬ x8 ≠ (nI 0) →
        Q (some (.int (nI 3))) s7))) ∧
    (¬ (gI s r6 4) ≠ (nI 100) →
      Q (some (.int (nI 2))) s)) ∧
  (¬ (gI s r3 5) ≠ (nI 1) →
    Q (some (.int (nI 1))) s)) : wp E 36 0 [.ref a0, .int a1] [] s Q := vc_ok E 36 [] Q 25 false 0 _ _ _ h
-- 37 CoatedBridges$State.bridgeToPaintNext()I
theorem sg37_0 {E : AEnv} {a0 : Nat} {s : ASt} {Q : Option Value → ASt → Prop} (h :
  sh s a0 3 11 ∧ cI E 35 [.ref a0] s (fun x2 s1 =>
  (x2 ≠ (nI 0) →
    sh s1 a0 3 11 ∧ cI E 39 [.ref a0, .int (nI 0), .int (-1 : Int32)] s1 (fun x4 s3 =>
    sh s3 a0 3 11 ∧ ∃ r5, rf s3 a0 2 r5 ∧ ∃ n6, sh s3 r5 10 n6 ∧ vp_in (nI 7) n6 ∧ wp E 37 33 [.ref a0, .int x4, .int (-1000004 : Int32), .int ((gI s3 r5 7) + (nI 1)), .int (nI 0)] [] s3 Q)) ∧
  (¬ x2 ≠ (nI 0) →
    Q (some (.int (-1000004 : Int32))) s1))) : wp E 37 0 [.ref a0] [] s Q := vc_ok E 37 [33] Q 21 false 0 _ _ _ h
theorem sg37_33 {E : AEnv} {a0 : Nat} {a1 : Int32} {a2 : Int32} {a3 : Int32} {a4 : Int32} {s : ASt} {Q : Option Value → ASt → Prop} (h :
  sh s a0 3 11 ∧ ((gI s a0 5) ≤ a4 →
    Q (some (.int a2)) s) ∧
  (¬ (gI s a0 5) ≤ a4 →
    sh s a0 3 11 ∧ ∃ r1, rf s a0 1 r1 ∧ ∃ n2 r3, sh s r1 14 n2 ∧ vp_in a4 n2 ∧ rf s r1 (a4).toNatClampNeg r3 ∧ sh s r3 1 9 ∧ ((gI s r3 5) = (nI 1) →
      wp E 37 33 [.ref a0, .int a1, .int a2, .int a3, .int (a4 + (nI 1))] [] s Q) ∧
    (¬ (gI s r3 5) = (nI 1) →
      sh s r3 1 9 ∧ (a3 ≤ (gI s r3 4) →
        wp E 37 33 [.ref a0, .int a1, .int a2, .int a3, .int (a4 + (nI 1))] [] s Q) ∧
      (¬ a3 ≤ (gI s r3 4) →
        sh s a0 3 11 ∧ cI E 39 [.ref a0, .int (nI 0), .int a4] s (fun x5 s4 =>
        (x5 ≠ a1 →
          wp E 37 33 [.ref a0, .int a1, .int a2, .int a3, .int (a4 + (nI 1))] [] s4 Q) ∧
        (¬ x5 ≠ a1 →
          sh s4 r3 1 9 ∧ wp E 37 33 [.ref a0, .int a1, .int a4, .int (gI s4 r3 4), .int (a4 + (nI 1))] [] s4 Q)))))) : wp E 37 33 [.ref a0, .int a1, .int a2, .int a3, .int a4] [] s Q := vc_ok E 37 [33] Q 32 false 33 _ _ _ h
-- 38 CoatedBridges$State.bridgesThatAre(I)I
theorem sg38_0 {E : AEnv} {a0 : Nat} {a1 : Int32} {s : ASt} {Q : Option Value → ASt → Prop} (h :
  wp E 38 4 [.ref a0, .int a1, .int (nI 0), .int (nI 0)] [] s Q) : wp E 38 0 [.ref a0, .int a1] [] s Q := vc_ok E 38 [4] Q 6 false 0 _ _ _ h
theorem sg38_4 {E : AEnv} {a0 : Nat} {a1 : Int32} {a2 : Int32} {a3 : Int32} {s : ASt} {Q : Option Value → ASt → Prop} (h :
  sh s a0 3 11 ∧ ((gI s a0 5) ≤ a3 →
    Q (some (.int a2)) s) ∧
  (¬ (gI s a0 5) ≤ a3 →
    sh s a0 3 11 ∧ ∃ r1, rf s a0 1 r1 ∧ ∃ n2 r3, sh s r1 14 n2 ∧ vp_in a3 n2 ∧ rf s r1 (a3).toNatClampNeg r3 ∧ sh s r3 1 9 ∧ ((gI s r3 5) ≠ a1 →
      wp E 38 4 [.ref a0, .int a1, .int a2, .int (a3 + (nI 1))] [] s Q) ∧
    (¬ (gI s r3 5) ≠ a1 →
      wp E 38 4 [.ref a0, .int a1, .int (a2 ||| ((nI 1) <<< (a3 &&& 31))), .int (a3 + (nI 1))] [] s Q))) : wp E 38 4 [.ref a0, .int a1, .int a2, .int a3] [] s Q := vc_ok E 38 [4] Q 21 false 4 _ _ _ h
-- 39 CoatedBridges$State.reachFrom(II)I
theorem sg39_0 {E : AEnv} {a0 : Nat} {a1 : Int32} {a2 : Int32} {s : ASt} {Q : Option Value → ASt → Prop} (h :
  wp E 39 7 [.ref a0, .int a1, .int a2, .int ((nI 1) <<< (a1 &&& 31)), .int (nI 0)] [] s Q) : wp E 39 0 [.ref a0, .int a1, .int a2] [] s Q := vc_ok E 39 [7] Q 8 false 0 _ _ _ h
theorem sg39_7 {E : AEnv} {a0 : Nat} {a1 : Int32} {a2 : Int32} {a3 : Int32} {a4 : Int32} {s : ASt} {Q : Option Value → ASt → Prop} (h :
  ((nI 8) ≤ a4 →
    Q (some (.int a3)) s) ∧
  (¬ (nI 8) ≤ a4 →
    sh s a0 3 11 ∧ cI E 40 [.ref a0, .int a3, .int a2] s (fun x2 s1 =>
    (x2 ≠ a3 →
      wp E 39 7 [.ref a0, .int a1, .int a2, .int x2, .int (a4 + (nI 1))] [] s1 Q) ∧
    (¬ x2 ≠ a3 →
      Q (some (.int a3)) s1)))) : wp E 39 7 [.ref a0, .int a1, .int a2, .int a3, .int a4] [] s Q := vc_ok E 39 [7] Q 17 false 7 _ _ _ h
-- 40 CoatedBridges$State.oneBridgeOn(II)I
theorem sg40_0 {E : AEnv} {a0 : Nat} {a1 : Int32} {a2 : Int32} {s : ASt} {Q : Option Value → ASt → Prop} (h :
  wp E 40 5 [.ref a0, .int a1, .int a2, .int a1, .int (nI 0)] [] s Q) : wp E 40 0 [.ref a0, .int a1, .int a2] [] s Q := vc_ok E 40 [5] Q 6 false 0 _ _ _ h
theorem sg40_5 {E : AEnv} {a0 : Nat} {a1 : Int32} {a2 : Int32} {a3 : Int32} {a4 : Int32} {s : ASt} {Q : Option Value → ASt → Prop} (h :
  sh s a0 3 11 ∧ ((gI s a0 5) ≤ a4 →
    Q (some (.int a3)) s) ∧
  (¬ (gI s a0 5) ≤ a4 →
    sh s a0 3 11 ∧ ∃ r1, rf s a0 1 r1 ∧ ∃ n2 r3, sh s r1 14 n2 ∧ vp_in a4 n2 ∧ rf s r1 (a4).toNatClampNeg r3 ∧ sh s r3 1 9 ∧ ((gI s r3 5) ≠ (nI 0) →
      wp E 40 5 [.ref a0, .int a1, .int a2, .int a3, .int (a4 + (nI 1))] [] s Q) ∧
    (¬ (gI s r3 5) ≠ (nI 0) →
      (a4 = a2 →
        wp E 40 5 [.ref a0, .int a1, .int a2, .int a3, .int (a4 + (nI 1))] [] s Q) ∧
      (¬ a4 = a2 →
        sh s r3 1 9 ∧ ((a1 &&& (gI s r3 2)) = (nI 0) →
          wp E 40 5 [.ref a0, .int a1, .int a2, .int a3, .int (a4 + (nI 1))] [] s Q) ∧
        (¬ (a1 &&& (gI s r3 2)) = (nI 0) →
          sh s r3 1 9 ∧ wp E 40 5 [.ref a0, .int a1, .int a2, .int (a3 ||| (gI s r3 2)), .int (a4 + (nI 1))] [] s Q))))) : wp E 40 5 [.ref a0, .int a1, .int a2, .int a3, .int a4] [] s Q := vc_ok E 40 [5] Q 29 false 5 _ _ _ h
-- 41 CoatedBridges$State.lostWithout(I)I
theorem sg41_0 {E : AEnv} {a0 : Nat} {a1 : Int32} {s : ASt} {Q : Option Value → ASt → Prop} (h :
  sh s a0 3 11 ∧ cI E 39 [.ref a0, .int (nI 0), .int (-1 : Int32)] s (fun x2 s1 =>
  sh s1 a0 3 11 ∧ cI E 39 [.ref a0, .int (nI 0), .int a1] s1 (fun x4 s3 =>
  Q (some (.int (x2 &&& (x4 ^^^ (-1 : Int32))))) s3))) : wp E 41 0 [.ref a0, .int a1] [] s Q := vc_ok E 41 [] Q 13 false 0 _ _ _ h
-- 42 CoatedBridges$State.neededBridges()I
theorem sg42_0 {E : AEnv} {a0 : Nat} {s : ASt} {Q : Option Value → ASt → Prop} (h :
  sh s a0 3 11 ∧ cI E 39 [.ref a0, .int (nI 0), .int (-1 : Int32)] s (fun x2 s1 =>
  wp E 42 11 [.ref a0, .int x2, .int (nI 0), .int (nI 0)] [] s1 Q)) : wp E 42 0 [.ref a0] [] s Q := vc_ok E 42 [11] Q 11 false 0 _ _ _ h
theorem sg42_11 {E : AEnv} {a0 : Nat} {a1 : Int32} {a2 : Int32} {a3 : Int32} {s : ASt} {Q : Option Value → ASt → Prop} (h :
  sh s a0 3 11 ∧ ((gI s a0 5) ≤ a3 →
    Q (some (.int a2)) s) ∧
  (¬ (gI s a0 5) ≤ a3 →
    sh s a0 3 11 ∧ ∃ r1, rf s a0 1 r1 ∧ ∃ n2 r3, sh s r1 14 n2 ∧ vp_in a3 n2 ∧ rf s r1 (a3).toNatClampNeg r3 ∧ sh s r3 1 9 ∧ ((gI s r3 5) ≠ (nI 0) →
      wp E 42 11 [.ref a0, .int a1, .int a2, .int (a3 + (nI 1))] [] s Q) ∧
    (¬ (gI s r3 5) ≠ (nI 0) →
      sh s a0 3 11 ∧ cI E 39 [.ref a0, .int (nI 0), .int a3] s (fun x5 s4 =>
      (x5 = a1 →
        wp E 42 11 [.ref a0, .int a1, .int a2, .int (a3 + (nI 1))] [] s4 Q) ∧
      (¬ x5 = a1 →
        wp E 42 11 [.ref a0, .int a1, .int (a2 ||| ((nI 1) <<< (a3 &&& 31))), .int (a3 + (nI 1))] [] s4 Q))))) : wp E 42 11 [.ref a0, .int a1, .int a2, .int a3] [] s Q := vc_ok E 42 [11] Q 26 false 11 _ _ _ h
-- 43 CoatedBridges$State.bridgesTo(I)I
theorem sg43_0 {E : AEnv} {a0 : Nat} {a1 : Int32} {s : ASt} {Q : Option Value → ASt → Prop} (h :
  wp E 43 4 [.ref a0, .int a1, .int (nI 1), .int (nI 0)] [] s Q) : wp E 43 0 [.ref a0, .int a1] [] s Q := vc_ok E 43 [4] Q 6 false 0 _ _ _ h
theorem sg43_4 {E : AEnv} {a0 : Nat} {a1 : Int32} {a2 : Int32} {a3 : Int32} {s : ASt} {Q : Option Value → ASt → Prop} (h :
  ((nI 8) ≤ a3 →
    Q (some (.int (-1000004 : Int32))) s) ∧
  (¬ (nI 8) ≤ a3 →
    cI E 88 [.int a2, .int a1] s (fun x2 s1 =>
    (x2 = (nI 0) →
      sh s1 a0 3 11 ∧ cI E 40 [.ref a0, .int a2, .int (-1 : Int32)] s1 (fun x4 s3 =>
      wp E 43 4 [.ref a0, .int a1, .int x4, .int (a3 + (nI 1))] [] s3 Q)) ∧
    (¬ x2 = (nI 0) →
      Q (some (.int a3)) s1)))) : wp E 43 4 [.ref a0, .int a1, .int a2, .int a3] [] s Q := vc_ok E 43 [4] Q 16 false 4 _ _ _ h
-- 44 CoatedBridges$State.openBridgesAt(I)I
theorem sg44_0 {E : AEnv} {a0 : Nat} {a1 : Int32} {s : ASt} {Q : Option Value → ASt → Prop} (h :
  wp E 44 4 [.ref a0, .int a1, .int (nI 0), .int (nI 0)] [] s Q) : wp E 44 0 [.ref a0, .int a1] [] s Q := vc_ok E 44 [4] Q 6 false 0 _ _ _ h
theorem sg44_4 {E : AEnv} {a0 : Nat} {a1 : Int32} {a2 : Int32} {a3 : Int32} {s : ASt} {Q : Option Value → ASt → Prop} (h :
  sh s a0 3 11 ∧ ((gI s a0 5) ≤ a3 →
    Q (some (.int a2)) s) ∧
  (¬ (gI s a0 5) ≤ a3 →
    sh s a0 3 11 ∧ ∃ r1, rf s a0 1 r1 ∧ ∃ n2 r3, sh s r1 14 n2 ∧ vp_in a3 n2 ∧ rf s r1 (a3).toNatClampNeg r3 ∧ sh s r3 1 9 ∧ ((gI s r3 5) ≠ (nI 0) →
      wp E 44 4 [.ref a0, .int a1, .int a2, .int (a3 + (nI 1))] [] s Q) ∧
    (¬ (gI s r3 5) ≠ (nI 0) →
      sh s a0 3 11 ∧ ∃ r4, rf s a0 1 r4 ∧ ∃ n5 r6, sh s r4 14 n5 ∧ vp_in a3 n5 ∧ rf s r4 (a3).toNatClampNeg r6 ∧ sh s r6 1 9 ∧ cI E 88 [.int (gI s r6 2), .int a1] s (fun x8 s7 =>
      (x8 = (nI 0) →
        wp E 44 4 [.ref a0, .int a1, .int a2, .int (a3 + (nI 1))] [] s7 Q) ∧
      (¬ x8 = (nI 0) →
        wp E 44 4 [.ref a0, .int a1, .int (a2 + (nI 1)), .int (a3 + (nI 1))] [] s7 Q))))) : wp E 44 4 [.ref a0, .int a1, .int a2, .int a3] [] s Q := vc_ok E 44 [4] Q 23 false 4 _ _ _ h
-- 45 CoatedBridges$State.groups()I
theorem sg45_0 {E : AEnv} {a0 : Nat} {s : ASt} {Q : Option Value → ASt → Prop} (h :
  wp E 45 6 [.ref a0, .int (nI 0), .int (nI 0), .int (nI 0)] [] s Q) : wp E 45 0 [.ref a0] [] s Q := vc_ok E 45 [6] Q 8 false 0 _ _ _ h
theorem sg45_6 {E : AEnv} {a0 : Nat} {a1 : Int32} {a2 : Int32} {a3 : Int32} {s : ASt} {Q : Option Value → ASt → Prop} (h :
  sh s a0 3 11 ∧ ((gI s a0 4) ≤ a3 →
    Q (some (.int a1)) s) ∧
  (¬ (gI s a0 4) ≤ a3 →
    cI E 88 [.int a2, .int a3] s (fun x2 s1 =>
    (x2 ≠ (nI 0) →
      wp E 45 6 [.ref a0, .int a1, .int a2, .int (a3 + (nI 1))] [] s1 Q) ∧
    (¬ x2 ≠ (nI 0) →
      sh s1 a0 3 11 ∧ cI E 39 [.ref a0, .int a3, .int (-1 : Int32)] s1 (fun x4 s3 =>
      wp E 45 6 [.ref a0, .int (a1 + (nI 1)), .int (a2 ||| x4), .int (a3 + (nI 1))] [] s3 Q))))) : wp E 45 6 [.ref a0, .int a1, .int a2, .int a3] [] s Q := vc_ok E 45 [6] Q 20 false 6 _ _ _ h
-- 46 CoatedBridges$State.lowestOnes()I
theorem sg46_0 {E : AEnv} {a0 : Nat} {s : ASt} {Q : Option Value → ASt → Prop} (h :
  wp E 46 4 [.ref a0, .int (nI 0), .int (nI 0)] [] s Q) : wp E 46 0 [.ref a0] [] s Q := vc_ok E 46 [4] Q 6 false 0 _ _ _ h
theorem sg46_4 {E : AEnv} {a0 : Nat} {a1 : Int32} {a2 : Int32} {s : ASt} {Q : Option Value → ASt → Prop} (h :
  sh s a0 3 11 ∧ ((gI s a0 4) ≤ a2 →
    Q (some (.int a1)) s) ∧
  (¬ (gI s a0 4) ≤ a2 →
    sh s a0 3 11 ∧ cI E 39 [.ref a0, .int a2, .int (-1 : Int32)] s (fun x2 s1 =>
    cI E 89 [.int x2] s1 (fun x4 s3 =>
    (x4 ≠ a2 →
      wp E 46 4 [.ref a0, .int a1, .int (a2 + (nI 1))] [] s3 Q) ∧
    (¬ x4 ≠ a2 →
      wp E 46 4 [.ref a0, .int (a1 + (nI 1)), .int (a2 + (nI 1))] [] s3 Q))))) : wp E 46 4 [.ref a0, .int a1, .int a2] [] s Q := vc_ok E 46 [4] Q 16 false 4 _ _ _ h
-- 47 CoatedBridges$State.coatsTogether()I
theorem sg47_0 {E : AEnv} {a0 : Nat} {s : ASt} {Q : Option Value → ASt → Prop} (h :
  wp E 47 4 [.ref a0, .int (nI 0), .int (nI 0)] [] s Q) : wp E 47 0 [.ref a0] [] s Q := vc_ok E 47 [4] Q 6 false 0 _ _ _ h
theorem sg47_4 {E : AEnv} {a0 : Nat} {a1 : Int32} {a2 : Int32} {s : ASt} {Q : Option Value → ASt → Prop} (h :
  sh s a0 3 11 ∧ ((gI s a0 5) ≤ a2 →
    Q (some (.int a1)) s) ∧
  (¬ (gI s a0 5) ≤ a2 →
    sh s a0 3 11 ∧ ∃ r1, rf s a0 1 r1 ∧ ∃ n2 r3, sh s r1 14 n2 ∧ vp_in a2 n2 ∧ rf s r1 (a2).toNatClampNeg r3 ∧ sh s r3 1 9 ∧ wp E 47 4 [.ref a0, .int (a1 + (gI s r3 4)), .int (a2 + (nI 1))] [] s Q)) : wp E 47 4 [.ref a0, .int a1, .int a2] [] s Q := vc_ok E 47 [4] Q 16 false 4 _ _ _ h
-- 48 CoatedBridges$State.complaintsSoFar()I
theorem sg48_0 {E : AEnv} {a0 : Nat} {s : ASt} {Q : Option Value → ASt → Prop} (h :
  wp E 48 4 [.ref a0, .int (nI 0), .int (nI 0)] [] s Q) : wp E 48 0 [.ref a0] [] s Q := vc_ok E 48 [4] Q 6 false 0 _ _ _ h
theorem sg48_4 {E : AEnv} {a0 : Nat} {a1 : Int32} {a2 : Int32} {s : ASt} {Q : Option Value → ASt → Prop} (h :
  sh s a0 3 11 ∧ ((gI s a0 4) ≤ a2 →
    Q (some (.int a1)) s) ∧
  (¬ (gI s a0 4) ≤ a2 →
    sh s a0 3 11 ∧ ∃ r1, rf s a0 0 r1 ∧ ∃ n2 r3, sh s r1 13 n2 ∧ vp_in a2 n2 ∧ rf s r1 (a2).toNatClampNeg r3 ∧ sh s r3 2 5 ∧ wp E 48 4 [.ref a0, .int (a1 + (gI s r3 3)), .int (a2 + (nI 1))] [] s Q)) : wp E 48 4 [.ref a0, .int a1, .int a2] [] s Q := vc_ok E 48 [4] Q 16 false 4 _ _ _ h
-- 49 CoatedBridges$State.longestWaitSoFar()I
theorem sg49_0 {E : AEnv} {a0 : Nat} {s : ASt} {Q : Option Value → ASt → Prop} (h :
  wp E 49 4 [.ref a0, .int (nI 0), .int (nI 0)] [] s Q) : wp E 49 0 [.ref a0] [] s Q := vc_ok E 49 [4] Q 6 false 0 _ _ _ h
theorem sg49_4 {E : AEnv} {a0 : Nat} {a1 : Int32} {a2 : Int32} {s : ASt} {Q : Option Value → ASt → Prop} (h :
  sh s a0 3 11 ∧ ((gI s a0 4) ≤ a2 →
    Q (some (.int a1)) s) ∧
  (¬ (gI s a0 4) ≤ a2 →
    sh s a0 3 11 ∧ ∃ r1, rf s a0 0 r1 ∧ ∃ n2 r3, sh s r1 13 n2 ∧ vp_in a2 n2 ∧ rf s r1 (a2).toNatClampNeg r3 ∧ sh s r3 2 5 ∧ cI E 171 [.int a1, .int (gI s r3 2)] s (fun x5 s4 =>
    wp E 49 4 [.ref a0, .int x5, .int (a2 + (nI 1))] [] s4 Q))) : wp E 49 4 [.ref a0, .int a1, .int a2] [] s Q := vc_ok E 49 [4] Q 16 false 4 _ _ _ h
-- 51 CoatedBridges$Text.append(C)Z
theorem sg51_0 {E : AEnv} {a0 : Nat} {a1 : Int32} {s : ASt} {Q : Option Value → ASt → Prop} (h :
  sh s a0 4 5 ∧ ((gI s a0 1) < (nI 60) →
    sh s a0 4 5 ∧ ∃ r1, rf s a0 0 r1 ∧ sh s a0 4 5 ∧ ∃ n2, sh s r1 11 n2 ∧ vp_in (gI s a0 1) n2 ∧ nw (wrI s r1 ((gI s a0 1)).toNatClampNeg (vp_nar .char a1)) (fun s3 =>
    sh s3 a0 4 5 ∧ sh s3 a0 4 5 ∧ nw (wrI s3 a0 1 ((gI s3 a0 1) + (nI 1))) (fun s4 =>
    fN .boolean (nI 1) = true ∧ Q (some (.int (nI 1))) s4))) ∧
  (¬ (gI s a0 1) < (nI 60) →
    fN .boolean (nI 0) = true ∧ Q (some (.int (nI 0))) s)) : wp E 51 0 [.ref a0, .int a1] [] s Q := vc_ok E 51 [] Q 19 false 0 _ _ _ h
-- 52 CoatedBridges$Text.readOrder(I)Z
theorem sg52_0 {E : AEnv} {a0 : Nat} {a1 : Int32} {s : ASt} {Q : Option Value → ASt → Prop} (h :
  sh s a0 4 5 ∧ nw (wrI s a0 4 a1) (fun s1 =>
  sh s1 a0 4 5 ∧ ∃ r2, rf s1 a0 0 r2 ∧ sh s1 a0 4 5 ∧ ∃ n3, sh s1 r2 11 n3 ∧ vp_in (gI s1 a0 4) n3 ∧ sh s1 a0 4 5 ∧ fN .char (gI s1 r2 ((gI s1 a0 4)).toNatClampNeg) = true ∧ nw (wrI s1 a0 3 (gI s1 r2 ((gI s1 a0 4)).toNatClampNeg)) (fun s4 =>
  sh s4 a0 4 5 ∧ cI E 53 [.int (gI s4 a0 3)] s4 (fun x6 s5 =>
  (x6 ≠ (nI 0) →
    sh s5 a0 4 5 ∧ sh s5 a0 4 5 ∧ nw (wrI s5 a0 4 ((gI s5 a0 4) + (nI 1))) (fun s7 =>
    wp E 52 44 [.ref a0, .int a1, .int x6, .int (nI 0)] [] s7 Q)) ∧
  (¬ x6 ≠ (nI 0) →
    fN .boolean (nI 0) = true ∧ Q (some (.int (nI 0))) s5))))) : wp E 52 0 [.ref a0, .int a1] [] s Q := vc_ok E 52 [44] Q 26 false 0 _ _ _ h
theorem sg52_44 {E : AEnv} {a0 : Nat} {a1 : Int32} {a2 : Int32} {a3 : Int32} {s : ASt} {Q : Option Value → ASt → Prop} (h :
  (a2 ≤ a3 →
    sh s a0 4 5 ∧ cI E 54 [.ref a0, .int (nI 59)] s (fun x2 s1 =>
    fN .boolean x2 = true ∧ Q (some (.int x2)) s1)) ∧
  (¬ a2 ≤ a3 →
    (a3 ≤ (nI 0) →
      sh s a0 4 5 ∧ cI E 55 [.ref a0, .int a3] s (fun x4 s3 =>
      (x4 ≠ (nI 0) →
        wp E 52 44 [.ref a0, .int a1, .int a2, .int (a3 + (nI 1))] [] s3 Q) ∧
      (¬ x4 ≠ (nI 0) →
        fN .boolean (nI 0) = true ∧ Q (some (.int (nI 0))) s3))) ∧
    (¬ a3 ≤ (nI 0) →
      sh s a0 4 5 ∧ cI E 54 [.ref a0, .int (nI 44)] s (fun x6 s5 =>
      (x6 = (nI 0) →
        fN .boolean (nI 0) = true ∧ Q (some (.int (nI 0))) s5) ∧
      (¬ x6 = (nI 0) →
        sh s5 a0 4 5 ∧ cI E 55 [.ref a0, .int a3] s5 (fun x8 s7 =>
        (x8 ≠ (nI 0) →
          wp E 52 44 [.ref a0, .int a1, .int a2, .int (a3 + (nI 1))] [] s7 Q) ∧
        (¬ x8 ≠ (nI 0) →
          fN .boolean (nI 0) = true ∧ Q (some (.int (nI 0))) s7))))))) : wp E 52 44 [.ref a0, .int a1, .int a2, .int a3] [] s Q := vc_ok E 52 [44] Q 17 false 44 _ _ _ h
-- 53 CoatedBridges$Text.numbersOf(C)I
theorem sg53_0 {E : AEnv} {a0 : Int32} {s : ASt} {Q : Option Value → ASt → Prop} (h :
  (a0 = (nI 98) →
    Q (some (.int (nI 3))) s) ∧
  (¬ a0 = (nI 98) →
   (a0 = (nI 99) →
    Q (some (.int (nI 0))) s) ∧
  (¬ a0 = (nI 99) →
   (a0 = (nI 100) →
    Q (some (.int (nI 1))) s) ∧
  (¬ a0 = (nI 100) →
   (a0 = (nI 101) →
    Q (some (.int (nI 0))) s) ∧
  (¬ a0 = (nI 101) →
   (a0 = (nI 102) →
    Q (some (.int (nI 1))) s) ∧
  (¬ a0 = (nI 102) →
   (a0 = (nI 103) →
    Q (some (.int (nI 0))) s) ∧
  (¬ a0 = (nI 103) →
   (a0 = (nI 104) →
    Q (some (.int (nI 0))) s) ∧
  (¬ a0 = (nI 104) →
   (a0 = (nI 105) →
    Q (some (.int (nI 1))) s) ∧
  (¬ a0 = (nI 105) →
   (a0 = (nI 106) →
    Q (some (.int (nI 0))) s) ∧
  (¬ a0 = (nI 106) →
   (a0 = (nI 107) →
    Q (some (.int (nI 0))) s) ∧
  (¬ a0 = (nI 107) →
   (a0 = (nI 108) →
    Q (some (.int (nI 0))) s) ∧
  (¬ a0 = (nI 108) →
   (a0 = (nI 109) →
    Q (some (.int (nI 0))) s) ∧
  (¬ a0 = (nI 109) →
   (a0 = (nI 110) →
    Q (some (.int (nI 0))) s) ∧
  (¬ a0 = (nI 110) →
   (a0 = (nI 111) →
    Q (some (.int (nI 0))) s) ∧
  (¬ a0 = (nI 111) →
   (a0 = (nI 112) →
    Q (some (.int (nI 1))) s) ∧
  (¬ a0 = (nI 112) →
   (a0 = (nI 113) →
    Q (some (.int (nI 0))) s) ∧
  (¬ a0 = (nI 113) →
   (a0 = (nI 114) →
    Q (some (.int (nI 1))) s) ∧
  (¬ a0 = (nI 114) →
   (a0 = (nI 115) →
    Q (some (.int (nI 1))) s) ∧
  (¬ a0 = (nI 115) →
   Q (some (.int (nI 0))) s))))))))))))))))))) : wp E 53 0 [.int a0] [] s Q := vc_ok E 53 [] Q 5 false 0 _ _ _ h
-- 54 CoatedBridges$Text.take(C)Z
theorem sg54_0 {E : AEnv} {a0 : Nat} {a1 : Int32} {s : ASt} {Q : Option Value → ASt → Prop} (h :
  sh s a0 4 5 ∧ sh s a0 4 5 ∧ ((gI s a0 1) ≤ (gI s a0 4) →
    fN .boolean (nI 0) = true ∧ Q (some (.int (nI 0))) s) ∧
  (¬ (gI s a0 1) ≤ (gI s a0 4) →
    sh s a0 4 5 ∧ ∃ r1, rf s a0 0 r1 ∧ sh s a0 4 5 ∧ ∃ n2, sh s r1 11 n2 ∧ vp_in (gI s a0 4) n2 ∧ ((gI s r1 ((gI s a0 4)).toNatClampNeg) = a1 →
      sh s a0 4 5 ∧ sh s a0 4 5 ∧ nw (wrI s a0 4 ((gI s a0 4) + (nI 1))) (fun s3 =>
      fN .boolean (nI 1) = true ∧ Q (some (.int (nI 1))) s3)) ∧
    (¬ (gI s r1 ((gI s a0 4)).toNatClampNeg) = a1 →
      fN .boolean (nI 0) = true ∧ Q (some (.int (nI 0))) s))) : wp E 54 0 [.ref a0, .int a1] [] s Q := vc_ok E 54 [] Q 21 false 0 _ _ _ h
end
section
-- 55 CoatedBridges$Text.readNumber(I)Z
theorem sg55_0 {E : AEnv} {a0 : Nat} {a1 : Int32} {s : ASt} {Q : Option Value → ASt → Prop} (h :
  wp E 55 4 [.ref a0, .int a1, .int (nI 0), .int (nI 0)] [] s Q) : wp E 55 0 [.ref a0, .int a1] [] s Q := vc_ok E 55 [4] Q 6 false 0 _ _ _ h
theorem sg55_4 {E : AEnv} {a0 : Nat} {a1 : Int32} {a2 : Int32} {a3 : Int32} {s : ASt} {Q : Option Value → ASt → Prop} (h :
  ((nI 3) ≤ a3 →
    sh s a0 4 5 ∧ ∃ r1, rf s a0 2 r1 ∧ ∃ n2, sh s r1 10 n2 ∧ vp_in a1 n2 ∧ nw (wrI s r1 (a1).toNatClampNeg a2) (fun s3 =>
    (a3 ≤ (nI 0) →
      fN .boolean (nI 0) = true ∧ Q (some (.int (nI 0))) s3) ∧
    (¬ a3 ≤ (nI 0) →
      fN .boolean (nI 1) = true ∧ Q (some (.int (nI 1))) s3))) ∧
  (¬ (nI 3) ≤ a3 →
    sh s a0 4 5 ∧ cI E 56 [.ref a0] s (fun x5 s4 =>
    (x5 = (nI 0) →
      sh s4 a0 4 5 ∧ ∃ r6, rf s4 a0 2 r6 ∧ ∃ n7, sh s4 r6 10 n7 ∧ vp_in a1 n7 ∧ nw (wrI s4 r6 (a1).toNatClampNeg a2) (fun s8 =>
      (a3 ≤ (nI 0) →
        fN .boolean (nI 0) = true ∧ Q (some (.int (nI 0))) s8) ∧
      (¬ a3 ≤ (nI 0) →
        fN .boolean (nI 1) = true ∧ Q (some (.int (nI 1))) s8))) ∧
    (¬ x5 = (nI 0) →
      sh s4 a0 4 5 ∧ ∃ r9, rf s4 a0 0 r9 ∧ sh s4 a0 4 5 ∧ ∃ n10, sh s4 r9 11 n10 ∧ vp_in (gI s4 a0 4) n10 ∧ sh s4 a0 4 5 ∧ sh s4 a0 4 5 ∧ nw (wrI s4 a0 4 ((gI s4 a0 4) + (nI 1))) (fun s11 =>
      wp E 55 4 [.ref a0, .int a1, .int ((a2 * (nI 10)) + ((gI s4 r9 ((gI s4 a0 4)).toNatClampNeg) - (nI 48))), .int (a3 + (nI 1))] [] s11 Q))))) : wp E 55 4 [.ref a0, .int a1, .int a2, .int a3] [] s Q := vc_ok E 55 [4] Q 28 false 4 _ _ _ h
-- 56 CoatedBridges$Text.atDigit()Z
theorem sg56_0 {E : AEnv} {a0 : Nat} {s : ASt} {Q : Option Value → ASt → Prop} (h :
  sh s a0 4 5 ∧ sh s a0 4 5 ∧ ((gI s a0 1) ≤ (gI s a0 4) →
    fN .boolean (nI 0) = true ∧ Q (some (.int (nI 0))) s) ∧
  (¬ (gI s a0 1) ≤ (gI s a0 4) →
    sh s a0 4 5 ∧ ∃ r1, rf s a0 0 r1 ∧ sh s a0 4 5 ∧ ∃ n2, sh s r1 11 n2 ∧ vp_in (gI s a0 4) n2 ∧ ((gI s r1 ((gI s a0 4)).toNatClampNeg) < (nI 48) →
      fN .boolean (nI 0) = true ∧ Q (some (.int (nI 0))) s) ∧
    (¬ (gI s r1 ((gI s a0 4)).toNatClampNeg) < (nI 48) →
      sh s a0 4 5 ∧ ∃ r3, rf s a0 0 r3 ∧ sh s a0 4 5 ∧ ∃ n4, sh s r3 11 n4 ∧ vp_in (gI s a0 4) n4 ∧ ((nI 57) < (gI s r3 ((gI s a0 4)).toNatClampNeg) →
        fN .boolean (nI 0) = true ∧ Q (some (.int (nI 0))) s) ∧
      (¬ (nI 57) < (gI s r3 ((gI s a0 4)).toNatClampNeg) →
        fN .boolean (nI 1) = true ∧ Q (some (.int (nI 1))) s)))) : wp E 56 0 [.ref a0] [] s Q := vc_ok E 56 [] Q 23 false 0 _ _ _ h
-- 58 CoatedBridges.island(I)I
theorem sg58_0 {E : AEnv} {a0 : Nat} {a1 : Int32} {s : ASt} {Q : Option Value → ASt → Prop} (h :
  sh s a0 5 9 ∧ cR E 82 [.ref a0] s (fun r2 s1 =>
  sh s1 r2 3 11 ∧ cI E 22 [.ref r2, .int a1] s1 (fun x4 s3 =>
  sh s3 a0 5 9 ∧ cI E 83 [.ref a0, .int x4] s3 (fun x6 s5 =>
  Q (some (.int x6)) s5)))) : wp E 58 0 [.ref a0, .int a1] [] s Q := vc_ok E 58 [] Q 8 false 0 _ _ _ h
-- 59 CoatedBridges.bridge(III)I
theorem sg59_0 {E : AEnv} {a0 : Nat} {a1 : Int32} {a2 : Int32} {a3 : Int32} {s : ASt} {Q : Option Value → ASt → Prop} (h :
  sh s a0 5 9 ∧ cR E 82 [.ref a0] s (fun r2 s1 =>
  sh s1 r2 3 11 ∧ cI E 23 [.ref r2, .int a1, .int a2, .int a3] s1 (fun x4 s3 =>
  sh s3 a0 5 9 ∧ cI E 83 [.ref a0, .int x4] s3 (fun x6 s5 =>
  Q (some (.int x6)) s5)))) : wp E 59 0 [.ref a0, .int a1, .int a2, .int a3] [] s Q := vc_ok E 59 [] Q 10 false 0 _ _ _ h
-- 60 CoatedBridges.send(II)I
theorem sg60_0 {E : AEnv} {a0 : Nat} {a1 : Int32} {a2 : Int32} {s : ASt} {Q : Option Value → ASt → Prop} (h :
  sh s a0 5 9 ∧ cR E 82 [.ref a0] s (fun r2 s1 =>
  sh s1 r2 3 11 ∧ cI E 24 [.ref r2, .int a1, .int a2] s1 (fun x4 s3 =>
  sh s3 a0 5 9 ∧ cI E 83 [.ref a0, .int x4] s3 (fun x6 s5 =>
  Q (some (.int x6)) s5)))) : wp E 60 0 [.ref a0, .int a1, .int a2] [] s Q := vc_ok E 60 [] Q 9 false 0 _ _ _ h
-- 61 CoatedBridges.recall(I)I
theorem sg61_0 {E : AEnv} {a0 : Nat} {a1 : Int32} {s : ASt} {Q : Option Value → ASt → Prop} (h :
  sh s a0 5 9 ∧ cR E 82 [.ref a0] s (fun r2 s1 =>
  sh s1 r2 3 11 ∧ cI E 25 [.ref r2, .int a1] s1 (fun x4 s3 =>
  sh s3 a0 5 9 ∧ cI E 83 [.ref a0, .int x4] s3 (fun x6 s5 =>
  Q (some (.int x6)) s5)))) : wp E 61 0 [.ref a0, .int a1] [] s Q := vc_ok E 61 [] Q 8 false 0 _ _ _ h
-- 62 CoatedBridges.pay(I)I
theorem sg62_0 {E : AEnv} {a0 : Nat} {a1 : Int32} {s : ASt} {Q : Option Value → ASt → Prop} (h :
  sh s a0 5 9 ∧ cR E 82 [.ref a0] s (fun r2 s1 =>
  sh s1 r2 3 11 ∧ cI E 26 [.ref r2, .int a1] s1 (fun x4 s3 =>
  sh s3 a0 5 9 ∧ cI E 83 [.ref a0, .int x4] s3 (fun x6 s5 =>
  Q (some (.int x6)) s5)))) : wp E 62 0 [.ref a0, .int a1] [] s Q := vc_ok E 62 [] Q 8 false 0 _ _ _ h
-- 63 CoatedBridges.days(I)I
theorem sg63_0 {E : AEnv} {a0 : Nat} {a1 : Int32} {s : ASt} {Q : Option Value → ASt → Prop} (h :
  sh s a0 5 9 ∧ cR E 82 [.ref a0] s (fun r2 s1 =>
  sh s1 r2 3 11 ∧ cI E 28 [.ref r2, .int a1] s1 (fun x4 s3 =>
  sh s3 a0 5 9 ∧ cI E 83 [.ref a0, .int x4] s3 (fun x6 s5 =>
  Q (some (.int x6)) s5)))) : wp E 63 0 [.ref a0, .int a1] [] s Q := vc_ok E 63 [] Q 8 false 0 _ _ _ h
-- 64 CoatedBridges.set(II)I
theorem sg64_0 {E : AEnv} {a0 : Nat} {a1 : Int32} {a2 : Int32} {s : ASt} {Q : Option Value → ASt → Prop} (h :
  sh s a0 5 9 ∧ cR E 82 [.ref a0] s (fun r2 s1 =>
  sh s1 r2 3 11 ∧ cI E 27 [.ref r2, .int a1, .int a2] s1 (fun x4 s3 =>
  sh s3 a0 5 9 ∧ cI E 83 [.ref a0, .int x4] s3 (fun x6 s5 =>
  Q (some (.int x6)) s5)))) : wp E 64 0 [.ref a0, .int a1, .int a2] [] s Q := vc_ok E 64 [] Q 9 false 0 _ _ _ h
-- 65 CoatedBridges.bridgeOf(II)I
theorem sg65_0 {E : AEnv} {a0 : Nat} {a1 : Int32} {a2 : Int32} {s : ASt} {Q : Option Value → ASt → Prop} (h :
  sh s a0 5 9 ∧ ∃ r1, rf s a0 0 r1 ∧ sh s r1 3 11 ∧ cI E 21 [.ref r1, .int a1] s (fun x3 s2 =>
  (x3 ≠ (nI 0) →
    sh s2 a0 5 9 ∧ ∃ r4, rf s2 a0 0 r4 ∧ sh s2 r4 3 11 ∧ ∃ r5, rf s2 r4 1 r5 ∧ ∃ n6 r7, sh s2 r5 14 n6 ∧ vp_in a1 n6 ∧ rf s2 r5 (a1).toNatClampNeg r7 ∧ (a2 = (nI 0) →
      sh s2 r7 1 9 ∧ Q (some (.int (gI s2 r7 0))) s2) ∧
    (¬ a2 = (nI 0) →
     (a2 = (nI 1) →
      sh s2 r7 1 9 ∧ Q (some (.int (gI s2 r7 1))) s2) ∧
    (¬ a2 = (nI 1) →
     (a2 = (nI 2) →
      sh s2 r7 1 9 ∧ Q (some (.int (gI s2 r7 3))) s2) ∧
    (¬ a2 = (nI 2) →
     (a2 = (nI 3) →
      sh s2 r7 1 9 ∧ Q (some (.int (gI s2 r7 4))) s2) ∧
    (¬ a2 = (nI 3) →
     (a2 = (nI 4) →
      sh s2 r7 1 9 ∧ Q (some (.int (gI s2 r7 5))) s2) ∧
    (¬ a2 = (nI 4) →
     (a2 = (nI 5) →
      sh s2 r7 1 9 ∧ Q (some (.int (gI s2 r7 6))) s2) ∧
    (¬ a2 = (nI 5) →
     (a2 = (nI 6) →
      sh s2 r7 1 9 ∧ Q (some (.int (gI s2 r7 7))) s2) ∧
    (¬ a2 = (nI 6) →
     (a2 = (nI 7) →
      sh s2 r7 1 9 ∧ Q (some (.int (gI s2 r7 8))) s2) ∧
    (¬ a2 = (nI 7) →
     (a2 = (nI 8) →
      sh s2 a0 5 9 ∧ ∃ r8, rf s2 a0 0 r8 ∧ sh s2 r8 3 11 ∧ cI E 42 [.ref r8] s2 (fun x10 s9 =>
      cI E 88 [.int x10, .int a1] s9 (fun x12 s11 =>
      (x12 = (nI 0) →
        Q (some (.int (nI 0))) s11) ∧
      (¬ x12 = (nI 0) →
        Q (some (.int (nI 1))) s11)))) ∧
    (¬ a2 = (nI 8) →
     Q (some (.int (-1000001 : Int32))) s2)))))))))) ∧
  (¬ x3 ≠ (nI 0) →
    Q (some (.int (-1000001 : Int32))) s2))) : wp E 65 0 [.ref a0, .int a1, .int a2] [] s Q := vc_ok E 65 [] Q 23 false 0 _ _ _ h
-- 66 CoatedBridges.islandOf(II)I
theorem sg66_0 {E : AEnv} {a0 : Nat} {a1 : Int32} {a2 : Int32} {s : ASt} {Q : Option Value → ASt → Prop} (h :
  sh s a0 5 9 ∧ ∃ r1, rf s a0 0 r1 ∧ sh s r1 3 11 ∧ cI E 20 [.ref r1, .int a1] s (fun x3 s2 =>
  (x3 ≠ (nI 0) →
    sh s2 a0 5 9 ∧ ∃ r4, rf s2 a0 0 r4 ∧ sh s2 r4 3 11 ∧ ∃ r5, rf s2 r4 0 r5 ∧ ∃ n6 r7, sh s2 r5 13 n6 ∧ vp_in a1 n6 ∧ rf s2 r5 (a1).toNatClampNeg r7 ∧ (a2 = (nI 0) →
      sh s2 a0 5 9 ∧ ∃ r14, rf s2 a0 0 r14 ∧ sh s2 r14 3 11 ∧ cI E 39 [.ref r14, .int (nI 0), .int (-1 : Int32)] s2 (fun x16 s15 =>
      cI E 88 [.int x16, .int a1] s15 (fun x18 s17 =>
      (x18 = (nI 0) →
        Q (some (.int (nI 0))) s17) ∧
      (¬ x18 = (nI 0) →
        Q (some (.int (nI 1))) s17)))) ∧
    (¬ a2 = (nI 0) →
     (a2 = (nI 1) →
      sh s2 r7 2 5 ∧ Q (some (.int (gI s2 r7 1))) s2) ∧
    (¬ a2 = (nI 1) →
     (a2 = (nI 2) →
      sh s2 r7 2 5 ∧ Q (some (.int (gI s2 r7 0))) s2) ∧
    (¬ a2 = (nI 2) →
     (a2 = (nI 3) →
      sh s2 r7 2 5 ∧ Q (some (.int (gI s2 r7 3))) s2) ∧
    (¬ a2 = (nI 3) →
     (a2 = (nI 4) →
      sh s2 r7 2 5 ∧ Q (some (.int (gI s2 r7 2))) s2) ∧
    (¬ a2 = (nI 4) →
     (a2 = (nI 5) →
      sh s2 r7 2 5 ∧ Q (some (.int (gI s2 r7 4))) s2) ∧
    (¬ a2 = (nI 5) →
     (a2 = (nI 6) →
      sh s2 a0 5 9 ∧ ∃ r11, rf s2 a0 0 r11 ∧ sh s2 r11 3 11 ∧ cI E 44 [.ref r11, .int a1] s2 (fun x13 s12 =>
      Q (some (.int x13)) s12)) ∧
    (¬ a2 = (nI 6) →
     (a2 = (nI 7) →
      sh s2 a0 5 9 ∧ ∃ r8, rf s2 a0 0 r8 ∧ sh s2 r8 3 11 ∧ cI E 43 [.ref r8, .int a1] s2 (fun x10 s9 =>
      Q (some (.int x10)) s9)) ∧
    (¬ a2 = (nI 7) →
     Q (some (.int (-1000001 : Int32))) s2))))))))) ∧
  (¬ x3 ≠ (nI 0) →
    Q (some (.int (-1000001 : Int32))) s2))) : wp E 66 0 [.ref a0, .int a1, .int a2] [] s Q := vc_ok E 66 [] Q 25 false 0 _ _ _ h
-- 67 CoatedBridges.reach(I)I
theorem sg67_0 {E : AEnv} {a0 : Nat} {a1 : Int32} {s : ASt} {Q : Option Value → ASt → Prop} (h :
  sh s a0 5 9 ∧ ∃ r1, rf s a0 0 r1 ∧ sh s r1 3 11 ∧ cI E 20 [.ref r1, .int a1] s (fun x3 s2 =>
  (x3 = (nI 0) →
    Q (some (.int (-1000001 : Int32))) s2) ∧
  (¬ x3 = (nI 0) →
    sh s2 a0 5 9 ∧ ∃ r4, rf s2 a0 0 r4 ∧ sh s2 r4 3 11 ∧ cI E 39 [.ref r4, .int a1, .int (-1 : Int32)] s2 (fun x6 s5 =>
    Q (some (.int x6)) s5)))) : wp E 67 0 [.ref a0, .int a1] [] s Q := vc_ok E 67 [] Q 13 false 0 _ _ _ h
-- 68 CoatedBridges.book(II)I
theorem sg68_0 {E : AEnv} {a0 : Nat} {a1 : Int32} {a2 : Int32} {s : ASt} {Q : Option Value → ASt → Prop} (h :
  (a1 < (nI 0) →
    Q (some (.int (-1000001 : Int32))) s) ∧
  (¬ a1 < (nI 0) →
    (a2 < (nI 0) →
      Q (some (.int (-1000001 : Int32))) s) ∧
    (¬ a2 < (nI 0) →
      (a2 ≤ (nI 1) →
        (a2 ≠ (nI 0) →
          sh s a0 5 9 ∧ ∃ r1, rf s a0 0 r1 ∧ sh s r1 3 11 ∧ ∃ r2, rf s r1 3 r2 ∧ sh s r2 0 3 ∧ cI E 5 [.ref r2, .int a1] s (fun x4 s3 =>
          Q (some (.int x4)) s3)) ∧
        (¬ a2 ≠ (nI 0) →
          sh s a0 5 9 ∧ ∃ r5, rf s a0 0 r5 ∧ sh s r5 3 11 ∧ ∃ r6, rf s r5 3 r6 ∧ sh s r6 0 3 ∧ cI E 4 [.ref r6, .int a1] s (fun x8 s7 =>
          Q (some (.int x8)) s7))) ∧
      (¬ a2 ≤ (nI 1) →
        Q (some (.int (-1000001 : Int32))) s)))) : wp E 68 0 [.ref a0, .int a1, .int a2] [] s Q := vc_ok E 68 [] Q 17 false 0 _ _ _ h
-- 69 CoatedBridges.why(II)I
theorem sg69_0 {E : AEnv} {a0 : Nat} {a1 : Int32} {a2 : Int32} {s : ASt} {Q : Option Value → ASt → Prop} (h :
  sh s a0 5 9 ∧ ∃ r1, rf s a0 0 r1 ∧ sh s r1 3 11 ∧ cI E 21 [.ref r1, .int a1] s (fun x3 s2 =>
  (x3 = (nI 0) →
    Q (some (.int (-1000001 : Int32))) s2) ∧
  (¬ x3 = (nI 0) →
    (a2 < (nI 0) →
      Q (some (.int (-1000001 : Int32))) s2) ∧
    (¬ a2 < (nI 0) →
      (a2 ≤ (nI 1) →
        sh s2 a0 5 9 ∧ ∃ r4, rf s2 a0 0 r4 ∧ sh s2 r4 3 11 ∧ cI E 36 [.ref r4, .int a1] s2 (fun x6 s5 =>
        (a2 ≠ (nI 0) →
          (x6 ≠ (nI 4) →
            Q (some (.int (-1000004 : Int32))) s5) ∧
          (¬ x6 ≠ (nI 4) →
            sh s5 a0 5 9 ∧ ∃ r7, rf s5 a0 0 r7 ∧ sh s5 r7 3 11 ∧ cI E 41 [.ref r7, .int a1] s5 (fun x9 s8 =>
            cI E 89 [.int x9] s8 (fun x11 s10 =>
            Q (some (.int x11)) s10)))) ∧
        (¬ a2 ≠ (nI 0) →
          Q (some (.int x6)) s5))) ∧
      (¬ a2 ≤ (nI 1) →
        Q (some (.int (-1000001 : Int32))) s2))))) : wp E 69 0 [.ref a0, .int a1, .int a2] [] s Q := vc_ok E 69 [] Q 28 false 0 _ _ _ h
-- 70 CoatedBridges.best()I
theorem sg70_0 {E : AEnv} {a0 : Nat} {s : ASt} {Q : Option Value → ASt → Prop} (h :
  sh s a0 5 9 ∧ ∃ r1, rf s a0 0 r1 ∧ sh s r1 3 11 ∧ cI E 37 [.ref r1] s (fun x3 s2 =>
  Q (some (.int x3)) s2)) : wp E 70 0 [.ref a0] [] s Q := vc_ok E 70 [] Q 5 false 0 _ _ _ h
-- 71 CoatedBridges.rustsIn(I)I
theorem sg71_0 {E : AEnv} {a0 : Nat} {a1 : Int32} {s : ASt} {Q : Option Value → ASt → Prop} (h :
  sh s a0 5 9 ∧ ∃ r1, rf s a0 0 r1 ∧ sh s r1 3 11 ∧ cI E 21 [.ref r1, .int a1] s (fun x3 s2 =>
  (x3 ≠ (nI 0) →
    sh s2 a0 5 9 ∧ ∃ r4, rf s2 a0 0 r4 ∧ sh s2 r4 3 11 ∧ ∃ r5, rf s2 r4 1 r5 ∧ ∃ n6 r7, sh s2 r5 14 n6 ∧ vp_in a1 n6 ∧ rf s2 r5 (a1).toNatClampNeg r7 ∧ sh s2 r7 1 9 ∧ ((gI s2 r7 5) ≠ (nI 1) →
      sh s2 r7 1 9 ∧ cI E 13 [.ref r7] s2 (fun x9 s8 =>
      Q (some (.int x9)) s8)) ∧
    (¬ (gI s2 r7 5) ≠ (nI 1) →
      Q (some (.int (-1000002 : Int32))) s2)) ∧
  (¬ x3 ≠ (nI 0) →
    Q (some (.int (-1000001 : Int32))) s2))) : wp E 71 0 [.ref a0, .int a1] [] s Q := vc_ok E 71 [] Q 19 false 0 _ _ _ h
-- 72 CoatedBridges.paintedIn(I)I
theorem sg72_0 {E : AEnv} {a0 : Nat} {a1 : Int32} {s : ASt} {Q : Option Value → ASt → Prop} (h :
  sh s a0 5 9 ∧ ∃ r1, rf s a0 0 r1 ∧ sh s r1 3 11 ∧ cI E 21 [.ref r1, .int a1] s (fun x3 s2 =>
  (x3 ≠ (nI 0) →
    sh s2 a0 5 9 ∧ ∃ r4, rf s2 a0 0 r4 ∧ sh s2 r4 3 11 ∧ ∃ r5, rf s2 r4 1 r5 ∧ ∃ n6 r7, sh s2 r5 14 n6 ∧ vp_in a1 n6 ∧ rf s2 r5 (a1).toNatClampNeg r7 ∧ sh s2 r7 1 9 ∧ ((gI s2 r7 5) = (nI 1) →
      sh s2 a0 5 9 ∧ cR E 82 [.ref a0] s2 (fun r9 s8 =>
      wp E 72 40 [.ref a0, .int a1, .ref r9, .int (nI 1)] [] s8 Q)) ∧
    (¬ (gI s2 r7 5) = (nI 1) →
      Q (some (.int (-1000002 : Int32))) s2)) ∧
  (¬ x3 ≠ (nI 0) →
    Q (some (.int (-1000001 : Int32))) s2))) : wp E 72 0 [.ref a0, .int a1] [] s Q := vc_ok E 72 [40] Q 20 false 0 _ _ _ h
theorem sg72_40 {E : AEnv} {a0 : Nat} {a1 : Int32} {a2 : Nat} {a3 : Int32} {s : ASt} {Q : Option Value → ASt → Prop} (h :
  ((nI 200) < a3 →
    Q (some (.int (-1000004 : Int32))) s) ∧
  (¬ (nI 200) < a3 →
    sh s a2 3 11 ∧ cI E 29 [.ref a2] s (fun x2 s1 =>
    sh s1 a2 3 11 ∧ ∃ r3, rf s1 a2 1 r3 ∧ ∃ n4 r5, sh s1 r3 14 n4 ∧ vp_in a1 n4 ∧ rf s1 r3 (a1).toNatClampNeg r5 ∧ sh s1 r5 1 9 ∧ ((gI s1 r5 5) ≠ (nI 0) →
      wp E 72 40 [.ref a0, .int a1, .ref a2, .int (a3 + (nI 1))] [] s1 Q) ∧
    (¬ (gI s1 r5 5) ≠ (nI 0) →
      Q (some (.int a3)) s1)))) : wp E 72 40 [.ref a0, .int a1, .ref a2, .int a3] [] s Q := vc_ok E 72 [40] Q 16 false 40 _ _ _ h
-- 73 CoatedBridges.aloneIn()I
theorem sg73_0 {E : AEnv} {a0 : Nat} {s : ASt} {Q : Option Value → ASt → Prop} (h :
  sh s a0 5 9 ∧ ∃ r1, rf s a0 0 r1 ∧ sh s r1 3 11 ∧ cI E 39 [.ref r1, .int (nI 0), .int (-1 : Int32)] s (fun x3 s2 =>
  sh s2 a0 5 9 ∧ cR E 82 [.ref a0] s2 (fun r5 s4 =>
  wp E 73 17 [.ref a0, .int x3, .ref r5, .int (nI 1)] [] s4 Q))) : wp E 73 0 [.ref a0] [] s Q := vc_ok E 73 [17] Q 13 false 0 _ _ _ h
theorem sg73_17 {E : AEnv} {a0 : Nat} {a1 : Int32} {a2 : Nat} {a3 : Int32} {s : ASt} {Q : Option Value → ASt → Prop} (h :
  ((nI 200) < a3 →
    Q (some (.int (-1000004 : Int32))) s) ∧
  (¬ (nI 200) < a3 →
    sh s a2 3 11 ∧ cI E 29 [.ref a2] s (fun x2 s1 =>
    sh s1 a2 3 11 ∧ cI E 39 [.ref a2, .int (nI 0), .int (-1 : Int32)] s1 (fun x4 s3 =>
    ((a1 &&& (x4 ^^^ (-1 : Int32))) = (nI 0) →
      wp E 73 17 [.ref a0, .int a1, .ref a2, .int (a3 + (nI 1))] [] s3 Q) ∧
    (¬ (a1 &&& (x4 ^^^ (-1 : Int32))) = (nI 0) →
      Q (some (.int a3)) s3))))) : wp E 73 17 [.ref a0, .int a1, .ref a2, .int a3] [] s Q := vc_ok E 73 [17] Q 19 false 17 _ _ _ h
-- 74 CoatedBridges.ifDays(I)I
theorem sg74_0 {E : AEnv} {a0 : Nat} {a1 : Int32} {s : ASt} {Q : Option Value → ASt → Prop} (h :
  (a1 < (nI 1) →
    Q (some (.int (-1000001 : Int32))) s) ∧
  (¬ a1 < (nI 1) →
    (a1 ≤ (nI 99) →
      sh s a0 5 9 ∧ cR E 82 [.ref a0] s (fun r2 s1 =>
      wp E 74 24 [.ref a0, .int a1, .ref r2, .int (nI 0), .int (nI 0)] [] s1 Q)) ∧
    (¬ a1 ≤ (nI 99) →
      Q (some (.int (-1000001 : Int32))) s))) : wp E 74 0 [.ref a0, .int a1] [] s Q := vc_ok E 74 [24] Q 15 false 0 _ _ _ h
theorem sg74_24 {E : AEnv} {a0 : Nat} {a1 : Int32} {a2 : Nat} {a3 : Int32} {a4 : Int32} {s : ASt} {Q : Option Value → ASt → Prop} (h :
  (a1 ≤ a4 →
    Q (some (.int a3)) s) ∧
  (¬ a1 ≤ a4 →
    sh s a2 3 11 ∧ cI E 29 [.ref a2] s (fun x2 s1 =>
    wp E 74 24 [.ref a0, .int a1, .ref a2, .int (a3 + x2), .int (a4 + (nI 1))] [] s1 Q))) : wp E 74 24 [.ref a0, .int a1, .ref a2, .int a3, .int a4] [] s Q := vc_ok E 74 [24] Q 12 false 24 _ _ _ h
-- 75 CoatedBridges.mean()I
theorem sg75_0 {E : AEnv} {a0 : Nat} {s : ASt} {Q : Option Value → ASt → Prop} (h :
  sh s a0 5 9 ∧ ∃ r1, rf s a0 0 r1 ∧ sh s r1 3 11 ∧ ((gI s r1 5) ≠ (nI 0) →
    sh s a0 5 9 ∧ ∃ r2, rf s a0 0 r2 ∧ sh s r2 3 11 ∧ cI E 47 [.ref r2] s (fun x4 s3 =>
    sh s3 a0 5 9 ∧ ∃ r5, rf s3 a0 0 r5 ∧ sh s3 r5 3 11 ∧ ((FP.fdiv (FP.i2f x4) (FP.i2f (gI s3 r5 5))) &&& 0x7fffffff ≤ 0x7f800000) ∧ cI E 90 [.float (FP.fdiv (FP.i2f x4) (FP.i2f (gI s3 r5 5)))] s3 (fun x7 s6 =>
    Q (some (.int x7)) s6))) ∧
  (¬ (gI s r1 5) ≠ (nI 0) →
    Q (some (.int (-1000004 : Int32))) s)) : wp E 75 0 [.ref a0] [] s Q := vc_ok E 75 [] Q 16 false 0 _ _ _ h
-- 76 CoatedBridges.count(I)I
theorem sg76_0 {E : AEnv} {a0 : Nat} {a1 : Int32} {s : ASt} {Q : Option Value → ASt → Prop} (h :
  (a1 < (nI 0) →
    Q (some (.int (-1000001 : Int32))) s) ∧
  (¬ a1 < (nI 0) →
    (a1 < (nI 28) →
      (a1 < (nI 20) →
        (a1 = (nI 0) →
          sh s a0 5 9 ∧ ∃ r40, rf s a0 0 r40 ∧ sh s r40 3 11 ∧ Q (some (.int (gI s r40 6))) s) ∧
        (¬ a1 = (nI 0) →
         (a1 = (nI 1) →
          sh s a0 5 9 ∧ ∃ r39, rf s a0 0 r39 ∧ sh s r39 3 11 ∧ Q (some (.int (gI s r39 4))) s) ∧
        (¬ a1 = (nI 1) →
         (a1 = (nI 2) →
          sh s a0 5 9 ∧ ∃ r38, rf s a0 0 r38 ∧ sh s r38 3 11 ∧ Q (some (.int (gI s r38 5))) s) ∧
        (¬ a1 = (nI 2) →
         (a1 = (nI 3) →
          sh s a0 5 9 ∧ ∃ r35, rf s a0 0 r35 ∧ sh s r35 3 11 ∧ cI E 39 [.ref r35, .int (nI 0), .int (-1 : Int32)] s (fun x37 s36 =>
          Q (some (.int x37)) s36)) ∧
        (¬ a1 = (nI 3) →
         (a1 = (nI 4) →
          sh s a0 5 9 ∧ ∃ r32, rf s a0 0 r32 ∧ sh s r32 3 11 ∧ cI E 38 [.ref r32, .int (nI 0)] s (fun x34 s33 =>
          Q (some (.int x34)) s33)) ∧
        (¬ a1 = (nI 4) →
         (a1 = (nI 5) →
          sh s a0 5 9 ∧ ∃ r29, rf s a0 0 r29 ∧ sh s r29 3 11 ∧ cI E 38 [.ref r29, .int (nI 1)] s (fun x31 s30 =>
          Q (some (.int x31)) s30)) ∧
        (¬ a1 = (nI 5) →
         (a1 = (nI 6) →
          sh s a0 5 9 ∧ ∃ r26, rf s a0 0 r26 ∧ sh s r26 3 11 ∧ cI E 38 [.ref r26, .int (nI 2)] s (fun x28 s27 =>
          Q (some (.int x28)) s27)) ∧
        (¬ a1 = (nI 6) →
         (a1 = (nI 7) →
          sh s a0 5 9 ∧ ∃ r23, rf s a0 0 r23 ∧ sh s r23 3 11 ∧ cI E 42 [.ref r23] s (fun x25 s24 =>
          Q (some (.int x25)) s24)) ∧
        (¬ a1 = (nI 7) →
         (a1 = (nI 8) →
          sh s a0 5 9 ∧ ∃ r20, rf s a0 0 r20 ∧ sh s r20 3 11 ∧ cI E 45 [.ref r20] s (fun x22 s21 =>
          Q (some (.int x22)) s21)) ∧
        (¬ a1 = (nI 8) →
         (a1 = (nI 9) →
          sh s a0 5 9 ∧ ∃ r17, rf s a0 0 r17 ∧ sh s r17 3 11 ∧ cI E 46 [.ref r17] s (fun x19 s18 =>
          Q (some (.int x19)) s18)) ∧
        (¬ a1 = (nI 9) →
         (a1 = (nI 10) →
          sh s a0 5 9 ∧ ∃ r14, rf s a0 0 r14 ∧ sh s r14 3 11 ∧ cI E 35 [.ref r14] s (fun x16 s15 =>
          Q (some (.int x16)) s15)) ∧
        (¬ a1 = (nI 10) →
         (a1 = (nI 11) →
          sh s a0 5 9 ∧ ∃ r11, rf s a0 0 r11 ∧ sh s r11 3 11 ∧ cI E 48 [.ref r11] s (fun x13 s12 =>
          Q (some (.int x13)) s12)) ∧
        (¬ a1 = (nI 11) →
         (a1 = (nI 12) →
          sh s a0 5 9 ∧ ∃ r8, rf s a0 0 r8 ∧ sh s r8 3 11 ∧ cI E 49 [.ref r8] s (fun x10 s9 =>
          Q (some (.int x10)) s9)) ∧
        (¬ a1 = (nI 12) →
         (a1 = (nI 13) →
          sh s a0 5 9 ∧ ∃ r7, rf s a0 0 r7 ∧ sh s r7 3 11 ∧ Q (some (.int (gI s r7 7))) s) ∧
        (¬ a1 = (nI 13) →
         (a1 = (nI 14) →
          sh s a0 5 9 ∧ ∃ r6, rf s a0 0 r6 ∧ sh s r6 3 11 ∧ Q (some (.int (gI s r6 8))) s) ∧
        (¬ a1 = (nI 14) →
         (a1 = (nI 15) →
          sh s a0 5 9 ∧ ∃ r5, rf s a0 0 r5 ∧ sh s r5 3 11 ∧ Q (some (.int (gI s r5 9))) s) ∧
        (¬ a1 = (nI 15) →
         (a1 = (nI 16) →
          sh s a0 5 9 ∧ ∃ r4, rf s a0 0 r4 ∧ sh s r4 3 11 ∧ Q (some (.int (gI s r4 10))) s) ∧
        (¬ a1 = (nI 16) →
         (a1 = (nI 17) →
          sh s a0 5 9 ∧ ∃ r2, rf s a0 0 r2 ∧ sh s r2 3 11 ∧ ∃ r3, rf s r2 3 r3 ∧ sh s r3 0 3 ∧ Q (some (.int (gI s r3 2))) s) ∧
        (¬ a1 = (nI 17) →
         (a1 = (nI 18) →
          sh s a0 5 9 ∧ Q (some (.int (gI s a0 3))) s) ∧
        (¬ a1 = (nI 18) →
         sh s a0 5 9 ∧ ∃ r1, rf s a0 4 r1 ∧ sh s r1 4 5 ∧ Q (some (.int (gI s r1 1))) s)))))))))))))))))))) ∧
      (¬ a1 < (nI 20) →
        sh s a0 5 9 ∧ ∃ r41, rf s a0 0 r41 ∧ sh s r41 3 11 ∧ ∃ r42, rf s r41 2 r42 ∧ ∃ n43, sh s r42 10 n43 ∧ vp_in (a1 - (nI 20)) n43 ∧ Q (some (.int (gI s r42 ((a1 - (nI 20))).toNatClampNeg))) s)) ∧
    (¬ a1 < (nI 28) →
      Q (some (.int (-1000001 : Int32))) s))) : wp E 76 0 [.ref a0, .int a1] [] s Q := vc_ok E 76 [] Q 17 false 0 _ _ _ h
-- 77 CoatedBridges.undo()I
theorem sg77_0 {E : AEnv} {a0 : Nat} {s : ASt} {Q : Option Value → ASt → Prop} (h :
  sh s a0 5 9 ∧ ((gI s a0 3) ≠ (nI 0) →
    sh s a0 5 9 ∧ sh s a0 5 9 ∧ nw (wrI s a0 3 ((gI s a0 3) - (nI 1))) (fun s1 =>
    sh s1 a0 5 9 ∧ ∃ r2, rf s1 a0 0 r2 ∧ sh s1 a0 5 9 ∧ ∃ r3, rf s1 a0 2 r3 ∧ sh s1 a0 5 9 ∧ ∃ n4 r5, sh s1 r3 15 n4 ∧ vp_in (gI s1 a0 3) n4 ∧ rf s1 r3 ((gI s1 a0 3)).toNatClampNeg r5 ∧ sh s1 a0 5 9 ∧ nw (wrR s1 a0 0 r5) (fun s6 =>
    sh s6 a0 5 9 ∧ ∃ r7, rf s6 a0 2 r7 ∧ sh s6 a0 5 9 ∧ ∃ n8, sh s6 r7 15 n8 ∧ vp_in (gI s6 a0 3) n8 ∧ sh s6 r2 3 11 ∧ nw (wrR s6 r7 ((gI s6 a0 3)).toNatClampNeg r2) (fun s9 =>
    sh s9 a0 5 9 ∧ Q (some (.int (gI s9 a0 3))) s9)))) ∧
  (¬ (gI s a0 3) ≠ (nI 0) →
    Q (some (.int (-1000002 : Int32))) s)) : wp E 77 0 [.ref a0] [] s Q := vc_ok E 77 [] Q 29 false 0 _ _ _ h
-- 78 CoatedBridges.type(I)I
theorem sg78_0 {E : AEnv} {a0 : Nat} {a1 : Int32} {s : ASt} {Q : Option Value → ASt → Prop} (h :
  (a1 < (nI 32) →
    Q (some (.int (-1000001 : Int32))) s) ∧
  (¬ a1 < (nI 32) →
    (a1 ≤ (nI 126) →
      sh s a0 5 9 ∧ ∃ r1, rf s a0 4 r1 ∧ sh s r1 4 5 ∧ cI E 51 [.ref r1, .int (a1.toUInt32 % 65536).toInt32] s (fun x3 s2 =>
      (x3 = (nI 0) →
        Q (some (.int (-1000003 : Int32))) s2) ∧
      (¬ x3 = (nI 0) →
        sh s2 a0 5 9 ∧ ∃ r4, rf s2 a0 4 r4 ∧ sh s2 r4 4 5 ∧ Q (some (.int (gI s2 r4 1))) s2))) ∧
    (¬ a1 ≤ (nI 126) →
      Q (some (.int (-1000001 : Int32))) s))) : wp E 78 0 [.ref a0, .int a1] [] s Q := vc_ok E 78 [] Q 18 false 0 _ _ _ h
-- 79 CoatedBridges.clearText()I
theorem sg79_0 {E : AEnv} {a0 : Nat} {s : ASt} {Q : Option Value → ASt → Prop} (h :
  sh s a0 5 9 ∧ ∃ r1, rf s a0 4 r1 ∧ sh s r1 4 5 ∧ sh s a0 5 9 ∧ ∃ r2, rf s a0 4 r2 ∧ sh s r2 4 5 ∧ nw (wrI s r2 1 (nI 0)) (fun s3 =>
  Q (some (.int (gI s r1 1))) s3)) : wp E 79 0 [.ref a0] [] s Q := vc_ok E 79 [] Q 11 false 0 _ _ _ h
-- 80 CoatedBridges.fault(I)I
theorem sg80_0 {E : AEnv} {a0 : Nat} {a1 : Int32} {s : ASt} {Q : Option Value → ASt → Prop} (h :
  (a1 < (nI 0) →
    Q (some (.int (-1000001 : Int32))) s) ∧
  (¬ a1 < (nI 0) →
    (a1 ≤ (nI 2) →
      sh s a0 5 9 ∧ cR E 82 [.ref a0] s (fun r2 s1 =>
      sh s1 a0 5 9 ∧ cI E 85 [.ref a0, .ref r2] s1 (fun x4 s3 =>
      (x4 = (nI 0) →
        (a1 = (nI 0) →
          sh s3 a0 5 9 ∧ Q (some (.int (gI s3 a0 6))) s3) ∧
        (¬ a1 = (nI 0) →
         (a1 = (nI 1) →
          sh s3 a0 5 9 ∧ Q (some (.int (gI s3 a0 7))) s3) ∧
        (¬ a1 = (nI 1) →
         sh s3 a0 5 9 ∧ Q (some (.int (gI s3 a0 8))) s3))) ∧
      (¬ x4 = (nI 0) →
        Q (some (.int (-1000004 : Int32))) s3)))) ∧
    (¬ a1 ≤ (nI 2) →
      Q (some (.int (-1000001 : Int32))) s))) : wp E 80 0 [.ref a0, .int a1] [] s Q := vc_ok E 80 [] Q 16 false 0 _ _ _ h
-- 81 CoatedBridges.play()I
theorem sg81_0 {E : AEnv} {a0 : Nat} {s : ASt} {Q : Option Value → ASt → Prop} (h :
  sh s a0 5 9 ∧ cR E 82 [.ref a0] s (fun r2 s1 =>
  sh s1 a0 5 9 ∧ cI E 85 [.ref a0, .ref r2] s1 (fun x4 s3 =>
  (x4 = (nI 0) →
    sh s3 a0 5 9 ∧ cI E 83 [.ref a0, .int (-1000002 : Int32)] s3 (fun x6 s5 =>
    Q (some (.int x6)) s5)) ∧
  (¬ x4 = (nI 0) →
    sh s3 a0 5 9 ∧ sh s3 a0 5 9 ∧ cI E 83 [.ref a0, .int (gI s3 a0 5)] s3 (fun x8 s7 =>
    Q (some (.int x8)) s7))))) : wp E 81 0 [.ref a0] [] s Q := vc_ok E 81 [] Q 12 false 0 _ _ _ h
-- 82 CoatedBridges.startTrial()LCoatedBridges$State;
theorem sg82_0 {E : AEnv} {a0 : Nat} {s : ASt} {Q : Option Value → ASt → Prop} (h :
  sh s a0 5 9 ∧ ∃ r1, rf s a0 1 r1 ∧ sh s a0 5 9 ∧ ∃ r2, rf s a0 0 r2 ∧ sh s r1 3 11 ∧ cV E 19 [.ref r1, .ref r2] s (fun s3 =>
  sh s3 a0 5 9 ∧ ∃ r4, rf s3 a0 1 r4 ∧ Q (some (.ref r4)) s3)) : wp E 82 0 [.ref a0] [] s Q := vc_ok E 82 [] Q 9 false 0 _ _ _ h
-- 83 CoatedBridges.settle(I)I
theorem sg83_0 {E : AEnv} {a0 : Nat} {a1 : Int32} {s : ASt} {Q : Option Value → ASt → Prop} (h :
  ((nI 0) ≤ a1 →
    sh s a0 5 9 ∧ ((gI s a0 3) < (nI 4) →
      sh s a0 5 9 ∧ ∃ r1, rf s a0 2 r1 ∧ sh s a0 5 9 ∧ ∃ n2 r3, sh s r1 15 n2 ∧ vp_in (gI s a0 3) n2 ∧ rf s r1 ((gI s a0 3)).toNatClampNeg r3 ∧ sh s a0 5 9 ∧ ∃ r4, rf s a0 2 r4 ∧ sh s a0 5 9 ∧ sh s a0 5 9 ∧ ∃ r5, rf s a0 0 r5 ∧ ∃ n6, sh s r4 15 n6 ∧ vp_in (gI s a0 3) n6 ∧ sh s r5 3 11 ∧ nw (wrR s r4 ((gI s a0 3)).toNatClampNeg r5) (fun s7 =>
      sh s7 a0 5 9 ∧ sh s7 a0 5 9 ∧ nw (wrI s7 a0 3 ((gI s7 a0 3) + (nI 1))) (fun s8 =>
      sh s8 a0 5 9 ∧ ∃ r9, rf s8 a0 1 r9 ∧ sh s8 a0 5 9 ∧ nw (wrR s8 a0 0 r9) (fun s10 =>
      sh s10 a0 5 9 ∧ nw (wrR s10 a0 1 r3) (fun s11 =>
      Q (some (.int a1)) s11))))) ∧
    (¬ (gI s a0 3) < (nI 4) →
      sh s a0 5 9 ∧ cV E 84 [.ref a0] s (fun s12 =>
      sh s12 a0 5 9 ∧ ∃ r13, rf s12 a0 2 r13 ∧ sh s12 a0 5 9 ∧ ∃ n14 r15, sh s12 r13 15 n14 ∧ vp_in (gI s12 a0 3) n14 ∧ rf s12 r13 ((gI s12 a0 3)).toNatClampNeg r15 ∧ sh s12 a0 5 9 ∧ ∃ r16, rf s12 a0 2 r16 ∧ sh s12 a0 5 9 ∧ sh s12 a0 5 9 ∧ ∃ r17, rf s12 a0 0 r17 ∧ ∃ n18, sh s12 r16 15 n18 ∧ vp_in (gI s12 a0 3) n18 ∧ sh s12 r17 3 11 ∧ nw (wrR s12 r16 ((gI s12 a0 3)).toNatClampNeg r17) (fun s19 =>
      sh s19 a0 5 9 ∧ sh s19 a0 5 9 ∧ nw (wrI s19 a0 3 ((gI s19 a0 3) + (nI 1))) (fun s20 =>
      sh s20 a0 5 9 ∧ ∃ r21, rf s20 a0 1 r21 ∧ sh s20 a0 5 9 ∧ nw (wrR s20 a0 0 r21) (fun s22 =>
      sh s22 a0 5 9 ∧ nw (wrR s22 a0 1 r15) (fun s23 =>
      Q (some (.int a1)) s23))))))) ∧
  (¬ (nI 0) ≤ a1 →
    Q (some (.int a1)) s)) : wp E 83 0 [.ref a0, .int a1] [] s Q := vc_ok E 83 [] Q 37 false 0 _ _ _ h
-- 84 CoatedBridges.dropOldest()V
theorem sg84_0 {E : AEnv} {a0 : Nat} {s : ASt} {Q : Option Value → ASt → Prop} (h :
  sh s a0 5 9 ∧ ∃ r1, rf s a0 2 r1 ∧ ∃ n2 r3, sh s r1 15 n2 ∧ vp_in (nI 0) n2 ∧ rf s r1 0 r3 ∧ wp E 84 9 [.ref a0, .ref r3, .int (nI 1)] [] s Q) : wp E 84 0 [.ref a0] [] s Q := vc_ok E 84 [9] Q 9 false 0 _ _ _ h
theorem sg84_9 {E : AEnv} {a0 : Nat} {a1 : Nat} {a2 : Int32} {s : ASt} {Q : Option Value → ASt → Prop} (h :
  ((nI 4) ≤ a2 →
    sh s a0 5 9 ∧ ∃ r1, rf s a0 2 r1 ∧ ∃ n2, sh s r1 15 n2 ∧ vp_in (nI 3) n2 ∧ sh s a1 3 11 ∧ nw (wrR s r1 3 a1) (fun s3 =>
    sh s3 a0 5 9 ∧ nw (wrI s3 a0 3 (nI 3)) (fun s4 =>
    Q none s4))) ∧
  (¬ (nI 4) ≤ a2 →
    sh s a0 5 9 ∧ ∃ r5, rf s a0 2 r5 ∧ sh s a0 5 9 ∧ ∃ r6, rf s a0 2 r6 ∧ ∃ n7 r8, sh s r6 15 n7 ∧ vp_in a2 n7 ∧ rf s r6 (a2).toNatClampNeg r8 ∧ ∃ n9, sh s r5 15 n9 ∧ vp_in (a2 - (nI 1)) n9 ∧ sh s r8 3 11 ∧ nw (wrR s r5 ((a2 - (nI 1))).toNatClampNeg r8) (fun s10 =>
    wp E 84 9 [.ref a0, .ref a1, .int (a2 + (nI 1))] [] s10 Q))) : wp E 84 9 [.ref a0, .ref a1, .int a2] [] s Q := vc_ok E 84 [9] Q 17 false 9 _ _ _ h
-- 85 CoatedBridges.obeyText(LCoatedBridges$State;)Z
theorem sg85_0 {E : AEnv} {a0 : Nat} {a1 : Nat} {s : ASt} {Q : Option Value → ASt → Prop} (h :
  sh s a0 5 9 ∧ nw (wrI s a0 5 (nI 0)) (fun s1 =>
  wp E 85 7 [.ref a0, .ref a1, .int (nI 0)] [] s1 Q)) : wp E 85 0 [.ref a0, .ref a1] [] s Q := vc_ok E 85 [7] Q 7 false 0 _ _ _ h
theorem sg85_7 {E : AEnv} {a0 : Nat} {a1 : Nat} {a2 : Int32} {s : ASt} {Q : Option Value → ASt → Prop} (h :
  sh s a0 5 9 ∧ ((nI 60) ≤ (gI s a0 5) →
    fN .boolean (nI 1) = true ∧ Q (some (.int (nI 1))) s) ∧
  (¬ (nI 60) ≤ (gI s a0 5) →
    sh s a0 5 9 ∧ ∃ r1, rf s a0 4 r1 ∧ sh s r1 4 5 ∧ ((gI s r1 1) ≤ a2 →
      fN .boolean (nI 1) = true ∧ Q (some (.int (nI 1))) s) ∧
    (¬ (gI s r1 1) ≤ a2 →
      sh s a0 5 9 ∧ ∃ r2, rf s a0 4 r2 ∧ sh s r2 4 5 ∧ cI E 52 [.ref r2, .int a2] s (fun x4 s3 =>
      (x4 ≠ (nI 0) →
        sh s3 a0 5 9 ∧ cI E 87 [.ref a0, .ref a1] s3 (fun x6 s5 =>
        ((nI 0) ≤ x6 →
          sh s5 a0 5 9 ∧ ∃ r7, rf s5 a0 4 r7 ∧ sh s5 r7 4 5 ∧ sh s5 a0 5 9 ∧ sh s5 a0 5 9 ∧ nw (wrI s5 a0 5 ((gI s5 a0 5) + (nI 1))) (fun s8 =>
          wp E 85 7 [.ref a0, .ref a1, .int (gI s5 r7 4)] [] s8 Q)) ∧
        (¬ (nI 0) ≤ x6 →
          sh s5 a0 5 9 ∧ cV E 86 [.ref a0, .int a2, .int (nI 2), .int x6] s5 (fun s9 =>
          fN .boolean (nI 0) = true ∧ Q (some (.int (nI 0))) s9)))) ∧
      (¬ x4 ≠ (nI 0) →
        sh s3 a0 5 9 ∧ ∃ r10, rf s3 a0 4 r10 ∧ sh s3 r10 4 5 ∧ sh s3 a0 5 9 ∧ cV E 86 [.ref a0, .int a2, .int (nI 1), .int ((gI s3 r10 4) - a2)] s3 (fun s11 =>
        fN .boolean (nI 0) = true ∧ Q (some (.int (nI 0))) s11)))))) : wp E 85 7 [.ref a0, .ref a1, .int a2] [] s Q := vc_ok E 85 [7] Q 33 false 7 _ _ _ h
-- 86 CoatedBridges.noteFault(III)V
theorem sg86_0 {E : AEnv} {a0 : Nat} {a1 : Int32} {a2 : Int32} {a3 : Int32} {s : ASt} {Q : Option Value → ASt → Prop} (h :
  sh s a0 5 9 ∧ nw (wrI s a0 6 a1) (fun s1 =>
  sh s1 a0 5 9 ∧ nw (wrI s1 a0 7 a2) (fun s2 =>
  sh s2 a0 5 9 ∧ nw (wrI s2 a0 8 a3) (fun s3 =>
  Q none s3)))) : wp E 86 0 [.ref a0, .int a1, .int a2, .int a3] [] s Q := vc_ok E 86 [] Q 11 false 0 _ _ _ h
-- 87 CoatedBridges.obeyOrder(LCoatedBridges$State;)I
theorem sg87_0 {E : AEnv} {a0 : Nat} {a1 : Nat} {s : ASt} {Q : Option Value → ASt → Prop} (h :
  sh s a0 5 9 ∧ ∃ r1, rf s a0 4 r1 ∧ sh s r1 4 5 ∧ ∃ r2, rf s r1 2 r2 ∧ ∃ n3, sh s r2 10 n3 ∧ vp_in (nI 0) n3 ∧ sh s a0 5 9 ∧ ∃ r4, rf s a0 4 r4 ∧ sh s r4 4 5 ∧ ((gI s r4 3) = (nI 98) →
    sh s a0 5 9 ∧ ∃ r17, rf s a0 4 r17 ∧ sh s r17 4 5 ∧ ∃ r18, rf s r17 2 r18 ∧ ∃ n19, sh s r18 10 n19 ∧ vp_in (nI 1) n19 ∧ sh s a0 5 9 ∧ ∃ r20, rf s a0 4 r20 ∧ sh s r20 4 5 ∧ ∃ r21, rf s r20 2 r21 ∧ ∃ n22, sh s r21 10 n22 ∧ vp_in (nI 2) n22 ∧ sh s a1 3 11 ∧ cI E 23 [.ref a1, .int (gI s r2 0), .int (gI s r18 1), .int (gI s r21 2)] s (fun x24 s23 =>
    Q (some (.int x24)) s23)) ∧
  (¬ (gI s r4 3) = (nI 98) →
   ((gI s r4 3) = (nI 99) →
    Q (some (.int (-1000001 : Int32))) s) ∧
  (¬ (gI s r4 3) = (nI 99) →
   ((gI s r4 3) = (nI 100) →
    sh s a1 3 11 ∧ cI E 28 [.ref a1, .int (gI s r2 0)] s (fun x16 s15 =>
    Q (some (.int x16)) s15)) ∧
  (¬ (gI s r4 3) = (nI 100) →
   ((gI s r4 3) = (nI 101) →
    Q (some (.int (-1000001 : Int32))) s) ∧
  (¬ (gI s r4 3) = (nI 101) →
   ((gI s r4 3) = (nI 102) →
    sh s a1 3 11 ∧ cI E 24 [.ref a1, .int (gI s r2 0), .int (nI 1)] s (fun x14 s13 =>
    Q (some (.int x14)) s13)) ∧
  (¬ (gI s r4 3) = (nI 102) →
   ((gI s r4 3) = (nI 103) →
    Q (some (.int (-1000001 : Int32))) s) ∧
  (¬ (gI s r4 3) = (nI 103) →
   ((gI s r4 3) = (nI 104) →
    Q (some (.int (-1000001 : Int32))) s) ∧
  (¬ (gI s r4 3) = (nI 104) →
   ((gI s r4 3) = (nI 105) →
    sh s a1 3 11 ∧ cI E 22 [.ref a1, .int (gI s r2 0)] s (fun x12 s11 =>
    Q (some (.int x12)) s11)) ∧
  (¬ (gI s r4 3) = (nI 105) →
   ((gI s r4 3) = (nI 106) →
    Q (some (.int (-1000001 : Int32))) s) ∧
  (¬ (gI s r4 3) = (nI 106) →
   ((gI s r4 3) = (nI 107) →
    Q (some (.int (-1000001 : Int32))) s) ∧
  (¬ (gI s r4 3) = (nI 107) →
   ((gI s r4 3) = (nI 108) →
    Q (some (.int (-1000001 : Int32))) s) ∧
  (¬ (gI s r4 3) = (nI 108) →
   ((gI s r4 3) = (nI 109) →
    Q (some (.int (-1000001 : Int32))) s) ∧
  (¬ (gI s r4 3) = (nI 109) →
   ((gI s r4 3) = (nI 110) →
    Q (some (.int (-1000001 : Int32))) s) ∧
  (¬ (gI s r4 3) = (nI 110) →
   ((gI s r4 3) = (nI 111) →
    Q (some (.int (-1000001 : Int32))) s) ∧
  (¬ (gI s r4 3) = (nI 111) →
   ((gI s r4 3) = (nI 112) →
    sh s a1 3 11 ∧ cI E 26 [.ref a1, .int (gI s r2 0)] s (fun x10 s9 =>
    Q (some (.int x10)) s9)) ∧
  (¬ (gI s r4 3) = (nI 112) →
   ((gI s r4 3) = (nI 113) →
    Q (some (.int (-1000001 : Int32))) s) ∧
  (¬ (gI s r4 3) = (nI 113) →
   ((gI s r4 3) = (nI 114) →
    sh s a1 3 11 ∧ cI E 25 [.ref a1, .int (gI s r2 0)] s (fun x8 s7 =>
    Q (some (.int x8)) s7)) ∧
  (¬ (gI s r4 3) = (nI 114) →
   ((gI s r4 3) = (nI 115) →
    sh s a1 3 11 ∧ cI E 24 [.ref a1, .int (gI s r2 0), .int (nI 0)] s (fun x6 s5 =>
    Q (some (.int x6)) s5)) ∧
  (¬ (gI s r4 3) = (nI 115) →
   Q (some (.int (-1000001 : Int32))) s))))))))))))))))))) : wp E 87 0 [.ref a0, .ref a1] [] s Q := vc_ok E 87 [] Q 25 false 0 _ _ _ h
-- 88 CoatedBridges.holds(II)Z
theorem sg88_0 {E : AEnv} {a0 : Int32} {a1 : Int32} {s : ASt} {Q : Option Value → ASt → Prop} (h :
  (((a0 >>> (a1 &&& 31)) &&& (nI 1)) ≠ (nI 1) →
    fN .boolean (nI 0) = true ∧ Q (some (.int (nI 0))) s) ∧
  (¬ ((a0 >>> (a1 &&& 31)) &&& (nI 1)) ≠ (nI 1) →
    fN .boolean (nI 1) = true ∧ Q (some (.int (nI 1))) s)) : wp E 88 0 [.int a0, .int a1] [] s Q := vc_ok E 88 [] Q 11 false 0 _ _ _ h
-- 89 CoatedBridges.lowestIn(I)I
theorem sg89_0 {E : AEnv} {a0 : Int32} {s : ASt} {Q : Option Value → ASt → Prop} (h :
  cI E 169 [.int a0] s (fun x2 s1 =>
  Q (some (.int x2)) s1)) : wp E 89 0 [.int a0] [] s Q := vc_ok E 89 [] Q 4 false 0 _ _ _ h
-- 90 CoatedBridges.bitsOf(F)I
theorem sg90_0 {E : AEnv} {a0 : UInt32} {s : ASt} {Q : Option Value → ASt → Prop} (h :
  ((nI 0) < (Op.cmpValue (FP.fcmp a0 (0 : UInt32)) .l) →
    wp E 90 15 [.float a0, .int (nI 127), .float a0, .int (nI 0)] [] s Q) ∧
  (¬ (nI 0) < (Op.cmpValue (FP.fcmp a0 (0 : UInt32)) .l) →
    Q (some (.int (nI 0))) s)) : wp E 90 0 [.float a0] [] s Q := vc_ok E 90 [15, 42] Q 12 false 0 _ _ _ h
theorem sg90_15 {E : AEnv} {a0 : UInt32} {a1 : Int32} {a2 : UInt32} {a3 : Int32} {s : ASt} {Q : Option Value → ASt → Prop} (h :
  ((nI 127) ≤ a3 →
    wp E 90 42 [.float a0, .int a1, .float a2, .int (nI 0)] [] s Q) ∧
  (¬ (nI 127) ≤ a3 →
    ((Op.cmpValue (FP.fcmp a2 (1073741824 : UInt32)) .l) < (nI 0) →
      wp E 90 42 [.float a0, .int a1, .float a2, .int (nI 0)] [] s Q) ∧
    (¬ (Op.cmpValue (FP.fcmp a2 (1073741824 : UInt32)) .l) < (nI 0) →
      ((FP.fdiv a2 (1073741824 : UInt32)) &&& 0x7fffffff ≤ 0x7f800000) ∧ wp E 90 15 [.float a0, .int (a1 + (nI 1)), .float (FP.fdiv a2 (1073741824 : UInt32)), .int (a3 + (nI 1))] [] s Q))) : wp E 90 15 [.float a0, .int a1, .float a2, .int a3] [] s Q := vc_ok E 90 [15, 42] Q 16 false 15 _ _ _ h
theorem sg90_42 {E : AEnv} {a0 : UInt32} {a1 : Int32} {a2 : UInt32} {a3 : Int32} {s : ASt} {Q : Option Value → ASt → Prop} (h :
  ((nI 126) ≤ a3 →
    ((FP.fsub a2 (1065353216 : UInt32)) &&& 0x7fffffff ≤ 0x7f800000) ∧ ((FP.fmul (FP.fsub a2 (1065353216 : UInt32)) (1258291200 : UInt32)) &&& 0x7fffffff ≤ 0x7f800000) ∧ Q (some (.int ((a1 <<< ((nI 23) &&& 31)) ||| (FP.f2i (FP.fmul (FP.fsub a2 (1065353216 : UInt32)) (1258291200 : UInt32)))))) s) ∧
  (¬ (nI 126) ≤ a3 →
    ((nI 0) ≤ (Op.cmpValue (FP.fcmp a2 (1065353216 : UInt32)) .g) →
      ((FP.fsub a2 (1065353216 : UInt32)) &&& 0x7fffffff ≤ 0x7f800000) ∧ ((FP.fmul (FP.fsub a2 (1065353216 : UInt32)) (1258291200 : UInt32)) &&& 0x7fffffff ≤ 0x7f800000) ∧ Q (some (.int ((a1 <<< ((nI 23) &&& 31)) ||| (FP.f2i (FP.fmul (FP.fsub a2 (1065353216 : UInt32)) (1258291200 : UInt32)))))) s) ∧
    (¬ (nI 0) ≤ (Op.cmpValue (FP.fcmp a2 (1065353216 : UInt32)) .g) →
      ((FP.fmul a2 (1073741824 : UInt32)) &&& 0x7fffffff ≤ 0x7f800000) ∧ wp E 90 42 [.float a0, .int (a1 + (-1 : Int32)), .float (FP.fmul a2 (1073741824 : UInt32)), .int (a3 + (nI 1))] [] s Q))) : wp E 90 42 [.float a0, .int a1, .float a2, .int a3] [] s Q := vc_ok E 90 [15, 42] Q 19 false 42 _ _ _ h
-- 92 CoatedBridgesModel.in(III)Z
theorem sg92_0 {E : AEnv} {a0 : Int32} {a1 : Int32} {a2 : Int32} {s : ASt} {Q : Option Value → ASt → Prop} (h :
  (a0 < a1 →
    fN .boolean (nI 0) = true ∧ Q (some (.int (nI 0))) s) ∧
  (¬ a0 < a1 →
    (a2 < a0 →
      fN .boolean (nI 0) = true ∧ Q (some (.int (nI 0))) s) ∧
    (¬ a2 < a0 →
      fN .boolean (nI 1) = true ∧ Q (some (.int (nI 1))) s))) : wp E 92 0 [.int a0, .int a1, .int a2] [] s Q := vc_ok E 92 [] Q 10 false 0 _ _ _ h
-- 93 CoatedBridgesModel.copies([II[II)V
theorem sg93_0 {E : AEnv} {a0 : Nat} {a1 : Int32} {a2 : Nat} {a3 : Int32} {s : ASt} {Q : Option Value → ASt → Prop} (h :
  wp E 93 3 [.ref a0, .int a1, .ref a2, .int a3, .int (nI 0)] [] s Q) : wp E 93 0 [.ref a0, .int a1, .ref a2, .int a3] [] s Q := vc_ok E 93 [3] Q 4 false 0 _ _ _ h
theorem sg93_3 {E : AEnv} {a0 : Nat} {a1 : Int32} {a2 : Nat} {a3 : Int32} {a4 : Int32} {s : ASt} {Q : Option Value → ASt → Prop} (h :
  ((nI 184) ≤ a4 →
    Q none s) ∧
  (¬ (nI 184) ≤ a4 →
    ∃ n1, sh s a0 10 n1 ∧ vp_in (a1 + a4) n1 ∧ ∃ n2, sh s a2 10 n2 ∧ vp_in (a3 + a4) n2 ∧ nw (wrI s a2 ((a3 + a4)).toNatClampNeg (gI s a0 ((a1 + a4)).toNatClampNeg)) (fun s3 =>
    wp E 93 3 [.ref a0, .int a1, .ref a2, .int a3, .int (a4 + (nI 1))] [] s3 Q))) : wp E 93 3 [.ref a0, .int a1, .ref a2, .int a3, .int a4] [] s Q := vc_ok E 93 [3] Q 17 false 3 _ _ _ h
-- 94 CoatedBridgesModel.records()V
theorem sg94_0 {E : AEnv} {a0 : Nat} {s : ASt} {Q : Option Value → ASt → Prop} (h :
  sh s a0 6 15 ∧ ((gI s a0 4) ≠ (nI 4) →
    sh s a0 6 15 ∧ ∃ r1, rf s a0 0 r1 ∧ sh s a0 6 15 ∧ ∃ r2, rf s a0 3 r2 ∧ sh s a0 6 15 ∧ cV E 93 [.ref r1, .int (nI 0), .ref r2, .int ((nI 184) * (gI s a0 4))] s (fun s3 =>
    sh s3 a0 6 15 ∧ sh s3 a0 6 15 ∧ nw (wrI s3 a0 4 ((gI s3 a0 4) + (nI 1))) (fun s4 =>
    Q none s4))) ∧
  (¬ (gI s a0 4) ≠ (nI 4) →
    wp E 94 10 [.ref a0, .int (nI 0)] [] s Q)) : wp E 94 0 [.ref a0] [] s Q := vc_ok E 94 [10] Q 22 false 0 _ _ _ h
theorem sg94_10 {E : AEnv} {a0 : Nat} {a1 : Int32} {s : ASt} {Q : Option Value → ASt → Prop} (h :
  ((nI 552) ≤ a1 →
    sh s a0 6 15 ∧ sh s a0 6 15 ∧ nw (wrI s a0 4 ((gI s a0 4) - (nI 1))) (fun s1 =>
    sh s1 a0 6 15 ∧ ∃ r2, rf s1 a0 0 r2 ∧ sh s1 a0 6 15 ∧ ∃ r3, rf s1 a0 3 r3 ∧ sh s1 a0 6 15 ∧ cV E 93 [.ref r2, .int (nI 0), .ref r3, .int ((nI 184) * (gI s1 a0 4))] s1 (fun s4 =>
    sh s4 a0 6 15 ∧ sh s4 a0 6 15 ∧ nw (wrI s4 a0 4 ((gI s4 a0 4) + (nI 1))) (fun s5 =>
    Q none s5)))) ∧
  (¬ (nI 552) ≤ a1 →
    sh s a0 6 15 ∧ ∃ r6, rf s a0 3 r6 ∧ sh s a0 6 15 ∧ ∃ r7, rf s a0 3 r7 ∧ ∃ n8, sh s r7 10 n8 ∧ vp_in (a1 + (nI 184)) n8 ∧ ∃ n9, sh s r6 10 n9 ∧ vp_in a1 n9 ∧ nw (wrI s r6 (a1).toNatClampNeg (gI s r7 ((a1 + (nI 184))).toNatClampNeg)) (fun s10 =>
    wp E 94 10 [.ref a0, .int (a1 + (nI 1))] [] s10 Q))) : wp E 94 10 [.ref a0, .int a1] [] s Q := vc_ok E 94 [10] Q 27 false 10 _ _ _ h
-- 95 CoatedBridgesModel.isIsland(I)Z
theorem sg95_0 {E : AEnv} {a0 : Nat} {a1 : Int32} {s : ASt} {Q : Option Value → ASt → Prop} (h :
  sh s a0 6 15 ∧ ∃ r1, rf s a0 0 r1 ∧ ∃ n2, sh s r1 10 n2 ∧ vp_in (nI 1) n2 ∧ cI E 92 [.int a1, .int (nI 0), .int ((gI s r1 1) - (nI 1))] s (fun x4 s3 =>
  fN .boolean x4 = true ∧ Q (some (.int x4)) s3)) : wp E 95 0 [.ref a0, .int a1] [] s Q := vc_ok E 95 [] Q 11 false 0 _ _ _ h
-- 96 CoatedBridgesModel.isBridge(I)Z
theorem sg96_0 {E : AEnv} {a0 : Nat} {a1 : Int32} {s : ASt} {Q : Option Value → ASt → Prop} (h :
  sh s a0 6 15 ∧ ∃ r1, rf s a0 0 r1 ∧ ∃ n2, sh s r1 10 n2 ∧ vp_in (nI 2) n2 ∧ cI E 92 [.int a1, .int (nI 0), .int ((gI s r1 2) - (nI 1))] s (fun x4 s3 =>
  fN .boolean x4 = true ∧ Q (some (.int x4)) s3)) : wp E 96 0 [.ref a0, .int a1] [] s Q := vc_ok E 96 [] Q 11 false 0 _ _ _ h
-- 97 CoatedBridgesModel.of(II)I
theorem sg97_0 {E : AEnv} {a0 : Nat} {a1 : Int32} {a2 : Int32} {s : ASt} {Q : Option Value → ASt → Prop} (h :
  sh s a0 6 15 ∧ ∃ r1, rf s a0 0 r1 ∧ ∃ n2, sh s r1 10 n2 ∧ vp_in (((nI 72) + ((nI 8) * a1)) + a2) n2 ∧ Q (some (.int (gI s r1 ((((nI 72) + ((nI 8) * a1)) + a2)).toNatClampNeg))) s) : wp E 97 0 [.ref a0, .int a1, .int a2] [] s Q := vc_ok E 97 [] Q 12 false 0 _ _ _ h
-- 98 CoatedBridgesModel.lays(III)V
theorem sg98_0 {E : AEnv} {a0 : Nat} {a1 : Int32} {a2 : Int32} {a3 : Int32} {s : ASt} {Q : Option Value → ASt → Prop} (h :
  sh s a0 6 15 ∧ ∃ r1, rf s a0 0 r1 ∧ ∃ n2, sh s r1 10 n2 ∧ vp_in (((nI 72) + ((nI 8) * a1)) + a2) n2 ∧ nw (wrI s r1 ((((nI 72) + ((nI 8) * a1)) + a2)).toNatClampNeg a3) (fun s3 =>
  Q none s3)) : wp E 98 0 [.ref a0, .int a1, .int a2, .int a3] [] s Q := vc_ok E 98 [] Q 13 false 0 _ _ _ h
-- 99 CoatedBridgesModel.adds(III)V
theorem sg99_0 {E : AEnv} {a0 : Nat} {a1 : Int32} {a2 : Int32} {a3 : Int32} {s : ASt} {Q : Option Value → ASt → Prop} (h :
  sh s a0 6 15 ∧ ∃ r1, rf s a0 0 r1 ∧ ∃ n2, sh s r1 10 n2 ∧ vp_in (((nI 72) + ((nI 8) * a1)) + a2) n2 ∧ ∃ n3, sh s r1 10 n3 ∧ vp_in (((nI 72) + ((nI 8) * a1)) + a2) n3 ∧ nw (wrI s r1 ((((nI 72) + ((nI 8) * a1)) + a2)).toNatClampNeg ((gI s r1 ((((nI 72) + ((nI 8) * a1)) + a2)).toNatClampNeg) + a3)) (fun s4 =>
  Q none s4)) : wp E 99 0 [.ref a0, .int a1, .int a2, .int a3] [] s Q := vc_ok E 99 [] Q 16 false 0 _ _ _ h
-- 100 CoatedBridgesModel.ofIsland(II)I
theorem sg100_0 {E : AEnv} {a0 : Nat} {a1 : Int32} {a2 : Int32} {s : ASt} {Q : Option Value → ASt → Prop} (h :
  sh s a0 6 15 ∧ ∃ r1, rf s a0 0 r1 ∧ ∃ n2, sh s r1 10 n2 ∧ vp_in (((nI 32) + ((nI 5) * a1)) + a2) n2 ∧ Q (some (.int (gI s r1 ((((nI 32) + ((nI 5) * a1)) + a2)).toNatClampNeg))) s) : wp E 100 0 [.ref a0, .int a1, .int a2] [] s Q := vc_ok E 100 [] Q 12 false 0 _ _ _ h
-- 101 CoatedBridgesModel.laysIsland(III)V
theorem sg101_0 {E : AEnv} {a0 : Nat} {a1 : Int32} {a2 : Int32} {a3 : Int32} {s : ASt} {Q : Option Value → ASt → Prop} (h :
  sh s a0 6 15 ∧ ∃ r1, rf s a0 0 r1 ∧ ∃ n2, sh s r1 10 n2 ∧ vp_in (((nI 32) + ((nI 5) * a1)) + a2) n2 ∧ nw (wrI s r1 ((((nI 32) + ((nI 5) * a1)) + a2)).toNatClampNeg a3) (fun s3 =>
  Q none s3)) : wp E 101 0 [.ref a0, .int a1, .int a2, .int a3] [] s Q := vc_ok E 101 [] Q 13 false 0 _ _ _ h
-- 102 CoatedBridgesModel.addsIsland(II)V
theorem sg102_0 {E : AEnv} {a0 : Nat} {a1 : Int32} {a2 : Int32} {s : ASt} {Q : Option Value → ASt → Prop} (h :
  sh s a0 6 15 ∧ ∃ r1, rf s a0 0 r1 ∧ ∃ n2, sh s r1 10 n2 ∧ vp_in (((nI 32) + ((nI 5) * a1)) + a2) n2 ∧ ∃ n3, sh s r1 10 n3 ∧ vp_in (((nI 32) + ((nI 5) * a1)) + a2) n3 ∧ nw (wrI s r1 ((((nI 32) + ((nI 5) * a1)) + a2)).toNatClampNeg ((gI s r1 ((((nI 32) + ((nI 5) * a1)) + a2)).toNatClampNeg) + (nI 1))) (fun s4 =>
  Q none s4)) : wp E 102 0 [.ref a0, .int a1, .int a2] [] s Q := vc_ok E 102 [] Q 16 false 0 _ _ _ h
-- 103 CoatedBridgesModel.isPainted(I)Z
theorem sg103_0 {E : AEnv} {a0 : Nat} {a1 : Int32} {s : ASt} {Q : Option Value → ASt → Prop} (h :
  sh s a0 6 15 ∧ cI E 97 [.ref a0, .int a1, .int (nI 4)] s (fun x2 s1 =>
  (x2 ≠ (nI 1) →
    fN .boolean (nI 0) = true ∧ Q (some (.int (nI 0))) s1) ∧
  (¬ x2 ≠ (nI 1) →
    fN .boolean (nI 1) = true ∧ Q (some (.int (nI 1))) s1))) : wp E 103 0 [.ref a0, .int a1] [] s Q := vc_ok E 103 [] Q 10 false 0 _ _ _ h
-- 104 CoatedBridgesModel.isOpen(I)Z
theorem sg104_0 {E : AEnv} {a0 : Nat} {a1 : Int32} {s : ASt} {Q : Option Value → ASt → Prop} (h :
  sh s a0 6 15 ∧ cI E 97 [.ref a0, .int a1, .int (nI 4)] s (fun x2 s1 =>
  (x2 ≠ (nI 0) →
    fN .boolean (nI 0) = true ∧ Q (some (.int (nI 0))) s1) ∧
  (¬ x2 ≠ (nI 0) →
    sh s1 a0 6 15 ∧ cI E 97 [.ref a0, .int a1, .int (nI 3)] s1 (fun x4 s3 =>
    (x4 ≤ (nI 0) →
      fN .boolean (nI 0) = true ∧ Q (some (.int (nI 0))) s3) ∧
    (¬ x4 ≤ (nI 0) →
      fN .boolean (nI 1) = true ∧ Q (some (.int (nI 1))) s3))))) : wp E 104 0 [.ref a0, .int a1] [] s Q := vc_ok E 104 [] Q 14 false 0 _ _ _ h
-- 105 CoatedBridgesModel.stateOf(I)I
theorem sg105_0 {E : AEnv} {a0 : Nat} {a1 : Int32} {s : ASt} {Q : Option Value → ASt → Prop} (h :
  sh s a0 6 15 ∧ cI E 103 [.ref a0, .int a1] s (fun x2 s1 =>
  (x2 = (nI 0) →
    sh s1 a0 6 15 ∧ cI E 97 [.ref a0, .int a1, .int (nI 3)] s1 (fun x4 s3 =>
    (x4 ≤ (nI 0) →
      Q (some (.int (nI 2))) s3) ∧
    (¬ x4 ≤ (nI 0) →
      Q (some (.int (nI 0))) s3))) ∧
  (¬ x2 = (nI 0) →
    Q (some (.int (nI 1))) s1))) : wp E 105 0 [.ref a0, .int a1] [] s Q := vc_ok E 105 [] Q 13 false 0 _ _ _ h
-- 106 CoatedBridgesModel.reached(II)I
theorem sg106_0 {E : AEnv} {a0 : Nat} {a1 : Int32} {a2 : Int32} {s : ASt} {Q : Option Value → ASt → Prop} (h :
  wp E 106 7 [.ref a0, .int a1, .int a2, .int ((nI 1) <<< (a1 &&& 31)), .int (nI 0)] [] s Q) : wp E 106 0 [.ref a0, .int a1, .int a2] [] s Q := vc_ok E 106 [7, 19] Q 8 false 0 _ _ _ h
theorem sg106_7 {E : AEnv} {a0 : Nat} {a1 : Int32} {a2 : Int32} {a3 : Int32} {a4 : Int32} {s : ASt} {Q : Option Value → ASt → Prop} (h :
  (a4 = a3 →
    Q (some (.int a3)) s) ∧
  (¬ a4 = a3 →
    wp E 106 19 [.ref a0, .int a1, .int a2, .int a3, .int a3, .int (nI 0)] [] s Q)) : wp E 106 7 [.ref a0, .int a1, .int a2, .int a3, .int a4] [] s Q := vc_ok E 106 [7, 19] Q 9 false 7 _ _ _ h
theorem sg106_19 {E : AEnv} {a0 : Nat} {a1 : Int32} {a2 : Int32} {a3 : Int32} {a4 : Int32} {a5 : Int32} {s : ASt} {Q : Option Value → ASt → Prop} (h :
  sh s a0 6 15 ∧ ∃ r1, rf s a0 0 r1 ∧ ∃ n2, sh s r1 10 n2 ∧ vp_in (nI 2) n2 ∧ ((gI s r1 2) ≤ a5 →
    wp E 106 7 [.ref a0, .int a1, .int a2, .int a3, .int a4] [] s Q) ∧
  (¬ (gI s r1 2) ≤ a5 →
    sh s a0 6 15 ∧ cI E 97 [.ref a0, .int a5, .int (nI 0)] s (fun x4 s3 =>
    sh s3 a0 6 15 ∧ cI E 97 [.ref a0, .int a5, .int (nI 1)] s3 (fun x6 s5 =>
    (a5 = a2 →
      wp E 106 19 [.ref a0, .int a1, .int a2, .int (a3 ||| (nI 0)), .int a4, .int (a5 + (nI 1))] [] s5 Q) ∧
    (¬ a5 = a2 →
      sh s5 a0 6 15 ∧ cI E 104 [.ref a0, .int a5] s5 (fun x8 s7 =>
      (x8 = (nI 0) →
        wp E 106 19 [.ref a0, .int a1, .int a2, .int (a3 ||| (nI 0)), .int a4, .int (a5 + (nI 1))] [] s7 Q) ∧
      (¬ x8 = (nI 0) →
        ((a3 &&& (((nI 1) <<< (x4 &&& 31)) ||| ((nI 1) <<< (x6 &&& 31)))) = (nI 0) →
          wp E 106 19 [.ref a0, .int a1, .int a2, .int (a3 ||| (nI 0)), .int a4, .int (a5 + (nI 1))] [] s7 Q) ∧
        (¬ (a3 &&& (((nI 1) <<< (x4 &&& 31)) ||| ((nI 1) <<< (x6 &&& 31)))) = (nI 0) →
          wp E 106 19 [.ref a0, .int a1, .int a2, .int (a3 ||| (((nI 1) <<< (x4 &&& 31)) ||| ((nI 1) <<< (x6 &&& 31)))), .int a4, .int (a5 + (nI 1))] [] s7 Q)))))))) : wp E 106 19 [.ref a0, .int a1, .int a2, .int a3, .int a4, .int a5] [] s Q := vc_ok E 106 [7, 19] Q 40 false 19 _ _ _ h
-- 107 CoatedBridgesModel.cutOff(I)I
theorem sg107_0 {E : AEnv} {a0 : Nat} {a1 : Int32} {s : ASt} {Q : Option Value → ASt → Prop} (h :
  sh s a0 6 15 ∧ cI E 106 [.ref a0, .int (nI 0), .int (-1000004 : Int32)] s (fun x2 s1 =>
  sh s1 a0 6 15 ∧ cI E 106 [.ref a0, .int (nI 0), .int a1] s1 (fun x4 s3 =>
  Q (some (.int (x2 &&& (x4 ^^^ (-1 : Int32))))) s3))) : wp E 107 0 [.ref a0, .int a1] [] s Q := vc_ok E 107 [] Q 13 false 0 _ _ _ h
-- 108 CoatedBridgesModel.painted()I
theorem sg108_0 {E : AEnv} {a0 : Nat} {s : ASt} {Q : Option Value → ASt → Prop} (h :
  wp E 108 4 [.ref a0, .int (nI 0), .int (nI 0)] [] s Q) : wp E 108 0 [.ref a0] [] s Q := vc_ok E 108 [4] Q 6 false 0 _ _ _ h
theorem sg108_4 {E : AEnv} {a0 : Nat} {a1 : Int32} {a2 : Int32} {s : ASt} {Q : Option Value → ASt → Prop} (h :
  sh s a0 6 15 ∧ ∃ r1, rf s a0 0 r1 ∧ ∃ n2, sh s r1 10 n2 ∧ vp_in (nI 2) n2 ∧ ((gI s r1 2) ≤ a2 →
    Q (some (.int a1)) s) ∧
  (¬ (gI s r1 2) ≤ a2 →
    sh s a0 6 15 ∧ cI E 97 [.ref a0, .int a2, .int (nI 4)] s (fun x4 s3 =>
    wp E 108 4 [.ref a0, .int (a1 + x4), .int (a2 + (nI 1))] [] s3 Q))) : wp E 108 4 [.ref a0, .int a1, .int a2] [] s Q := vc_ok E 108 [4] Q 17 false 4 _ _ _ h
-- 109 CoatedBridgesModel.reasonOf(I)I
theorem sg109_0 {E : AEnv} {a0 : Nat} {a1 : Int32} {s : ASt} {Q : Option Value → ASt → Prop} (h :
  sh s a0 6 15 ∧ cI E 103 [.ref a0, .int a1] s (fun x2 s1 =>
  (x2 = (nI 0) →
    sh s1 a0 6 15 ∧ cI E 97 [.ref a0, .int a1, .int (nI 3)] s1 (fun x4 s3 =>
    (x4 ≠ (nI 100) →
      sh s3 a0 6 15 ∧ cI E 108 [.ref a0] s3 (fun x6 s5 =>
      sh s5 a0 6 15 ∧ ∃ r7, rf s5 a0 0 r7 ∧ ∃ n8, sh s5 r7 10 n8 ∧ vp_in (nI 3) n8 ∧ (x6 < (gI s5 r7 3) →
        sh s5 a0 6 15 ∧ cI E 107 [.ref a0, .int a1] s5 (fun x10 s9 =>
        (x10 = (nI 0) →
          Q (some (.int (nI 0))) s9) ∧
        (¬ x10 = (nI 0) →
          Q (some (.int (nI 4))) s9))) ∧
      (¬ x6 < (gI s5 r7 3) →
        Q (some (.int (nI 3))) s5))) ∧
    (¬ x4 ≠ (nI 100) →
      Q (some (.int (nI 2))) s3))) ∧
  (¬ x2 = (nI 0) →
    Q (some (.int (nI 1))) s1))) : wp E 109 0 [.ref a0, .int a1] [] s Q := vc_ok E 109 [] Q 25 false 0 _ _ _ h
-- 110 CoatedBridgesModel.bestOne()I
theorem sg110_0 {E : AEnv} {a0 : Nat} {s : ASt} {Q : Option Value → ASt → Prop} (h :
  wp E 110 5 [.ref a0, .int (-1000004 : Int32), .int (nI 0)] [] s Q) : wp E 110 0 [.ref a0] [] s Q := vc_ok E 110 [5] Q 6 false 0 _ _ _ h
theorem sg110_5 {E : AEnv} {a0 : Nat} {a1 : Int32} {a2 : Int32} {s : ASt} {Q : Option Value → ASt → Prop} (h :
  sh s a0 6 15 ∧ ∃ r1, rf s a0 0 r1 ∧ ∃ n2, sh s r1 10 n2 ∧ vp_in (nI 2) n2 ∧ ((gI s r1 2) ≤ a2 →
    Q (some (.int a1)) s) ∧
  (¬ (gI s r1 2) ≤ a2 →
    sh s a0 6 15 ∧ cI E 97 [.ref a0, .int a2, .int (nI 3)] s (fun x4 s3 =>
    sh s3 a0 6 15 ∧ ∃ r5, rf s3 a0 0 r5 ∧ ∃ n6, sh s3 r5 10 n6 ∧ vp_in (nI 10) n6 ∧ ((gI s3 r5 10) < x4 →
      ((nI 0) = (nI 0) →
        wp E 110 5 [.ref a0, .int a1, .int (a2 + (nI 1))] [] s3 Q) ∧
      (¬ (nI 0) = (nI 0) →
        (a1 < (nI 0) →
          wp E 110 5 [.ref a0, .int a2, .int (a2 + (nI 1))] [] s3 Q) ∧
        (¬ a1 < (nI 0) →
          sh s3 a0 6 15 ∧ cI E 97 [.ref a0, .int a2, .int (nI 3)] s3 (fun x8 s7 =>
          sh s7 a0 6 15 ∧ cI E 97 [.ref a0, .int a1, .int (nI 3)] s7 (fun x10 s9 =>
          (x10 ≤ x8 →
            wp E 110 5 [.ref a0, .int a1, .int (a2 + (nI 1))] [] s9 Q) ∧
          (¬ x10 ≤ x8 →
            wp E 110 5 [.ref a0, .int a2, .int (a2 + (nI 1))] [] s9 Q)))))) ∧
    (¬ (gI s3 r5 10) < x4 →
      sh s3 a0 6 15 ∧ cI E 109 [.ref a0, .int a2] s3 (fun x12 s11 =>
      (x12 ≠ (nI 0) →
        ((nI 0) = (nI 0) →
          wp E 110 5 [.ref a0, .int a1, .int (a2 + (nI 1))] [] s11 Q) ∧
        (¬ (nI 0) = (nI 0) →
          (a1 < (nI 0) →
            wp E 110 5 [.ref a0, .int a2, .int (a2 + (nI 1))] [] s11 Q) ∧
          (¬ a1 < (nI 0) →
            sh s11 a0 6 15 ∧ cI E 97 [.ref a0, .int a2, .int (nI 3)] s11 (fun x14 s13 =>
            sh s13 a0 6 15 ∧ cI E 97 [.ref a0, .int a1, .int (nI 3)] s13 (fun x16 s15 =>
            (x16 ≤ x14 →
              wp E 110 5 [.ref a0, .int a1, .int (a2 + (nI 1))] [] s15 Q) ∧
            (¬ x16 ≤ x14 →
              wp E 110 5 [.ref a0, .int a2, .int (a2 + (nI 1))] [] s15 Q)))))) ∧
      (¬ x12 ≠ (nI 0) →
        ((nI 1) = (nI 0) →
          wp E 110 5 [.ref a0, .int a1, .int (a2 + (nI 1))] [] s11 Q) ∧
        (¬ (nI 1) = (nI 0) →
          (a1 < (nI 0) →
            wp E 110 5 [.ref a0, .int a2, .int (a2 + (nI 1))] [] s11 Q) ∧
          (¬ a1 < (nI 0) →
            sh s11 a0 6 15 ∧ cI E 97 [.ref a0, .int a2, .int (nI 3)] s11 (fun x18 s17 =>
            sh s17 a0 6 15 ∧ cI E 97 [.ref a0, .int a1, .int (nI 3)] s17 (fun x20 s19 =>
            (x20 ≤ x18 →
              wp E 110 5 [.ref a0, .int a1, .int (a2 + (nI 1))] [] s19 Q) ∧
            (¬ x20 ≤ x18 →
              wp E 110 5 [.ref a0, .int a2, .int (a2 + (nI 1))] [] s19 Q))))))))))) : wp E 110 5 [.ref a0, .int a1, .int a2] [] s Q := vc_ok E 110 [5] Q 42 false 5 _ _ _ h
end
section
-- 111 CoatedBridgesModel.goIsland(I)I
theorem sg111_0 {E : AEnv} {a0 : Nat} {a1 : Int32} {s : ASt} {Q : Option Value → ASt → Prop} (h :
  sh s a0 6 15 ∧ ∃ r1, rf s a0 0 r1 ∧ ∃ n2, sh s r1 10 n2 ∧ vp_in (nI 1) n2 ∧ wp E 111 9 [.ref a0, .int a1, .int (gI s r1 1), .int (nI 0)] [] s Q) : wp E 111 0 [.ref a0, .int a1] [] s Q := vc_ok E 111 [9] Q 9 false 0 _ _ _ h
theorem sg111_9 {E : AEnv} {a0 : Nat} {a1 : Int32} {a2 : Int32} {a3 : Int32} {s : ASt} {Q : Option Value → ASt → Prop} (h :
  ((nI 5) ≤ a3 →
    sh s a0 6 15 ∧ cV E 101 [.ref a0, .int a2, .int (nI 0), .int a1] s (fun s1 =>
    sh s1 a0 6 15 ∧ ∃ r2, rf s1 a0 0 r2 ∧ ∃ n3, sh s1 r2 10 n3 ∧ vp_in (nI 1) n3 ∧ ∃ n4, sh s1 r2 10 n4 ∧ vp_in (nI 1) n4 ∧ nw (wrI s1 r2 1 ((gI s1 r2 1) + (nI 1))) (fun s5 =>
    Q (some (.int a2)) s5))) ∧
  (¬ (nI 5) ≤ a3 →
    sh s a0 6 15 ∧ cV E 101 [.ref a0, .int a2, .int a3, .int (nI 0)] s (fun s6 =>
    wp E 111 9 [.ref a0, .int a1, .int a2, .int (a3 + (nI 1))] [] s6 Q))) : wp E 111 9 [.ref a0, .int a1, .int a2, .int a3] [] s Q := vc_ok E 111 [9] Q 19 false 9 _ _ _ h
-- 112 CoatedBridgesModel.goBridge(III)I
theorem sg112_0 {E : AEnv} {a0 : Nat} {a1 : Int32} {a2 : Int32} {a3 : Int32} {s : ASt} {Q : Option Value → ASt → Prop} (h :
  sh s a0 6 15 ∧ ∃ r1, rf s a0 0 r1 ∧ ∃ n2, sh s r1 10 n2 ∧ vp_in (nI 2) n2 ∧ wp E 112 11 [.ref a0, .int a1, .int a2, .int a3, .int (gI s r1 2), .int (nI 0)] [] s Q) : wp E 112 0 [.ref a0, .int a1, .int a2, .int a3] [] s Q := vc_ok E 112 [11] Q 9 false 0 _ _ _ h
theorem sg112_11 {E : AEnv} {a0 : Nat} {a1 : Int32} {a2 : Int32} {a3 : Int32} {a4 : Int32} {a5 : Int32} {s : ASt} {Q : Option Value → ASt → Prop} (h :
  ((nI 8) ≤ a5 →
    sh s a0 6 15 ∧ cV E 98 [.ref a0, .int a4, .int (nI 0), .int a1] s (fun s1 =>
    sh s1 a0 6 15 ∧ cV E 98 [.ref a0, .int a4, .int (nI 1), .int a2] s1 (fun s2 =>
    sh s2 a0 6 15 ∧ cV E 98 [.ref a0, .int a4, .int (nI 2), .int a3] s2 (fun s3 =>
    sh s3 a0 6 15 ∧ cV E 98 [.ref a0, .int a4, .int (nI 3), .int (nI 100)] s3 (fun s4 =>
    sh s4 a0 6 15 ∧ ∃ r5, rf s4 a0 0 r5 ∧ ∃ n6, sh s4 r5 10 n6 ∧ vp_in (nI 2) n6 ∧ ∃ n7, sh s4 r5 10 n7 ∧ vp_in (nI 2) n7 ∧ nw (wrI s4 r5 2 ((gI s4 r5 2) + (nI 1))) (fun s8 =>
    Q (some (.int a4)) s8)))))) ∧
  (¬ (nI 8) ≤ a5 →
    sh s a0 6 15 ∧ cV E 98 [.ref a0, .int a4, .int a5, .int (nI 0)] s (fun s9 =>
    wp E 112 11 [.ref a0, .int a1, .int a2, .int a3, .int a4, .int (a5 + (nI 1))] [] s9 Q))) : wp E 112 11 [.ref a0, .int a1, .int a2, .int a3, .int a4, .int a5] [] s Q := vc_ok E 112 [11] Q 34 false 11 _ _ _ h
-- 113 CoatedBridgesModel.goSend(I)I
theorem sg113_0 {E : AEnv} {a0 : Nat} {a1 : Int32} {s : ASt} {Q : Option Value → ASt → Prop} (h :
  sh s a0 6 15 ∧ cI E 107 [.ref a0, .int a1] s (fun x2 s1 =>
  sh s1 a0 6 15 ∧ cV E 98 [.ref a0, .int a1, .int (nI 4), .int (nI 1)] s1 (fun s3 =>
  sh s3 a0 6 15 ∧ cV E 99 [.ref a0, .int a1, .int (nI 5), .int (nI 1)] s3 (fun s4 =>
  Q (some (.int x2)) s4)))) : wp E 113 0 [.ref a0, .int a1] [] s Q := vc_ok E 113 [] Q 17 false 0 _ _ _ h
-- 114 CoatedBridgesModel.goRecall(I)I
theorem sg114_0 {E : AEnv} {a0 : Nat} {a1 : Int32} {s : ASt} {Q : Option Value → ASt → Prop} (h :
  sh s a0 6 15 ∧ cV E 98 [.ref a0, .int a1, .int (nI 4), .int (nI 0)] s (fun s1 =>
  sh s1 a0 6 15 ∧ cI E 97 [.ref a0, .int a1, .int (nI 3)] s1 (fun x3 s2 =>
  Q (some (.int x3)) s2))) : wp E 114 0 [.ref a0, .int a1] [] s Q := vc_ok E 114 [] Q 11 false 0 _ _ _ h
-- 115 CoatedBridgesModel.goPay(I)I
theorem sg115_0 {E : AEnv} {a0 : Nat} {a1 : Int32} {s : ASt} {Q : Option Value → ASt → Prop} (h :
  sh s a0 6 15 ∧ ∃ r1, rf s a0 0 r1 ∧ ∃ n2, sh s r1 10 n2 ∧ vp_in (nI 11) n2 ∧ ∃ n3, sh s r1 10 n3 ∧ vp_in (nI 11) n3 ∧ nw (wrI s r1 11 ((gI s r1 11) + a1)) (fun s4 =>
  sh s4 a0 6 15 ∧ ∃ r5, rf s4 a0 0 r5 ∧ ∃ n6, sh s4 r5 10 n6 ∧ vp_in (nI 14) n6 ∧ ∃ n7, sh s4 r5 10 n7 ∧ vp_in (nI 14) n7 ∧ nw (wrI s4 r5 14 ((gI s4 r5 14) + a1)) (fun s8 =>
  sh s8 a0 6 15 ∧ ∃ r9, rf s8 a0 0 r9 ∧ ∃ n10, sh s8 r9 10 n10 ∧ vp_in (nI 11) n10 ∧ Q (some (.int (gI s8 r9 11))) s8))) : wp E 115 0 [.ref a0, .int a1] [] s Q := vc_ok E 115 [] Q 22 false 0 _ _ _ h
-- 116 CoatedBridgesModel.paints(I)V
theorem sg116_0 {E : AEnv} {a0 : Nat} {a1 : Int32} {s : ASt} {Q : Option Value → ASt → Prop} (h :
  sh s a0 6 15 ∧ ∃ r1, rf s a0 0 r1 ∧ ∃ n2, sh s r1 10 n2 ∧ vp_in (nI 5) n2 ∧ sh s a0 6 15 ∧ ∃ r3, rf s a0 0 r3 ∧ ∃ n4, sh s r3 10 n4 ∧ vp_in (nI 11) n4 ∧ ((gI s r1 5) ≤ (gI s r3 11) →
    sh s a0 6 15 ∧ ∃ r5, rf s a0 0 r5 ∧ ∃ n6, sh s r5 10 n6 ∧ vp_in (nI 11) n6 ∧ ∃ n7, sh s r5 10 n7 ∧ vp_in (nI 11) n7 ∧ nw (wrI s r5 11 ((gI s r5 11) - (gI s r1 5))) (fun s8 =>
    sh s8 a0 6 15 ∧ ∃ r9, rf s8 a0 0 r9 ∧ ∃ n10, sh s8 r9 10 n10 ∧ vp_in (nI 12) n10 ∧ ∃ n11, sh s8 r9 10 n11 ∧ vp_in (nI 12) n11 ∧ nw (wrI s8 r9 12 ((gI s8 r9 12) + (gI s r1 5))) (fun s12 =>
    sh s12 a0 6 15 ∧ cV E 99 [.ref a0, .int a1, .int (nI 7), .int (gI s r1 5)] s12 (fun s13 =>
    sh s13 a0 6 15 ∧ ∃ r14, rf s13 a0 0 r14 ∧ ∃ n15, sh s13 r14 10 n15 ∧ vp_in (nI 4) n15 ∧ sh s13 a0 6 15 ∧ cV E 99 [.ref a0, .int a1, .int (nI 3), .int (gI s13 r14 4)] s13 (fun s16 =>
    sh s16 a0 6 15 ∧ cI E 97 [.ref a0, .int a1, .int (nI 3)] s16 (fun x18 s17 =>
    (x18 < (nI 100) →
      Q none s17) ∧
    (¬ x18 < (nI 100) →
      sh s17 a0 6 15 ∧ cV E 98 [.ref a0, .int a1, .int (nI 3), .int (nI 100)] s17 (fun s19 =>
      sh s19 a0 6 15 ∧ cV E 98 [.ref a0, .int a1, .int (nI 4), .int (nI 0)] s19 (fun s20 =>
      Q none s20))))))))) ∧
  (¬ (gI s r1 5) ≤ (gI s r3 11) →
    Q none s)) : wp E 116 0 [.ref a0, .int a1] [] s Q := vc_ok E 116 [] Q 58 false 0 _ _ _ h
-- 117 CoatedBridgesModel.wears(I)V
theorem sg117_0 {E : AEnv} {a0 : Nat} {a1 : Int32} {s : ASt} {Q : Option Value → ASt → Prop} (h :
  sh s a0 6 15 ∧ cI E 97 [.ref a0, .int a1, .int (nI 3)] s (fun x2 s1 =>
  sh s1 a0 6 15 ∧ cI E 97 [.ref a0, .int a1, .int (nI 2)] s1 (fun x4 s3 =>
  ((nI 0) ≤ (x2 - x4) →
    sh s3 a0 6 15 ∧ cV E 98 [.ref a0, .int a1, .int (nI 3), .int (x2 - x4)] s3 (fun s5 =>
    Q none s5)) ∧
  (¬ (nI 0) ≤ (x2 - x4) →
    sh s3 a0 6 15 ∧ cV E 98 [.ref a0, .int a1, .int (nI 3), .int (nI 0)] s3 (fun s6 =>
    Q none s6))))) : wp E 117 0 [.ref a0, .int a1] [] s Q := vc_ok E 117 [] Q 20 false 0 _ _ _ h
-- 118 CoatedBridgesModel.waits(IZ)I
theorem sg118_0 {E : AEnv} {a0 : Nat} {a1 : Int32} {a2 : Int32} {s : ASt} {Q : Option Value → ASt → Prop} (h :
  sh s a0 6 15 ∧ cI E 100 [.ref a0, .int a1, .int (nI 0)] s (fun x2 s1 =>
  (a2 = (nI 0) →
    sh s1 a0 6 15 ∧ ∃ r3, rf s1 a0 0 r3 ∧ ∃ n4, sh s1 r3 10 n4 ∧ vp_in (nI 6) n4 ∧ ((gI s1 r3 6) ≠ (nI 1) →
      sh s1 a0 6 15 ∧ cV E 102 [.ref a0, .int a1, .int (nI 1)] s1 (fun s5 =>
      sh s5 a0 6 15 ∧ cI E 100 [.ref a0, .int a1, .int (nI 1)] s5 (fun x7 s6 =>
      sh s6 a0 6 15 ∧ cI E 100 [.ref a0, .int a1, .int (nI 3)] s6 (fun x9 s8 =>
      (x7 ≤ x9 →
        sh s8 a0 6 15 ∧ cI E 100 [.ref a0, .int a1, .int (nI 3)] s8 (fun x11 s10 =>
        sh s10 a0 6 15 ∧ cV E 101 [.ref a0, .int a1, .int (nI 3), .int x11] s10 (fun s12 =>
        sh s12 a0 6 15 ∧ ∃ r13, rf s12 a0 0 r13 ∧ ∃ n14, sh s12 r13 10 n14 ∧ vp_in (nI 7) n14 ∧ ((gI s12 r13 7) < x7 →
          sh s12 a0 6 15 ∧ cV E 102 [.ref a0, .int a1, .int (nI 2)] s12 (fun s15 =>
          Q (some (.int (nI 1))) s15)) ∧
        (¬ (gI s12 r13 7) < x7 →
          Q (some (.int (nI 0))) s12)))) ∧
      (¬ x7 ≤ x9 →
        sh s8 a0 6 15 ∧ cV E 101 [.ref a0, .int a1, .int (nI 3), .int x7] s8 (fun s16 =>
        sh s16 a0 6 15 ∧ ∃ r17, rf s16 a0 0 r17 ∧ ∃ n18, sh s16 r17 10 n18 ∧ vp_in (nI 7) n18 ∧ ((gI s16 r17 7) < x7 →
          sh s16 a0 6 15 ∧ cV E 102 [.ref a0, .int a1, .int (nI 2)] s16 (fun s19 =>
          Q (some (.int (nI 1))) s19)) ∧
        (¬ (gI s16 r17 7) < x7 →
          Q (some (.int (nI 0))) s16))))))) ∧
    (¬ (gI s1 r3 6) ≠ (nI 1) →
      sh s1 a0 6 15 ∧ ∃ r20, rf s1 a0 0 r20 ∧ ∃ n21, sh s1 r20 10 n21 ∧ vp_in (nI 11) n21 ∧ ((gI s1 r20 11) < x2 →
        sh s1 a0 6 15 ∧ cV E 102 [.ref a0, .int a1, .int (nI 1)] s1 (fun s22 =>
        sh s22 a0 6 15 ∧ cI E 100 [.ref a0, .int a1, .int (nI 1)] s22 (fun x24 s23 =>
        sh s23 a0 6 15 ∧ cI E 100 [.ref a0, .int a1, .int (nI 3)] s23 (fun x26 s25 =>
        (x24 ≤ x26 →
          sh s25 a0 6 15 ∧ cI E 100 [.ref a0, .int a1, .int (nI 3)] s25 (fun x28 s27 =>
          sh s27 a0 6 15 ∧ cV E 101 [.ref a0, .int a1, .int (nI 3), .int x28] s27 (fun s29 =>
          sh s29 a0 6 15 ∧ ∃ r30, rf s29 a0 0 r30 ∧ ∃ n31, sh s29 r30 10 n31 ∧ vp_in (nI 7) n31 ∧ ((gI s29 r30 7) < x24 →
            sh s29 a0 6 15 ∧ cV E 102 [.ref a0, .int a1, .int (nI 2)] s29 (fun s32 =>
            Q (some (.int (nI 1))) s32)) ∧
          (¬ (gI s29 r30 7) < x24 →
            Q (some (.int (nI 0))) s29)))) ∧
        (¬ x24 ≤ x26 →
          sh s25 a0 6 15 ∧ cV E 101 [.ref a0, .int a1, .int (nI 3), .int x24] s25 (fun s33 =>
          sh s33 a0 6 15 ∧ ∃ r34, rf s33 a0 0 r34 ∧ ∃ n35, sh s33 r34 10 n35 ∧ vp_in (nI 7) n35 ∧ ((gI s33 r34 7) < x24 →
            sh s33 a0 6 15 ∧ cV E 102 [.ref a0, .int a1, .int (nI 2)] s33 (fun s36 =>
            Q (some (.int (nI 1))) s36)) ∧
          (¬ (gI s33 r34 7) < x24 →
            Q (some (.int (nI 0))) s33))))))) ∧
      (¬ (gI s1 r20 11) < x2 →
        sh s1 a0 6 15 ∧ ∃ r37, rf s1 a0 0 r37 ∧ ∃ n38, sh s1 r37 10 n38 ∧ vp_in (nI 11) n38 ∧ ∃ n39, sh s1 r37 10 n39 ∧ vp_in (nI 11) n39 ∧ nw (wrI s1 r37 11 ((gI s1 r37 11) - x2)) (fun s40 =>
        sh s40 a0 6 15 ∧ ∃ r41, rf s40 a0 0 r41 ∧ ∃ n42, sh s40 r41 10 n42 ∧ vp_in (nI 13) n42 ∧ ∃ n43, sh s40 r41 10 n43 ∧ vp_in (nI 13) n43 ∧ nw (wrI s40 r41 13 ((gI s40 r41 13) + x2)) (fun s44 =>
        sh s44 a0 6 15 ∧ cV E 102 [.ref a0, .int a1, .int (nI 4)] s44 (fun s45 =>
        sh s45 a0 6 15 ∧ cV E 101 [.ref a0, .int a1, .int (nI 1), .int (nI 0)] s45 (fun s46 =>
        Q (some (.int (nI 0))) s46))))))) ∧
  (¬ a2 = (nI 0) →
    sh s1 a0 6 15 ∧ cV E 101 [.ref a0, .int a1, .int (nI 1), .int (nI 0)] s1 (fun s47 =>
    Q (some (.int (nI 0))) s47)))) : wp E 118 0 [.ref a0, .int a1, .int a2] [] s Q := vc_ok E 118 [] Q 55 false 0 _ _ _ h
-- 119 CoatedBridgesModel.books(I)V
theorem sg119_0 {E : AEnv} {a0 : Nat} {a1 : Int32} {s : ASt} {Q : Option Value → ASt → Prop} (h :
  wp E 119 3 [.ref a0, .int a1, .int (nI 31)] [] s Q) : wp E 119 0 [.ref a0, .int a1] [] s Q := vc_ok E 119 [3] Q 4 false 0 _ _ _ h
theorem sg119_3 {E : AEnv} {a0 : Nat} {a1 : Int32} {a2 : Int32} {s : ASt} {Q : Option Value → ASt → Prop} (h :
  (a2 ≤ (nI 17) →
    sh s a0 6 15 ∧ ∃ r1, rf s a0 0 r1 ∧ sh s a0 6 15 ∧ ∃ r2, rf s a0 0 r2 ∧ ∃ n3, sh s r2 10 n3 ∧ vp_in (nI 0) n3 ∧ ∃ n4, sh s r1 10 n4 ∧ vp_in (nI 16) n4 ∧ nw (wrI s r1 16 (gI s r2 0)) (fun s5 =>
    sh s5 a0 6 15 ∧ ∃ r6, rf s5 a0 0 r6 ∧ ∃ n7, sh s5 r6 10 n7 ∧ vp_in (nI 17) n7 ∧ nw (wrI s5 r6 17 a1) (fun s8 =>
    sh s8 a0 6 15 ∧ ∃ r9, rf s8 a0 0 r9 ∧ ∃ n10, sh s8 r9 10 n10 ∧ vp_in (nI 15) n10 ∧ sh s8 a0 6 15 ∧ ∃ r11, rf s8 a0 0 r11 ∧ ∃ n12, sh s8 r11 10 n12 ∧ vp_in (nI 15) n12 ∧ ((nI 8) ≤ (gI s8 r11 15) →
      ∃ n13, sh s8 r9 10 n13 ∧ vp_in (nI 15) n13 ∧ nw (wrI s8 r9 15 ((gI s8 r9 15) + (nI 0))) (fun s14 =>
      Q none s14)) ∧
    (¬ (nI 8) ≤ (gI s8 r11 15) →
      ∃ n15, sh s8 r9 10 n15 ∧ vp_in (nI 15) n15 ∧ nw (wrI s8 r9 15 ((gI s8 r9 15) + (nI 1))) (fun s16 =>
      Q none s16))))) ∧
  (¬ a2 ≤ (nI 17) →
    sh s a0 6 15 ∧ ∃ r17, rf s a0 0 r17 ∧ sh s a0 6 15 ∧ ∃ r18, rf s a0 0 r18 ∧ ∃ n19, sh s r18 10 n19 ∧ vp_in (a2 - (nI 2)) n19 ∧ ∃ n20, sh s r17 10 n20 ∧ vp_in a2 n20 ∧ nw (wrI s r17 (a2).toNatClampNeg (gI s r18 ((a2 - (nI 2))).toNatClampNeg)) (fun s21 =>
    wp E 119 3 [.ref a0, .int a1, .int (a2 + (-1 : Int32))] [] s21 Q))) : wp E 119 3 [.ref a0, .int a1, .int a2] [] s Q := vc_ok E 119 [3] Q 33 false 3 _ _ _ h
-- 120 CoatedBridgesModel.endsDay()I
theorem sg120_0 {E : AEnv} {a0 : Nat} {s : ASt} {Q : Option Value → ASt → Prop} (h :
  wp E 120 2 [.ref a0, .int (nI 0)] [] s Q) : wp E 120 0 [.ref a0] [] s Q := vc_ok E 120 [2, 31, 62, 124, 236] Q 4 false 0 _ _ _ h
theorem sg120_2 {E : AEnv} {a0 : Nat} {a1 : Int32} {s : ASt} {Q : Option Value → ASt → Prop} (h :
  sh s a0 6 15 ∧ ∃ r1, rf s a0 0 r1 ∧ ∃ n2, sh s r1 10 n2 ∧ vp_in (nI 2) n2 ∧ ((gI s r1 2) ≤ a1 →
    wp E 120 31 [.ref a0, .int (nI 0)] [] s Q) ∧
  (¬ (gI s r1 2) ≤ a1 →
    sh s a0 6 15 ∧ ∃ r3, rf s a0 7 r3 ∧ sh s a0 6 15 ∧ cI E 104 [.ref a0, .int a1] s (fun x5 s4 =>
    ∃ n6, sh s4 r3 12 n6 ∧ vp_in a1 n6 ∧ nw (wrI s4 r3 (a1).toNatClampNeg (vp_nar .boolean x5)) (fun s7 =>
    wp E 120 2 [.ref a0, .int (a1 + (nI 1))] [] s7 Q)))) : wp E 120 2 [.ref a0, .int a1] [] s Q := vc_ok E 120 [2, 31, 62, 124, 236] Q 17 false 2 _ _ _ h
theorem sg120_31 {E : AEnv} {a0 : Nat} {a1 : Int32} {s : ASt} {Q : Option Value → ASt → Prop} (h :
  sh s a0 6 15 ∧ ∃ r1, rf s a0 0 r1 ∧ ∃ n2, sh s r1 10 n2 ∧ vp_in (nI 2) n2 ∧ ((gI s r1 2) ≤ a1 →
    wp E 120 62 [.ref a0, .int (nI 0)] [] s Q) ∧
  (¬ (gI s r1 2) ≤ a1 →
    sh s a0 6 15 ∧ cI E 103 [.ref a0, .int a1] s (fun x4 s3 =>
    (x4 = (nI 0) →
      wp E 120 31 [.ref a0, .int (a1 + (nI 1))] [] s3 Q) ∧
    (¬ x4 = (nI 0) →
      sh s3 a0 6 15 ∧ cV E 116 [.ref a0, .int a1] s3 (fun s5 =>
      wp E 120 31 [.ref a0, .int (a1 + (nI 1))] [] s5 Q))))) : wp E 120 31 [.ref a0, .int a1] [] s Q := vc_ok E 120 [2, 31, 62, 124, 236] Q 17 false 31 _ _ _ h
theorem sg120_62 {E : AEnv} {a0 : Nat} {a1 : Int32} {s : ASt} {Q : Option Value → ASt → Prop} (h :
  sh s a0 6 15 ∧ ∃ r1, rf s a0 0 r1 ∧ ∃ n2, sh s r1 10 n2 ∧ vp_in (nI 2) n2 ∧ ((gI s r1 2) ≤ a1 →
    sh s a0 6 15 ∧ cI E 106 [.ref a0, .int (nI 0), .int (-1000004 : Int32)] s (fun x4 s3 =>
    wp E 120 124 [.ref a0, .int x4, .int (nI 0), .int (nI 1)] [] s3 Q)) ∧
  (¬ (gI s r1 2) ≤ a1 →
    sh s a0 6 15 ∧ ∃ r5, rf s a0 7 r5 ∧ ∃ n6, sh s r5 12 n6 ∧ vp_in a1 n6 ∧ ((gI s r5 (a1).toNatClampNeg) = (nI 0) →
      sh s a0 6 15 ∧ cI E 104 [.ref a0, .int a1] s (fun x8 s7 =>
      (x8 = (nI 0) →
        sh s7 a0 6 15 ∧ cV E 99 [.ref a0, .int a1, .int (nI 6), .int (nI 1)] s7 (fun s9 =>
        wp E 120 62 [.ref a0, .int (a1 + (nI 1))] [] s9 Q)) ∧
      (¬ x8 = (nI 0) →
        sh s7 a0 6 15 ∧ cV E 99 [.ref a0, .int a1, .int (nI 6), .int (nI 0)] s7 (fun s10 =>
        wp E 120 62 [.ref a0, .int (a1 + (nI 1))] [] s10 Q)))) ∧
    (¬ (gI s r5 (a1).toNatClampNeg) = (nI 0) →
      sh s a0 6 15 ∧ cV E 117 [.ref a0, .int a1] s (fun s11 =>
      sh s11 a0 6 15 ∧ cI E 104 [.ref a0, .int a1] s11 (fun x13 s12 =>
      (x13 = (nI 0) →
        sh s12 a0 6 15 ∧ cV E 99 [.ref a0, .int a1, .int (nI 6), .int (nI 1)] s12 (fun s14 =>
        wp E 120 62 [.ref a0, .int (a1 + (nI 1))] [] s14 Q)) ∧
      (¬ x13 = (nI 0) →
        sh s12 a0 6 15 ∧ cV E 99 [.ref a0, .int a1, .int (nI 6), .int (nI 0)] s12 (fun s15 =>
        wp E 120 62 [.ref a0, .int (a1 + (nI 1))] [] s15 Q))))))) : wp E 120 62 [.ref a0, .int a1] [] s Q := vc_ok E 120 [2, 31, 62, 124, 236] Q 28 false 62 _ _ _ h
theorem sg120_124 {E : AEnv} {a0 : Nat} {a1 : Int32} {a2 : Int32} {a3 : Int32} {s : ASt} {Q : Option Value → ASt → Prop} (h :
  sh s a0 6 15 ∧ ∃ r1, rf s a0 0 r1 ∧ ∃ n2, sh s r1 10 n2 ∧ vp_in (nI 1) n2 ∧ ((gI s r1 1) ≤ a3 →
    (a2 ≤ (nI 0) →
      sh s a0 6 15 ∧ ∃ r3, rf s a0 0 r3 ∧ ∃ n4, sh s r3 10 n4 ∧ vp_in (nI 0) n4 ∧ ∃ n5, sh s r3 10 n5 ∧ vp_in (nI 0) n5 ∧ nw (wrI s r3 0 ((gI s r3 0) + (nI 1))) (fun s6 =>
      sh s6 a0 6 15 ∧ ∃ r7, rf s6 a0 0 r7 ∧ ∃ n8, sh s6 r7 10 n8 ∧ vp_in (nI 11) n8 ∧ sh s6 a0 6 15 ∧ ∃ r9, rf s6 a0 0 r9 ∧ ∃ n10, sh s6 r9 10 n10 ∧ vp_in (nI 8) n10 ∧ ∃ n11, sh s6 r7 10 n11 ∧ vp_in (nI 11) n11 ∧ nw (wrI s6 r7 11 ((gI s6 r7 11) + (gI s6 r9 8))) (fun s12 =>
      sh s12 a0 6 15 ∧ ∃ r13, rf s12 a0 0 r13 ∧ ∃ n14, sh s12 r13 10 n14 ∧ vp_in (nI 14) n14 ∧ sh s12 a0 6 15 ∧ ∃ r15, rf s12 a0 0 r15 ∧ ∃ n16, sh s12 r15 10 n16 ∧ vp_in (nI 8) n16 ∧ ∃ n17, sh s12 r13 10 n17 ∧ vp_in (nI 14) n17 ∧ nw (wrI s12 r13 14 ((gI s12 r13 14) + (gI s12 r15 8))) (fun s18 =>
      sh s18 a0 6 15 ∧ ∃ r19, rf s18 a0 0 r19 ∧ ∃ n20, sh s18 r19 10 n20 ∧ vp_in (nI 9) n20 ∧ ((gI s18 r19 9) ≠ (nI 1) →
        wp E 120 236 [.ref a0, .int a1, .int a2, .int (-1000004 : Int32)] [] s18 Q) ∧
      (¬ (gI s18 r19 9) ≠ (nI 1) →
        sh s18 a0 6 15 ∧ cI E 110 [.ref a0] s18 (fun x22 s21 =>
        wp E 120 236 [.ref a0, .int a1, .int a2, .int x22] [] s21 Q)))))) ∧
    (¬ a2 ≤ (nI 0) →
      sh s a0 6 15 ∧ cV E 119 [.ref a0, .int a2] s (fun s23 =>
      sh s23 a0 6 15 ∧ ∃ r24, rf s23 a0 0 r24 ∧ ∃ n25, sh s23 r24 10 n25 ∧ vp_in (nI 0) n25 ∧ ∃ n26, sh s23 r24 10 n26 ∧ vp_in (nI 0) n26 ∧ nw (wrI s23 r24 0 ((gI s23 r24 0) + (nI 1))) (fun s27 =>
      sh s27 a0 6 15 ∧ ∃ r28, rf s27 a0 0 r28 ∧ ∃ n29, sh s27 r28 10 n29 ∧ vp_in (nI 11) n29 ∧ sh s27 a0 6 15 ∧ ∃ r30, rf s27 a0 0 r30 ∧ ∃ n31, sh s27 r30 10 n31 ∧ vp_in (nI 8) n31 ∧ ∃ n32, sh s27 r28 10 n32 ∧ vp_in (nI 11) n32 ∧ nw (wrI s27 r28 11 ((gI s27 r28 11) + (gI s27 r30 8))) (fun s33 =>
      sh s33 a0 6 15 ∧ ∃ r34, rf s33 a0 0 r34 ∧ ∃ n35, sh s33 r34 10 n35 ∧ vp_in (nI 14) n35 ∧ sh s33 a0 6 15 ∧ ∃ r36, rf s33 a0 0 r36 ∧ ∃ n37, sh s33 r36 10 n37 ∧ vp_in (nI 8) n37 ∧ ∃ n38, sh s33 r34 10 n38 ∧ vp_in (nI 14) n38 ∧ nw (wrI s33 r34 14 ((gI s33 r34 14) + (gI s33 r36 8))) (fun s39 =>
      sh s39 a0 6 15 ∧ ∃ r40, rf s39 a0 0 r40 ∧ ∃ n41, sh s39 r40 10 n41 ∧ vp_in (nI 9) n41 ∧ ((gI s39 r40 9) ≠ (nI 1) →
        wp E 120 236 [.ref a0, .int a1, .int a2, .int (-1000004 : Int32)] [] s39 Q) ∧
      (¬ (gI s39 r40 9) ≠ (nI 1) →
        sh s39 a0 6 15 ∧ cI E 110 [.ref a0] s39 (fun x43 s42 =>
        wp E 120 236 [.ref a0, .int a1, .int a2, .int x43] [] s42 Q)))))))) ∧
  (¬ (gI s r1 1) ≤ a3 →
    (((a1 >>> (a3 &&& 31)) &&& (nI 1)) ≠ (nI 1) →
      sh s a0 6 15 ∧ cI E 118 [.ref a0, .int a3, .int (nI 0)] s (fun x45 s44 =>
      wp E 120 124 [.ref a0, .int a1, .int (a2 + x45), .int (a3 + (nI 1))] [] s44 Q)) ∧
    (¬ ((a1 >>> (a3 &&& 31)) &&& (nI 1)) ≠ (nI 1) →
      sh s a0 6 15 ∧ cI E 118 [.ref a0, .int a3, .int (nI 1)] s (fun x47 s46 =>
      wp E 120 124 [.ref a0, .int a1, .int (a2 + x47), .int (a3 + (nI 1))] [] s46 Q)))) : wp E 120 124 [.ref a0, .int a1, .int a2, .int a3] [] s Q := vc_ok E 120 [2, 31, 62, 124, 236] Q 53 false 124 _ _ _ h
theorem sg120_236 {E : AEnv} {a0 : Nat} {a1 : Int32} {a2 : Int32} {a3 : Int32} {s : ASt} {Q : Option Value → ASt → Prop} (h :
  (a3 < (nI 0) →
    Q (some (.int a2)) s) ∧
  (¬ a3 < (nI 0) →
    sh s a0 6 15 ∧ cI E 113 [.ref a0, .int a3] s (fun x2 s1 =>
    sh s1 a0 6 15 ∧ cI E 110 [.ref a0] s1 (fun x4 s3 =>
    wp E 120 236 [.ref a0, .int a1, .int a2, .int x4] [] s3 Q)))) : wp E 120 236 [.ref a0, .int a1, .int a2, .int a3] [] s Q := vc_ok E 120 [2, 31, 62, 124, 236] Q 12 false 236 _ _ _ h
-- 121 CoatedBridgesModel.endsDays(I)I
theorem sg121_0 {E : AEnv} {a0 : Nat} {a1 : Int32} {s : ASt} {Q : Option Value → ASt → Prop} (h :
  wp E 121 4 [.ref a0, .int a1, .int (nI 0), .int (nI 0)] [] s Q) : wp E 121 0 [.ref a0, .int a1] [] s Q := vc_ok E 121 [4] Q 6 false 0 _ _ _ h
theorem sg121_4 {E : AEnv} {a0 : Nat} {a1 : Int32} {a2 : Int32} {a3 : Int32} {s : ASt} {Q : Option Value → ASt → Prop} (h :
  (a1 ≤ a3 →
    Q (some (.int a2)) s) ∧
  (¬ a1 ≤ a3 →
    sh s a0 6 15 ∧ cI E 120 [.ref a0] s (fun x2 s1 =>
    wp E 121 4 [.ref a0, .int a1, .int (a2 + x2), .int (a3 + (nI 1))] [] s1 Q))) : wp E 121 4 [.ref a0, .int a1, .int a2, .int a3] [] s Q := vc_ok E 121 [4] Q 12 false 4 _ _ _ h
-- 122 CoatedBridgesModel.errorIsland(I)I
theorem sg122_0 {E : AEnv} {a0 : Nat} {a1 : Int32} {s : ASt} {Q : Option Value → ASt → Prop} (h :
  cI E 92 [.int a1, .int (nI 0), .int (nI 99)] s (fun x2 s1 =>
  (x2 ≠ (nI 0) →
    sh s1 a0 6 15 ∧ ∃ r3, rf s1 a0 0 r3 ∧ ∃ n4, sh s1 r3 10 n4 ∧ vp_in (nI 1) n4 ∧ ((gI s1 r3 1) ≠ (nI 8) →
      Q (some (.int (nI 0))) s1) ∧
    (¬ (gI s1 r3 1) ≠ (nI 8) →
      Q (some (.int (-1000003 : Int32))) s1)) ∧
  (¬ x2 ≠ (nI 0) →
    Q (some (.int (-1000001 : Int32))) s1))) : wp E 122 0 [.ref a0, .int a1] [] s Q := vc_ok E 122 [] Q 15 false 0 _ _ _ h
-- 123 CoatedBridgesModel.errorBridge(III)I
theorem sg123_0 {E : AEnv} {a0 : Nat} {a1 : Int32} {a2 : Int32} {a3 : Int32} {s : ASt} {Q : Option Value → ASt → Prop} (h :
  sh s a0 6 15 ∧ cI E 95 [.ref a0, .int a1] s (fun x2 s1 =>
  (x2 = (nI 0) →
    ((nI 0) ≠ (nI 0) →
      sh s1 a0 6 15 ∧ ∃ r3, rf s1 a0 0 r3 ∧ ∃ n4, sh s1 r3 10 n4 ∧ vp_in (nI 2) n4 ∧ ((gI s1 r3 2) ≠ (nI 14) →
        Q (some (.int (nI 0))) s1) ∧
      (¬ (gI s1 r3 2) ≠ (nI 14) →
        Q (some (.int (-1000003 : Int32))) s1)) ∧
    (¬ (nI 0) ≠ (nI 0) →
      Q (some (.int (-1000001 : Int32))) s1)) ∧
  (¬ x2 = (nI 0) →
    sh s1 a0 6 15 ∧ cI E 95 [.ref a0, .int a2] s1 (fun x6 s5 =>
    (x6 = (nI 0) →
      ((nI 0) ≠ (nI 0) →
        sh s5 a0 6 15 ∧ ∃ r7, rf s5 a0 0 r7 ∧ ∃ n8, sh s5 r7 10 n8 ∧ vp_in (nI 2) n8 ∧ ((gI s5 r7 2) ≠ (nI 14) →
          Q (some (.int (nI 0))) s5) ∧
        (¬ (gI s5 r7 2) ≠ (nI 14) →
          Q (some (.int (-1000003 : Int32))) s5)) ∧
      (¬ (nI 0) ≠ (nI 0) →
        Q (some (.int (-1000001 : Int32))) s5)) ∧
    (¬ x6 = (nI 0) →
      (a1 = a2 →
        ((nI 0) ≠ (nI 0) →
          sh s5 a0 6 15 ∧ ∃ r9, rf s5 a0 0 r9 ∧ ∃ n10, sh s5 r9 10 n10 ∧ vp_in (nI 2) n10 ∧ ((gI s5 r9 2) ≠ (nI 14) →
            Q (some (.int (nI 0))) s5) ∧
          (¬ (gI s5 r9 2) ≠ (nI 14) →
            Q (some (.int (-1000003 : Int32))) s5)) ∧
        (¬ (nI 0) ≠ (nI 0) →
          Q (some (.int (-1000001 : Int32))) s5)) ∧
      (¬ a1 = a2 →
        cI E 92 [.int a3, .int (nI 1), .int (nI 9)] s5 (fun x12 s11 =>
        (x12 = (nI 0) →
          ((nI 0) ≠ (nI 0) →
            sh s11 a0 6 15 ∧ ∃ r13, rf s11 a0 0 r13 ∧ ∃ n14, sh s11 r13 10 n14 ∧ vp_in (nI 2) n14 ∧ ((gI s11 r13 2) ≠ (nI 14) →
              Q (some (.int (nI 0))) s11) ∧
            (¬ (gI s11 r13 2) ≠ (nI 14) →
              Q (some (.int (-1000003 : Int32))) s11)) ∧
          (¬ (nI 0) ≠ (nI 0) →
            Q (some (.int (-1000001 : Int32))) s11)) ∧
        (¬ x12 = (nI 0) →
          ((nI 1) ≠ (nI 0) →
            sh s11 a0 6 15 ∧ ∃ r15, rf s11 a0 0 r15 ∧ ∃ n16, sh s11 r15 10 n16 ∧ vp_in (nI 2) n16 ∧ ((gI s11 r15 2) ≠ (nI 14) →
              Q (some (.int (nI 0))) s11) ∧
            (¬ (gI s11 r15 2) ≠ (nI 14) →
              Q (some (.int (-1000003 : Int32))) s11)) ∧
          (¬ (nI 1) ≠ (nI 0) →
            Q (some (.int (-1000001 : Int32))) s11))))))))) : wp E 123 0 [.ref a0, .int a1, .int a2, .int a3] [] s Q := vc_ok E 123 [] Q 31 false 0 _ _ _ h
-- 124 CoatedBridgesModel.errorSend(II)I
theorem sg124_0 {E : AEnv} {a0 : Nat} {a1 : Int32} {a2 : Int32} {s : ASt} {Q : Option Value → ASt → Prop} (h :
  sh s a0 6 15 ∧ cI E 96 [.ref a0, .int a1] s (fun x2 s1 =>
  (x2 = (nI 0) →
    Q (some (.int (-1000001 : Int32))) s1) ∧
  (¬ x2 = (nI 0) →
    cI E 92 [.int a2, .int (nI 0), .int (nI 1)] s1 (fun x4 s3 =>
    (x4 ≠ (nI 0) →
      sh s3 a0 6 15 ∧ cI E 109 [.ref a0, .int a1] s3 (fun x6 s5 =>
      (x6 = (nI 0) →
        Q (some (.int (nI 0))) s5) ∧
      (¬ x6 = (nI 0) →
        (x6 ≠ (nI 4) →
          Q (some (.int (-1000002 : Int32))) s5) ∧
        (¬ x6 ≠ (nI 4) →
          (a2 ≠ (nI 1) →
            Q (some (.int (-1000002 : Int32))) s5) ∧
          (¬ a2 ≠ (nI 1) →
            Q (some (.int (nI 0))) s5))))) ∧
    (¬ x4 ≠ (nI 0) →
      Q (some (.int (-1000001 : Int32))) s3))))) : wp E 124 0 [.ref a0, .int a1, .int a2] [] s Q := vc_ok E 124 [] Q 25 false 0 _ _ _ h
-- 125 CoatedBridgesModel.errorRecall(I)I
theorem sg125_0 {E : AEnv} {a0 : Nat} {a1 : Int32} {s : ASt} {Q : Option Value → ASt → Prop} (h :
  sh s a0 6 15 ∧ cI E 96 [.ref a0, .int a1] s (fun x2 s1 =>
  (x2 ≠ (nI 0) →
    sh s1 a0 6 15 ∧ cI E 103 [.ref a0, .int a1] s1 (fun x4 s3 =>
    (x4 = (nI 0) →
      Q (some (.int (-1000002 : Int32))) s3) ∧
    (¬ x4 = (nI 0) →
      Q (some (.int (nI 0))) s3))) ∧
  (¬ x2 ≠ (nI 0) →
    Q (some (.int (-1000001 : Int32))) s1))) : wp E 125 0 [.ref a0, .int a1] [] s Q := vc_ok E 125 [] Q 12 false 0 _ _ _ h
-- 126 CoatedBridgesModel.errorPay(I)I
theorem sg126_0 {E : AEnv} {a0 : Nat} {a1 : Int32} {s : ASt} {Q : Option Value → ASt → Prop} (h :
  cI E 92 [.int a1, .int (nI 1), .int (nI 999)] s (fun x2 s1 =>
  (x2 ≠ (nI 0) →
    sh s1 a0 6 15 ∧ ∃ r3, rf s1 a0 0 r3 ∧ ∃ n4, sh s1 r3 10 n4 ∧ vp_in (nI 11) n4 ∧ (((gI s1 r3 11) + a1) ≤ (nI 999999) →
      Q (some (.int (nI 0))) s1) ∧
    (¬ ((gI s1 r3 11) + a1) ≤ (nI 999999) →
      Q (some (.int (-1000003 : Int32))) s1)) ∧
  (¬ x2 ≠ (nI 0) →
    Q (some (.int (-1000001 : Int32))) s1))) : wp E 126 0 [.ref a0, .int a1] [] s Q := vc_ok E 126 [] Q 17 false 0 _ _ _ h
-- 127 CoatedBridgesModel.errorDays(I)I
theorem sg127_0 {E : AEnv} {a0 : Nat} {a1 : Int32} {s : ASt} {Q : Option Value → ASt → Prop} (h :
  cI E 92 [.int a1, .int (nI 1), .int (nI 99)] s (fun x2 s1 =>
  (x2 ≠ (nI 0) →
    sh s1 a0 6 15 ∧ ∃ r3, rf s1 a0 0 r3 ∧ ∃ n4, sh s1 r3 10 n4 ∧ vp_in (nI 0) n4 ∧ (((gI s1 r3 0) + a1) ≤ (nI 9999) →
      Q (some (.int (nI 0))) s1) ∧
    (¬ ((gI s1 r3 0) + a1) ≤ (nI 9999) →
      Q (some (.int (-1000003 : Int32))) s1)) ∧
  (¬ x2 ≠ (nI 0) →
    Q (some (.int (-1000001 : Int32))) s1))) : wp E 127 0 [.ref a0, .int a1] [] s Q := vc_ok E 127 [] Q 17 false 0 _ _ _ h
-- 128 CoatedBridgesModel.island(I)I
theorem sg128_0 {E : AEnv} {a0 : Nat} {a1 : Int32} {s : ASt} {Q : Option Value → ASt → Prop} (h :
  sh s a0 6 15 ∧ cI E 122 [.ref a0, .int a1] s (fun x2 s1 =>
  ((nI 0) ≤ x2 →
    sh s1 a0 6 15 ∧ cV E 94 [.ref a0] s1 (fun s3 =>
    sh s3 a0 6 15 ∧ cI E 111 [.ref a0, .int a1] s3 (fun x5 s4 =>
    Q (some (.int x5)) s4))) ∧
  (¬ (nI 0) ≤ x2 →
    Q (some (.int x2)) s1))) : wp E 128 0 [.ref a0, .int a1] [] s Q := vc_ok E 128 [] Q 13 false 0 _ _ _ h
-- 129 CoatedBridgesModel.bridge(III)I
theorem sg129_0 {E : AEnv} {a0 : Nat} {a1 : Int32} {a2 : Int32} {a3 : Int32} {s : ASt} {Q : Option Value → ASt → Prop} (h :
  sh s a0 6 15 ∧ cI E 123 [.ref a0, .int a1, .int a2, .int a3] s (fun x2 s1 =>
  ((nI 0) ≤ x2 →
    sh s1 a0 6 15 ∧ cV E 94 [.ref a0] s1 (fun s3 =>
    sh s3 a0 6 15 ∧ cI E 112 [.ref a0, .int a1, .int a2, .int a3] s3 (fun x5 s4 =>
    Q (some (.int x5)) s4))) ∧
  (¬ (nI 0) ≤ x2 →
    Q (some (.int x2)) s1))) : wp E 129 0 [.ref a0, .int a1, .int a2, .int a3] [] s Q := vc_ok E 129 [] Q 17 false 0 _ _ _ h
-- 130 CoatedBridgesModel.send(II)I
theorem sg130_0 {E : AEnv} {a0 : Nat} {a1 : Int32} {a2 : Int32} {s : ASt} {Q : Option Value → ASt → Prop} (h :
  sh s a0 6 15 ∧ cI E 124 [.ref a0, .int a1, .int a2] s (fun x2 s1 =>
  ((nI 0) ≤ x2 →
    sh s1 a0 6 15 ∧ cV E 94 [.ref a0] s1 (fun s3 =>
    sh s3 a0 6 15 ∧ cI E 113 [.ref a0, .int a1] s3 (fun x5 s4 =>
    Q (some (.int x5)) s4))) ∧
  (¬ (nI 0) ≤ x2 →
    Q (some (.int x2)) s1))) : wp E 130 0 [.ref a0, .int a1, .int a2] [] s Q := vc_ok E 130 [] Q 14 false 0 _ _ _ h
-- 131 CoatedBridgesModel.recall(I)I
theorem sg131_0 {E : AEnv} {a0 : Nat} {a1 : Int32} {s : ASt} {Q : Option Value → ASt → Prop} (h :
  sh s a0 6 15 ∧ cI E 125 [.ref a0, .int a1] s (fun x2 s1 =>
  ((nI 0) ≤ x2 →
    sh s1 a0 6 15 ∧ cV E 94 [.ref a0] s1 (fun s3 =>
    sh s3 a0 6 15 ∧ cI E 114 [.ref a0, .int a1] s3 (fun x5 s4 =>
    Q (some (.int x5)) s4))) ∧
  (¬ (nI 0) ≤ x2 →
    Q (some (.int x2)) s1))) : wp E 131 0 [.ref a0, .int a1] [] s Q := vc_ok E 131 [] Q 13 false 0 _ _ _ h
-- 132 CoatedBridgesModel.pay(I)I
theorem sg132_0 {E : AEnv} {a0 : Nat} {a1 : Int32} {s : ASt} {Q : Option Value → ASt → Prop} (h :
  sh s a0 6 15 ∧ cI E 126 [.ref a0, .int a1] s (fun x2 s1 =>
  ((nI 0) ≤ x2 →
    sh s1 a0 6 15 ∧ cV E 94 [.ref a0] s1 (fun s3 =>
    sh s3 a0 6 15 ∧ cI E 115 [.ref a0, .int a1] s3 (fun x5 s4 =>
    Q (some (.int x5)) s4))) ∧
  (¬ (nI 0) ≤ x2 →
    Q (some (.int x2)) s1))) : wp E 132 0 [.ref a0, .int a1] [] s Q := vc_ok E 132 [] Q 13 false 0 _ _ _ h
-- 133 CoatedBridgesModel.days(I)I
theorem sg133_0 {E : AEnv} {a0 : Nat} {a1 : Int32} {s : ASt} {Q : Option Value → ASt → Prop} (h :
  sh s a0 6 15 ∧ cI E 127 [.ref a0, .int a1] s (fun x2 s1 =>
  ((nI 0) ≤ x2 →
    sh s1 a0 6 15 ∧ cV E 94 [.ref a0] s1 (fun s3 =>
    sh s3 a0 6 15 ∧ cI E 121 [.ref a0, .int a1] s3 (fun x5 s4 =>
    Q (some (.int x5)) s4))) ∧
  (¬ (nI 0) ≤ x2 →
    Q (some (.int x2)) s1))) : wp E 133 0 [.ref a0, .int a1] [] s Q := vc_ok E 133 [] Q 13 false 0 _ _ _ h
-- 134 CoatedBridgesModel.mostOf(I)I
theorem sg134_0 {E : AEnv} {a0 : Int32} {s : ASt} {Q : Option Value → ASt → Prop} (h :
  (a0 = (nI 0) →
    Q (some (.int (nI 4))) s) ∧
  (¬ a0 = (nI 0) →
   (a0 = (nI 1) →
    Q (some (.int (nI 100))) s) ∧
  (¬ a0 = (nI 1) →
   (a0 = (nI 2) →
    Q (some (.int (nI 99))) s) ∧
  (¬ a0 = (nI 2) →
   (a0 = (nI 3) →
    Q (some (.int (nI 1))) s) ∧
  (¬ a0 = (nI 3) →
   (a0 = (nI 4) →
    Q (some (.int (nI 30))) s) ∧
  (¬ a0 = (nI 4) →
   (a0 = (nI 5) →
    Q (some (.int (nI 99))) s) ∧
  (¬ a0 = (nI 5) →
   (a0 = (nI 6) →
    Q (some (.int (nI 1))) s) ∧
  (¬ a0 = (nI 6) →
   Q (some (.int (nI 99))) s)))))))) : wp E 134 0 [.int a0] [] s Q := vc_ok E 134 [] Q 5 false 0 _ _ _ h
-- 135 CoatedBridgesModel.set(II)I
theorem sg135_0 {E : AEnv} {a0 : Nat} {a1 : Int32} {a2 : Int32} {s : ASt} {Q : Option Value → ASt → Prop} (h :
  cI E 92 [.int a1, .int (nI 0), .int (nI 7)] s (fun x2 s1 =>
  (x2 = (nI 0) →
    Q (some (.int (-1000001 : Int32))) s1) ∧
  (¬ x2 = (nI 0) →
    (a1 ≠ (nI 1) →
      cI E 134 [.int a1] s1 (fun x4 s3 =>
      cI E 92 [.int a2, .int (nI 0), .int x4] s3 (fun x6 s5 =>
      (x6 ≠ (nI 0) →
        sh s5 a0 6 15 ∧ cV E 94 [.ref a0] s5 (fun s7 =>
        sh s7 a0 6 15 ∧ ∃ r8, rf s7 a0 0 r8 ∧ ∃ n9, sh s7 r8 10 n9 ∧ vp_in ((nI 3) + a1) n9 ∧ sh s7 a0 6 15 ∧ ∃ r10, rf s7 a0 0 r10 ∧ ∃ n11, sh s7 r10 10 n11 ∧ vp_in ((nI 3) + a1) n11 ∧ nw (wrI s7 r10 (((nI 3) + a1)).toNatClampNeg a2) (fun s12 =>
        Q (some (.int (gI s7 r8 (((nI 3) + a1)).toNatClampNeg))) s12))) ∧
      (¬ x6 ≠ (nI 0) →
        Q (some (.int (-1000001 : Int32))) s5)))) ∧
    (¬ a1 ≠ (nI 1) →
      cI E 134 [.int a1] s1 (fun x14 s13 =>
      cI E 92 [.int a2, .int (nI 1), .int x14] s13 (fun x16 s15 =>
      (x16 ≠ (nI 0) →
        sh s15 a0 6 15 ∧ cV E 94 [.ref a0] s15 (fun s17 =>
        sh s17 a0 6 15 ∧ ∃ r18, rf s17 a0 0 r18 ∧ ∃ n19, sh s17 r18 10 n19 ∧ vp_in ((nI 3) + a1) n19 ∧ sh s17 a0 6 15 ∧ ∃ r20, rf s17 a0 0 r20 ∧ ∃ n21, sh s17 r20 10 n21 ∧ vp_in ((nI 3) + a1) n21 ∧ nw (wrI s17 r20 (((nI 3) + a1)).toNatClampNeg a2) (fun s22 =>
        Q (some (.int (gI s17 r18 (((nI 3) + a1)).toNatClampNeg))) s22))) ∧
      (¬ x16 ≠ (nI 0) →
        Q (some (.int (-1000001 : Int32))) s15))))))) : wp E 135 0 [.ref a0, .int a1, .int a2] [] s Q := vc_ok E 135 [] Q 34 false 0 _ _ _ h
-- 136 CoatedBridgesModel.undo()I
theorem sg136_0 {E : AEnv} {a0 : Nat} {s : ASt} {Q : Option Value → ASt → Prop} (h :
  sh s a0 6 15 ∧ ((gI s a0 4) ≠ (nI 0) →
    sh s a0 6 15 ∧ sh s a0 6 15 ∧ nw (wrI s a0 4 ((gI s a0 4) - (nI 1))) (fun s1 =>
    sh s1 a0 6 15 ∧ ∃ r2, rf s1 a0 3 r2 ∧ sh s1 a0 6 15 ∧ sh s1 a0 6 15 ∧ ∃ r3, rf s1 a0 0 r3 ∧ cV E 93 [.ref r2, .int ((nI 184) * (gI s1 a0 4)), .ref r3, .int (nI 0)] s1 (fun s4 =>
    sh s4 a0 6 15 ∧ Q (some (.int (gI s4 a0 4))) s4))) ∧
  (¬ (gI s a0 4) ≠ (nI 0) →
    Q (some (.int (-1000002 : Int32))) s)) : wp E 136 0 [.ref a0] [] s Q := vc_ok E 136 [] Q 23 false 0 _ _ _ h
-- 137 CoatedBridgesModel.bridgeOf(II)I
theorem sg137_0 {E : AEnv} {a0 : Nat} {a1 : Int32} {a2 : Int32} {s : ASt} {Q : Option Value → ASt → Prop} (h :
  sh s a0 6 15 ∧ cI E 96 [.ref a0, .int a1] s (fun x2 s1 =>
  (x2 ≠ (nI 0) →
    (a2 = (nI 0) →
      sh s1 a0 6 15 ∧ cI E 97 [.ref a0, .int a1, .int a2] s1 (fun x22 s21 =>
      Q (some (.int x22)) s21)) ∧
    (¬ a2 = (nI 0) →
     (a2 = (nI 1) →
      sh s1 a0 6 15 ∧ cI E 97 [.ref a0, .int a1, .int a2] s1 (fun x20 s19 =>
      Q (some (.int x20)) s19)) ∧
    (¬ a2 = (nI 1) →
     (a2 = (nI 2) →
      sh s1 a0 6 15 ∧ cI E 97 [.ref a0, .int a1, .int a2] s1 (fun x18 s17 =>
      Q (some (.int x18)) s17)) ∧
    (¬ a2 = (nI 2) →
     (a2 = (nI 3) →
      sh s1 a0 6 15 ∧ cI E 97 [.ref a0, .int a1, .int a2] s1 (fun x16 s15 =>
      Q (some (.int x16)) s15)) ∧
    (¬ a2 = (nI 3) →
     (a2 = (nI 4) →
      sh s1 a0 6 15 ∧ cI E 105 [.ref a0, .int a1] s1 (fun x14 s13 =>
      Q (some (.int x14)) s13)) ∧
    (¬ a2 = (nI 4) →
     (a2 = (nI 5) →
      sh s1 a0 6 15 ∧ cI E 97 [.ref a0, .int a1, .int a2] s1 (fun x12 s11 =>
      Q (some (.int x12)) s11)) ∧
    (¬ a2 = (nI 5) →
     (a2 = (nI 6) →
      sh s1 a0 6 15 ∧ cI E 97 [.ref a0, .int a1, .int a2] s1 (fun x10 s9 =>
      Q (some (.int x10)) s9)) ∧
    (¬ a2 = (nI 6) →
     (a2 = (nI 7) →
      sh s1 a0 6 15 ∧ cI E 97 [.ref a0, .int a1, .int a2] s1 (fun x8 s7 =>
      Q (some (.int x8)) s7)) ∧
    (¬ a2 = (nI 7) →
     (a2 = (nI 8) →
      sh s1 a0 6 15 ∧ cI E 104 [.ref a0, .int a1] s1 (fun x4 s3 =>
      (x4 = (nI 0) →
        Q (some (.int (nI 0))) s3) ∧
      (¬ x4 = (nI 0) →
        sh s3 a0 6 15 ∧ cI E 107 [.ref a0, .int a1] s3 (fun x6 s5 =>
        (x6 = (nI 0) →
          Q (some (.int (nI 0))) s5) ∧
        (¬ x6 = (nI 0) →
          Q (some (.int (nI 1))) s5))))) ∧
    (¬ a2 = (nI 8) →
     Q (some (.int (-1000001 : Int32))) s1)))))))))) ∧
  (¬ x2 ≠ (nI 0) →
    Q (some (.int (-1000001 : Int32))) s1))) : wp E 137 0 [.ref a0, .int a1, .int a2] [] s Q := vc_ok E 137 [] Q 18 false 0 _ _ _ h
-- 138 CoatedBridgesModel.openAt(I)I
theorem sg138_0 {E : AEnv} {a0 : Nat} {a1 : Int32} {s : ASt} {Q : Option Value → ASt → Prop} (h :
  wp E 138 4 [.ref a0, .int a1, .int (nI 0), .int (nI 0)] [] s Q) : wp E 138 0 [.ref a0, .int a1] [] s Q := vc_ok E 138 [4] Q 6 false 0 _ _ _ h
theorem sg138_4 {E : AEnv} {a0 : Nat} {a1 : Int32} {a2 : Int32} {a3 : Int32} {s : ASt} {Q : Option Value → ASt → Prop} (h :
  sh s a0 6 15 ∧ ∃ r1, rf s a0 0 r1 ∧ ∃ n2, sh s r1 10 n2 ∧ vp_in (nI 2) n2 ∧ ((gI s r1 2) ≤ a3 →
    Q (some (.int a2)) s) ∧
  (¬ (gI s r1 2) ≤ a3 →
    sh s a0 6 15 ∧ cI E 104 [.ref a0, .int a3] s (fun x4 s3 =>
    (x4 = (nI 0) →
      wp E 138 4 [.ref a0, .int a1, .int (a2 + (nI 0)), .int (a3 + (nI 1))] [] s3 Q) ∧
    (¬ x4 = (nI 0) →
      sh s3 a0 6 15 ∧ cI E 97 [.ref a0, .int a3, .int (nI 0)] s3 (fun x6 s5 =>
      (x6 = a1 →
        wp E 138 4 [.ref a0, .int a1, .int (a2 + (nI 1)), .int (a3 + (nI 1))] [] s5 Q) ∧
      (¬ x6 = a1 →
        sh s5 a0 6 15 ∧ cI E 97 [.ref a0, .int a3, .int (nI 1)] s5 (fun x8 s7 =>
        (x8 ≠ a1 →
          wp E 138 4 [.ref a0, .int a1, .int (a2 + (nI 0)), .int (a3 + (nI 1))] [] s7 Q) ∧
        (¬ x8 ≠ a1 →
          wp E 138 4 [.ref a0, .int a1, .int (a2 + (nI 1)), .int (a3 + (nI 1))] [] s7 Q)))))))) : wp E 138 4 [.ref a0, .int a1, .int a2, .int a3] [] s Q := vc_ok E 138 [4] Q 31 false 4 _ _ _ h
-- 139 CoatedBridgesModel.fewestTo(I)I
theorem sg139_0 {E : AEnv} {a0 : Nat} {a1 : Int32} {s : ASt} {Q : Option Value → ASt → Prop} (h :
  wp E 139 4 [.ref a0, .int a1, .int (nI 1), .int (nI 0)] [] s Q) : wp E 139 0 [.ref a0, .int a1] [] s Q := vc_ok E 139 [4, 24] Q 6 false 0 _ _ _ h
theorem sg139_4 {E : AEnv} {a0 : Nat} {a1 : Int32} {a2 : Int32} {a3 : Int32} {s : ASt} {Q : Option Value → ASt → Prop} (h :
  (((a2 >>> (a1 &&& 31)) &&& (nI 1)) ≠ (nI 0) →
    (((a2 >>> (a1 &&& 31)) &&& (nI 1)) ≠ (nI 1) →
      Q (some (.int (-1000004 : Int32))) s) ∧
    (¬ ((a2 >>> (a1 &&& 31)) &&& (nI 1)) ≠ (nI 1) →
      Q (some (.int a3)) s)) ∧
  (¬ ((a2 >>> (a1 &&& 31)) &&& (nI 1)) ≠ (nI 0) →
    ((nI 8) ≤ a3 →
      (((a2 >>> (a1 &&& 31)) &&& (nI 1)) ≠ (nI 1) →
        Q (some (.int (-1000004 : Int32))) s) ∧
      (¬ ((a2 >>> (a1 &&& 31)) &&& (nI 1)) ≠ (nI 1) →
        Q (some (.int a3)) s)) ∧
    (¬ (nI 8) ≤ a3 →
      wp E 139 24 [.ref a0, .int a1, .int a2, .int a3, .int a2, .int (nI 0)] [] s Q))) : wp E 139 4 [.ref a0, .int a1, .int a2, .int a3] [] s Q := vc_ok E 139 [4, 24] Q 20 false 4 _ _ _ h
theorem sg139_24 {E : AEnv} {a0 : Nat} {a1 : Int32} {a2 : Int32} {a3 : Int32} {a4 : Int32} {a5 : Int32} {s : ASt} {Q : Option Value → ASt → Prop} (h :
  sh s a0 6 15 ∧ ∃ r1, rf s a0 0 r1 ∧ ∃ n2, sh s r1 10 n2 ∧ vp_in (nI 2) n2 ∧ ((gI s r1 2) ≤ a5 →
    wp E 139 4 [.ref a0, .int a1, .int a4, .int (a3 + (nI 1))] [] s Q) ∧
  (¬ (gI s r1 2) ≤ a5 →
    sh s a0 6 15 ∧ cI E 97 [.ref a0, .int a5, .int (nI 0)] s (fun x4 s3 =>
    sh s3 a0 6 15 ∧ cI E 97 [.ref a0, .int a5, .int (nI 1)] s3 (fun x6 s5 =>
    sh s5 a0 6 15 ∧ cI E 104 [.ref a0, .int a5] s5 (fun x8 s7 =>
    (x8 = (nI 0) →
      wp E 139 24 [.ref a0, .int a1, .int a2, .int a3, .int (a4 ||| (nI 0)), .int (a5 + (nI 1))] [] s7 Q) ∧
    (¬ x8 = (nI 0) →
      ((a2 &&& (((nI 1) <<< (x4 &&& 31)) ||| ((nI 1) <<< (x6 &&& 31)))) = (nI 0) →
        wp E 139 24 [.ref a0, .int a1, .int a2, .int a3, .int (a4 ||| (nI 0)), .int (a5 + (nI 1))] [] s7 Q) ∧
      (¬ (a2 &&& (((nI 1) <<< (x4 &&& 31)) ||| ((nI 1) <<< (x6 &&& 31)))) = (nI 0) →
        wp E 139 24 [.ref a0, .int a1, .int a2, .int a3, .int (a4 ||| (((nI 1) <<< (x4 &&& 31)) ||| ((nI 1) <<< (x6 &&& 31)))), .int (a5 + (nI 1))] [] s7 Q))))))) : wp E 139 24 [.ref a0, .int a1, .int a2, .int a3, .int a4, .int a5] [] s Q := vc_ok E 139 [4, 24] Q 37 false 24 _ _ _ h
-- 140 CoatedBridgesModel.islandOf(II)I
theorem sg140_0 {E : AEnv} {a0 : Nat} {a1 : Int32} {a2 : Int32} {s : ASt} {Q : Option Value → ASt → Prop} (h :
  sh s a0 6 15 ∧ cI E 95 [.ref a0, .int a1] s (fun x2 s1 =>
  (x2 ≠ (nI 0) →
    (a2 = (nI 0) →
      sh s1 a0 6 15 ∧ cI E 106 [.ref a0, .int (nI 0), .int (-1000004 : Int32)] s1 (fun x18 s17 =>
      Q (some (.int ((x18 >>> (a1 &&& 31)) &&& (nI 1)))) s17)) ∧
    (¬ a2 = (nI 0) →
     (a2 = (nI 1) →
      sh s1 a0 6 15 ∧ cI E 100 [.ref a0, .int a1, .int (nI 1)] s1 (fun x16 s15 =>
      Q (some (.int x16)) s15)) ∧
    (¬ a2 = (nI 1) →
     (a2 = (nI 2) →
      sh s1 a0 6 15 ∧ cI E 100 [.ref a0, .int a1, .int (nI 0)] s1 (fun x14 s13 =>
      Q (some (.int x14)) s13)) ∧
    (¬ a2 = (nI 2) →
     (a2 = (nI 3) →
      sh s1 a0 6 15 ∧ cI E 100 [.ref a0, .int a1, .int (nI 2)] s1 (fun x12 s11 =>
      Q (some (.int x12)) s11)) ∧
    (¬ a2 = (nI 3) →
     (a2 = (nI 4) →
      sh s1 a0 6 15 ∧ cI E 100 [.ref a0, .int a1, .int (nI 3)] s1 (fun x10 s9 =>
      Q (some (.int x10)) s9)) ∧
    (¬ a2 = (nI 4) →
     (a2 = (nI 5) →
      sh s1 a0 6 15 ∧ cI E 100 [.ref a0, .int a1, .int (nI 4)] s1 (fun x8 s7 =>
      Q (some (.int x8)) s7)) ∧
    (¬ a2 = (nI 5) →
     (a2 = (nI 6) →
      sh s1 a0 6 15 ∧ cI E 138 [.ref a0, .int a1] s1 (fun x6 s5 =>
      Q (some (.int x6)) s5)) ∧
    (¬ a2 = (nI 6) →
     (a2 = (nI 7) →
      sh s1 a0 6 15 ∧ cI E 139 [.ref a0, .int a1] s1 (fun x4 s3 =>
      Q (some (.int x4)) s3)) ∧
    (¬ a2 = (nI 7) →
     Q (some (.int (-1000001 : Int32))) s1))))))))) ∧
  (¬ x2 ≠ (nI 0) →
    Q (some (.int (-1000001 : Int32))) s1))) : wp E 140 0 [.ref a0, .int a1, .int a2] [] s Q := vc_ok E 140 [] Q 16 false 0 _ _ _ h
-- 141 CoatedBridgesModel.reach(I)I
theorem sg141_0 {E : AEnv} {a0 : Nat} {a1 : Int32} {s : ASt} {Q : Option Value → ASt → Prop} (h :
  sh s a0 6 15 ∧ cI E 95 [.ref a0, .int a1] s (fun x2 s1 =>
  (x2 = (nI 0) →
    Q (some (.int (-1000001 : Int32))) s1) ∧
  (¬ x2 = (nI 0) →
    sh s1 a0 6 15 ∧ cI E 106 [.ref a0, .int a1, .int (-1000004 : Int32)] s1 (fun x4 s3 =>
    Q (some (.int x4)) s3)))) : wp E 141 0 [.ref a0, .int a1] [] s Q := vc_ok E 141 [] Q 11 false 0 _ _ _ h
-- 142 CoatedBridgesModel.book(II)I
theorem sg142_0 {E : AEnv} {a0 : Nat} {a1 : Int32} {a2 : Int32} {s : ASt} {Q : Option Value → ASt → Prop} (h :
  (a1 < (nI 0) →
    Q (some (.int (-1000001 : Int32))) s) ∧
  (¬ a1 < (nI 0) →
    cI E 92 [.int a2, .int (nI 0), .int (nI 1)] s (fun x2 s1 =>
    (x2 ≠ (nI 0) →
      sh s1 a0 6 15 ∧ ∃ r3, rf s1 a0 0 r3 ∧ ∃ n4, sh s1 r3 10 n4 ∧ vp_in (nI 15) n4 ∧ ((gI s1 r3 15) ≤ a1 →
        Q (some (.int (-1000004 : Int32))) s1) ∧
      (¬ (gI s1 r3 15) ≤ a1 →
        sh s1 a0 6 15 ∧ ∃ r5, rf s1 a0 0 r5 ∧ ∃ n6, sh s1 r5 10 n6 ∧ vp_in (((nI 16) + ((nI 2) * a1)) + a2) n6 ∧ Q (some (.int (gI s1 r5 ((((nI 16) + ((nI 2) * a1)) + a2)).toNatClampNeg))) s1)) ∧
    (¬ x2 ≠ (nI 0) →
      Q (some (.int (-1000001 : Int32))) s1)))) : wp E 142 0 [.ref a0, .int a1, .int a2] [] s Q := vc_ok E 142 [] Q 26 false 0 _ _ _ h
-- 143 CoatedBridgesModel.lowest(I)I
theorem sg143_0 {E : AEnv} {a0 : Nat} {a1 : Int32} {s : ASt} {Q : Option Value → ASt → Prop} (h :
  wp E 143 2 [.ref a0, .int a1, .int (nI 0)] [] s Q) : wp E 143 0 [.ref a0, .int a1] [] s Q := vc_ok E 143 [2] Q 4 false 0 _ _ _ h
theorem sg143_2 {E : AEnv} {a0 : Nat} {a1 : Int32} {a2 : Int32} {s : ASt} {Q : Option Value → ASt → Prop} (h :
  (((a1 >>> (a2 &&& 31)) &&& (nI 1)) ≠ (nI 0) →
    Q (some (.int a2)) s) ∧
  (¬ ((a1 >>> (a2 &&& 31)) &&& (nI 1)) ≠ (nI 0) →
    wp E 143 2 [.ref a0, .int a1, .int (a2 + (nI 1))] [] s Q)) : wp E 143 2 [.ref a0, .int a1, .int a2] [] s Q := vc_ok E 143 [2] Q 10 false 2 _ _ _ h
-- 144 CoatedBridgesModel.why(II)I
theorem sg144_0 {E : AEnv} {a0 : Nat} {a1 : Int32} {a2 : Int32} {s : ASt} {Q : Option Value → ASt → Prop} (h :
  sh s a0 6 15 ∧ cI E 96 [.ref a0, .int a1] s (fun x2 s1 =>
  (x2 = (nI 0) →
    Q (some (.int (-1000001 : Int32))) s1) ∧
  (¬ x2 = (nI 0) →
    cI E 92 [.int a2, .int (nI 0), .int (nI 1)] s1 (fun x4 s3 =>
    (x4 ≠ (nI 0) →
      sh s3 a0 6 15 ∧ cI E 109 [.ref a0, .int a1] s3 (fun x6 s5 =>
      (a2 ≠ (nI 0) →
        (x6 ≠ (nI 4) →
          Q (some (.int (-1000004 : Int32))) s5) ∧
        (¬ x6 ≠ (nI 4) →
          sh s5 a0 6 15 ∧ cI E 107 [.ref a0, .int a1] s5 (fun x8 s7 =>
          sh s7 a0 6 15 ∧ cI E 143 [.ref a0, .int x8] s7 (fun x10 s9 =>
          Q (some (.int x10)) s9)))) ∧
      (¬ a2 ≠ (nI 0) →
        Q (some (.int x6)) s5))) ∧
    (¬ x4 ≠ (nI 0) →
      Q (some (.int (-1000001 : Int32))) s3))))) : wp E 144 0 [.ref a0, .int a1, .int a2] [] s Q := vc_ok E 144 [] Q 26 false 0 _ _ _ h
-- 145 CoatedBridgesModel.best()I
theorem sg145_0 {E : AEnv} {a0 : Nat} {s : ASt} {Q : Option Value → ASt → Prop} (h :
  sh s a0 6 15 ∧ cI E 110 [.ref a0] s (fun x2 s1 =>
  Q (some (.int x2)) s1)) : wp E 145 0 [.ref a0] [] s Q := vc_ok E 145 [] Q 4 false 0 _ _ _ h
-- 146 CoatedBridgesModel.rustsIn(I)I
theorem sg146_0 {E : AEnv} {a0 : Nat} {a1 : Int32} {s : ASt} {Q : Option Value → ASt → Prop} (h :
  sh s a0 6 15 ∧ cI E 96 [.ref a0, .int a1] s (fun x2 s1 =>
  (x2 ≠ (nI 0) →
    sh s1 a0 6 15 ∧ cI E 103 [.ref a0, .int a1] s1 (fun x4 s3 =>
    (x4 = (nI 0) →
      sh s3 a0 6 15 ∧ cI E 97 [.ref a0, .int a1, .int (nI 3)] s3 (fun x6 s5 =>
      sh s5 a0 6 15 ∧ cI E 97 [.ref a0, .int a1, .int (nI 2)] s5 (fun x8 s7 =>
      sh s7 a0 6 15 ∧ cI E 97 [.ref a0, .int a1, .int (nI 2)] s7 (fun x10 s9 =>
      ¬ x10 = 0 ∧ Q (some (.int (((x6 + x8) - (nI 1)) / x10))) s9)))) ∧
    (¬ x4 = (nI 0) →
      Q (some (.int (-1000002 : Int32))) s3))) ∧
  (¬ x2 ≠ (nI 0) →
    Q (some (.int (-1000001 : Int32))) s1))) : wp E 146 0 [.ref a0, .int a1] [] s Q := vc_ok E 146 [] Q 26 false 0 _ _ _ h
-- 147 CoatedBridgesModel.paintedIn(I)I
theorem sg147_0 {E : AEnv} {a0 : Nat} {a1 : Int32} {s : ASt} {Q : Option Value → ASt → Prop} (h :
  sh s a0 6 15 ∧ cI E 96 [.ref a0, .int a1] s (fun x2 s1 =>
  (x2 ≠ (nI 0) →
    sh s1 a0 6 15 ∧ cI E 103 [.ref a0, .int a1] s1 (fun x4 s3 =>
    (x4 ≠ (nI 0) →
      sh s3 a0 6 15 ∧ ∃ r5, rf s3 a0 0 r5 ∧ sh s3 a0 6 15 ∧ ∃ r6, rf s3 a0 1 r6 ∧ cV E 93 [.ref r5, .int (nI 0), .ref r6, .int (nI 0)] s3 (fun s7 =>
      wp E 147 37 [.ref a0, .int a1, .int (nI 0)] [] s7 Q)) ∧
    (¬ x4 ≠ (nI 0) →
      Q (some (.int (-1000002 : Int32))) s3))) ∧
  (¬ x2 ≠ (nI 0) →
    Q (some (.int (-1000001 : Int32))) s1))) : wp E 147 0 [.ref a0, .int a1] [] s Q := vc_ok E 147 [37] Q 19 false 0 _ _ _ h
theorem sg147_37 {E : AEnv} {a0 : Nat} {a1 : Int32} {a2 : Int32} {s : ASt} {Q : Option Value → ASt → Prop} (h :
  ((nI 200) < a2 →
    sh s a0 6 15 ∧ ∃ r1, rf s a0 1 r1 ∧ sh s a0 6 15 ∧ ∃ r2, rf s a0 0 r2 ∧ cV E 93 [.ref r1, .int (nI 0), .ref r2, .int (nI 0)] s (fun s3 =>
    (a2 ≤ (nI 200) →
      Q (some (.int a2)) s3) ∧
    (¬ a2 ≤ (nI 200) →
      Q (some (.int (-1000004 : Int32))) s3))) ∧
  (¬ (nI 200) < a2 →
    sh s a0 6 15 ∧ cI E 103 [.ref a0, .int a1] s (fun x5 s4 =>
    (x5 = (nI 0) →
      sh s4 a0 6 15 ∧ ∃ r6, rf s4 a0 1 r6 ∧ sh s4 a0 6 15 ∧ ∃ r7, rf s4 a0 0 r7 ∧ cV E 93 [.ref r6, .int (nI 0), .ref r7, .int (nI 0)] s4 (fun s8 =>
      (a2 ≤ (nI 200) →
        Q (some (.int a2)) s8) ∧
      (¬ a2 ≤ (nI 200) →
        Q (some (.int (-1000004 : Int32))) s8))) ∧
    (¬ x5 = (nI 0) →
      sh s4 a0 6 15 ∧ cI E 120 [.ref a0] s4 (fun x10 s9 =>
      wp E 147 37 [.ref a0, .int a1, .int (a2 + (nI 1))] [] s9 Q))))) : wp E 147 37 [.ref a0, .int a1, .int a2] [] s Q := vc_ok E 147 [37] Q 21 false 37 _ _ _ h
-- 148 CoatedBridgesModel.aloneIn()I
theorem sg148_0 {E : AEnv} {a0 : Nat} {s : ASt} {Q : Option Value → ASt → Prop} (h :
  sh s a0 6 15 ∧ ∃ r1, rf s a0 0 r1 ∧ sh s a0 6 15 ∧ ∃ r2, rf s a0 1 r2 ∧ cV E 93 [.ref r1, .int (nI 0), .ref r2, .int (nI 0)] s (fun s3 =>
  sh s3 a0 6 15 ∧ cI E 106 [.ref a0, .int (nI 0), .int (-1000004 : Int32)] s3 (fun x5 s4 =>
  wp E 148 23 [.ref a0, .int x5, .int (nI 0)] [] s4 Q))) : wp E 148 0 [.ref a0] [] s Q := vc_ok E 148 [23] Q 16 false 0 _ _ _ h
theorem sg148_23 {E : AEnv} {a0 : Nat} {a1 : Int32} {a2 : Int32} {s : ASt} {Q : Option Value → ASt → Prop} (h :
  ((nI 200) < a2 →
    sh s a0 6 15 ∧ ∃ r1, rf s a0 1 r1 ∧ sh s a0 6 15 ∧ ∃ r2, rf s a0 0 r2 ∧ cV E 93 [.ref r1, .int (nI 0), .ref r2, .int (nI 0)] s (fun s3 =>
    (a2 ≤ (nI 200) →
      Q (some (.int a2)) s3) ∧
    (¬ a2 ≤ (nI 200) →
      Q (some (.int (-1000004 : Int32))) s3))) ∧
  (¬ (nI 200) < a2 →
    sh s a0 6 15 ∧ cI E 106 [.ref a0, .int (nI 0), .int (-1000004 : Int32)] s (fun x5 s4 =>
    ((a1 &&& (x5 ^^^ (-1 : Int32))) ≠ (nI 0) →
      sh s4 a0 6 15 ∧ ∃ r6, rf s4 a0 1 r6 ∧ sh s4 a0 6 15 ∧ ∃ r7, rf s4 a0 0 r7 ∧ cV E 93 [.ref r6, .int (nI 0), .ref r7, .int (nI 0)] s4 (fun s8 =>
      (a2 ≤ (nI 200) →
        Q (some (.int a2)) s8) ∧
      (¬ a2 ≤ (nI 200) →
        Q (some (.int (-1000004 : Int32))) s8))) ∧
    (¬ (a1 &&& (x5 ^^^ (-1 : Int32))) ≠ (nI 0) →
      sh s4 a0 6 15 ∧ cI E 120 [.ref a0] s4 (fun x10 s9 =>
      wp E 148 23 [.ref a0, .int a1, .int (a2 + (nI 1))] [] s9 Q))))) : wp E 148 23 [.ref a0, .int a1, .int a2] [] s Q := vc_ok E 148 [23] Q 26 false 23 _ _ _ h
-- 149 CoatedBridgesModel.ifDays(I)I
theorem sg149_0 {E : AEnv} {a0 : Nat} {a1 : Int32} {s : ASt} {Q : Option Value → ASt → Prop} (h :
  cI E 92 [.int a1, .int (nI 1), .int (nI 99)] s (fun x2 s1 =>
  (x2 ≠ (nI 0) →
    sh s1 a0 6 15 ∧ ∃ r3, rf s1 a0 0 r3 ∧ sh s1 a0 6 15 ∧ ∃ r4, rf s1 a0 1 r4 ∧ cV E 93 [.ref r3, .int (nI 0), .ref r4, .int (nI 0)] s1 (fun s5 =>
    sh s5 a0 6 15 ∧ cI E 121 [.ref a0, .int a1] s5 (fun x7 s6 =>
    sh s6 a0 6 15 ∧ ∃ r8, rf s6 a0 1 r8 ∧ sh s6 a0 6 15 ∧ ∃ r9, rf s6 a0 0 r9 ∧ cV E 93 [.ref r8, .int (nI 0), .ref r9, .int (nI 0)] s6 (fun s10 =>
    Q (some (.int x7)) s10)))) ∧
  (¬ x2 ≠ (nI 0) →
    Q (some (.int (-1000001 : Int32))) s1))) : wp E 149 0 [.ref a0, .int a1] [] s Q := vc_ok E 149 [] Q 26 false 0 _ _ _ h
-- 150 CoatedBridgesModel.mean()I
theorem sg150_0 {E : AEnv} {a0 : Nat} {s : ASt} {Q : Option Value → ASt → Prop} (h :
  wp E 150 4 [.ref a0, .int (nI 0), .int (nI 0)] [] s Q) : wp E 150 0 [.ref a0] [] s Q := vc_ok E 150 [4] Q 6 false 0 _ _ _ h
theorem sg150_4 {E : AEnv} {a0 : Nat} {a1 : Int32} {a2 : Int32} {s : ASt} {Q : Option Value → ASt → Prop} (h :
  sh s a0 6 15 ∧ ∃ r1, rf s a0 0 r1 ∧ ∃ n2, sh s r1 10 n2 ∧ vp_in (nI 2) n2 ∧ ((gI s r1 2) ≤ a2 →
    sh s a0 6 15 ∧ ∃ r3, rf s a0 0 r3 ∧ ∃ n4, sh s r3 10 n4 ∧ vp_in (nI 2) n4 ∧ ((gI s r3 2) ≠ (nI 0) →
      sh s a0 6 15 ∧ ∃ r5, rf s a0 0 r5 ∧ ∃ n6, sh s r5 10 n6 ∧ vp_in (nI 2) n6 ∧ ((FP.fdiv (FP.i2f a1) (FP.i2f (gI s r5 2))) &&& 0x7fffffff ≤ 0x7f800000) ∧ cI E 168 [.float (FP.fdiv (FP.i2f a1) (FP.i2f (gI s r5 2)))] s (fun x8 s7 =>
      Q (some (.int x8)) s7)) ∧
    (¬ (gI s r3 2) ≠ (nI 0) →
      Q (some (.int (-1000004 : Int32))) s)) ∧
  (¬ (gI s r1 2) ≤ a2 →
    sh s a0 6 15 ∧ cI E 97 [.ref a0, .int a2, .int (nI 3)] s (fun x10 s9 =>
    wp E 150 4 [.ref a0, .int (a1 + x10), .int (a2 + (nI 1))] [] s9 Q))) : wp E 150 4 [.ref a0, .int a1, .int a2] [] s Q := vc_ok E 150 [4] Q 22 false 4 _ _ _ h
-- 151 CoatedBridgesModel.setOf(I)I
theorem sg151_0 {E : AEnv} {a0 : Nat} {a1 : Int32} {s : ASt} {Q : Option Value → ASt → Prop} (h :
  wp E 151 4 [.ref a0, .int a1, .int (nI 0), .int (nI 0)] [] s Q) : wp E 151 0 [.ref a0, .int a1] [] s Q := vc_ok E 151 [4] Q 6 false 0 _ _ _ h
theorem sg151_4 {E : AEnv} {a0 : Nat} {a1 : Int32} {a2 : Int32} {a3 : Int32} {s : ASt} {Q : Option Value → ASt → Prop} (h :
  sh s a0 6 15 ∧ ∃ r1, rf s a0 0 r1 ∧ ∃ n2, sh s r1 10 n2 ∧ vp_in (nI 2) n2 ∧ ((gI s r1 2) ≤ a3 →
    Q (some (.int a2)) s) ∧
  (¬ (gI s r1 2) ≤ a3 →
    sh s a0 6 15 ∧ cI E 105 [.ref a0, .int a3] s (fun x4 s3 =>
    (x4 ≠ a1 →
      wp E 151 4 [.ref a0, .int a1, .int (a2 ||| (nI 0)), .int (a3 + (nI 1))] [] s3 Q) ∧
    (¬ x4 ≠ a1 →
      wp E 151 4 [.ref a0, .int a1, .int (a2 ||| ((nI 1) <<< (a3 &&& 31))), .int (a3 + (nI 1))] [] s3 Q)))) : wp E 151 4 [.ref a0, .int a1, .int a2, .int a3] [] s Q := vc_ok E 151 [4] Q 22 false 4 _ _ _ h
-- 152 CoatedBridgesModel.neededOnes()I
theorem sg152_0 {E : AEnv} {a0 : Nat} {s : ASt} {Q : Option Value → ASt → Prop} (h :
  wp E 152 4 [.ref a0, .int (nI 0), .int (nI 0)] [] s Q) : wp E 152 0 [.ref a0] [] s Q := vc_ok E 152 [4] Q 6 false 0 _ _ _ h
theorem sg152_4 {E : AEnv} {a0 : Nat} {a1 : Int32} {a2 : Int32} {s : ASt} {Q : Option Value → ASt → Prop} (h :
  sh s a0 6 15 ∧ ∃ r1, rf s a0 0 r1 ∧ ∃ n2, sh s r1 10 n2 ∧ vp_in (nI 2) n2 ∧ ((gI s r1 2) ≤ a2 →
    Q (some (.int a1)) s) ∧
  (¬ (gI s r1 2) ≤ a2 →
    sh s a0 6 15 ∧ cI E 104 [.ref a0, .int a2] s (fun x4 s3 =>
    (x4 = (nI 0) →
      wp E 152 4 [.ref a0, .int (a1 ||| (nI 0)), .int (a2 + (nI 1))] [] s3 Q) ∧
    (¬ x4 = (nI 0) →
      sh s3 a0 6 15 ∧ cI E 107 [.ref a0, .int a2] s3 (fun x6 s5 =>
      (x6 = (nI 0) →
        wp E 152 4 [.ref a0, .int (a1 ||| (nI 0)), .int (a2 + (nI 1))] [] s5 Q) ∧
      (¬ x6 = (nI 0) →
        wp E 152 4 [.ref a0, .int (a1 ||| ((nI 1) <<< (a2 &&& 31))), .int (a2 + (nI 1))] [] s5 Q)))))) : wp E 152 4 [.ref a0, .int a1, .int a2] [] s Q := vc_ok E 152 [4] Q 25 false 4 _ _ _ h
-- 153 CoatedBridgesModel.groups()I
theorem sg153_0 {E : AEnv} {a0 : Nat} {s : ASt} {Q : Option Value → ASt → Prop} (h :
  wp E 153 4 [.ref a0, .int (nI 0), .int (nI 0)] [] s Q) : wp E 153 0 [.ref a0] [] s Q := vc_ok E 153 [4] Q 6 false 0 _ _ _ h
theorem sg153_4 {E : AEnv} {a0 : Nat} {a1 : Int32} {a2 : Int32} {s : ASt} {Q : Option Value → ASt → Prop} (h :
  sh s a0 6 15 ∧ ∃ r1, rf s a0 0 r1 ∧ ∃ n2, sh s r1 10 n2 ∧ vp_in (nI 1) n2 ∧ ((gI s r1 1) ≤ a2 →
    Q (some (.int a1)) s) ∧
  (¬ (gI s r1 1) ≤ a2 →
    sh s a0 6 15 ∧ cI E 106 [.ref a0, .int a2, .int (-1000004 : Int32)] s (fun x4 s3 =>
    sh s3 a0 6 15 ∧ cI E 143 [.ref a0, .int x4] s3 (fun x6 s5 =>
    (x6 ≠ a2 →
      wp E 153 4 [.ref a0, .int (a1 + (nI 0)), .int (a2 + (nI 1))] [] s5 Q) ∧
    (¬ x6 ≠ a2 →
      wp E 153 4 [.ref a0, .int (a1 + (nI 1)), .int (a2 + (nI 1))] [] s5 Q))))) : wp E 153 4 [.ref a0, .int a1, .int a2] [] s Q := vc_ok E 153 [4] Q 23 false 4 _ _ _ h
end
section
-- 154 CoatedBridgesModel.ofIslands(IZ)I
theorem sg154_0 {E : AEnv} {a0 : Nat} {a1 : Int32} {a2 : Int32} {s : ASt} {Q : Option Value → ASt → Prop} (h :
  wp E 154 5 [.ref a0, .int a1, .int a2, .int (nI 0), .int (nI 0)] [] s Q) : wp E 154 0 [.ref a0, .int a1, .int a2] [] s Q := vc_ok E 154 [5] Q 6 false 0 _ _ _ h
theorem sg154_5 {E : AEnv} {a0 : Nat} {a1 : Int32} {a2 : Int32} {a3 : Int32} {a4 : Int32} {s : ASt} {Q : Option Value → ASt → Prop} (h :
  sh s a0 6 15 ∧ ∃ r1, rf s a0 0 r1 ∧ ∃ n2, sh s r1 10 n2 ∧ vp_in (nI 1) n2 ∧ ((gI s r1 1) ≤ a4 →
    Q (some (.int a3)) s) ∧
  (¬ (gI s r1 1) ≤ a4 →
    sh s a0 6 15 ∧ cI E 100 [.ref a0, .int a4, .int a1] s (fun x4 s3 =>
    (a2 ≠ (nI 0) →
      (x4 ≤ a3 →
        wp E 154 5 [.ref a0, .int a1, .int a2, .int a3, .int (a4 + (nI 1))] [] s3 Q) ∧
      (¬ x4 ≤ a3 →
        wp E 154 5 [.ref a0, .int a1, .int a2, .int x4, .int (a4 + (nI 1))] [] s3 Q)) ∧
    (¬ a2 ≠ (nI 0) →
      wp E 154 5 [.ref a0, .int a1, .int a2, .int (a3 + x4), .int (a4 + (nI 1))] [] s3 Q)))) : wp E 154 5 [.ref a0, .int a1, .int a2, .int a3, .int a4] [] s Q := vc_ok E 154 [5] Q 23 false 5 _ _ _ h
-- 155 CoatedBridgesModel.count(I)I
theorem sg155_0 {E : AEnv} {a0 : Nat} {a1 : Int32} {s : ASt} {Q : Option Value → ASt → Prop} (h :
  (a1 = (nI 0) →
    sh s a0 6 15 ∧ ∃ r45, rf s a0 0 r45 ∧ ∃ n46, sh s r45 10 n46 ∧ vp_in a1 n46 ∧ Q (some (.int (gI s r45 (a1).toNatClampNeg))) s) ∧
  (¬ a1 = (nI 0) →
   (a1 = (nI 1) →
    sh s a0 6 15 ∧ ∃ r43, rf s a0 0 r43 ∧ ∃ n44, sh s r43 10 n44 ∧ vp_in a1 n44 ∧ Q (some (.int (gI s r43 (a1).toNatClampNeg))) s) ∧
  (¬ a1 = (nI 1) →
   (a1 = (nI 2) →
    sh s a0 6 15 ∧ ∃ r41, rf s a0 0 r41 ∧ ∃ n42, sh s r41 10 n42 ∧ vp_in a1 n42 ∧ Q (some (.int (gI s r41 (a1).toNatClampNeg))) s) ∧
  (¬ a1 = (nI 2) →
   (a1 = (nI 3) →
    sh s a0 6 15 ∧ cI E 106 [.ref a0, .int (nI 0), .int (-1000004 : Int32)] s (fun x40 s39 =>
    Q (some (.int x40)) s39)) ∧
  (¬ a1 = (nI 3) →
   (a1 = (nI 4) →
    sh s a0 6 15 ∧ cI E 151 [.ref a0, .int (a1 - (nI 4))] s (fun x38 s37 =>
    Q (some (.int x38)) s37)) ∧
  (¬ a1 = (nI 4) →
   (a1 = (nI 5) →
    sh s a0 6 15 ∧ cI E 151 [.ref a0, .int (a1 - (nI 4))] s (fun x36 s35 =>
    Q (some (.int x36)) s35)) ∧
  (¬ a1 = (nI 5) →
   (a1 = (nI 6) →
    sh s a0 6 15 ∧ cI E 151 [.ref a0, .int (a1 - (nI 4))] s (fun x34 s33 =>
    Q (some (.int x34)) s33)) ∧
  (¬ a1 = (nI 6) →
   (a1 = (nI 7) →
    sh s a0 6 15 ∧ cI E 152 [.ref a0] s (fun x32 s31 =>
    Q (some (.int x32)) s31)) ∧
  (¬ a1 = (nI 7) →
   (a1 = (nI 8) →
    sh s a0 6 15 ∧ cI E 153 [.ref a0] s (fun x30 s29 =>
    Q (some (.int x30)) s29)) ∧
  (¬ a1 = (nI 8) →
   (a1 = (nI 9) →
    sh s a0 6 15 ∧ cI E 153 [.ref a0] s (fun x28 s27 =>
    Q (some (.int x28)) s27)) ∧
  (¬ a1 = (nI 9) →
   (a1 = (nI 10) →
    sh s a0 6 15 ∧ ∃ r19, rf s a0 0 r19 ∧ ∃ n20, sh s r19 10 n20 ∧ vp_in (nI 3) n20 ∧ sh s a0 6 15 ∧ cI E 108 [.ref a0] s (fun x22 s21 =>
    ((gI s r19 3) ≤ x22 →
      Q (some (.int (nI 0))) s21) ∧
    (¬ (gI s r19 3) ≤ x22 →
      sh s21 a0 6 15 ∧ ∃ r23, rf s21 a0 0 r23 ∧ ∃ n24, sh s21 r23 10 n24 ∧ vp_in (nI 3) n24 ∧ sh s21 a0 6 15 ∧ cI E 108 [.ref a0] s21 (fun x26 s25 =>
      Q (some (.int ((gI s21 r23 3) - x26))) s25)))) ∧
  (¬ a1 = (nI 10) →
   (a1 = (nI 11) →
    sh s a0 6 15 ∧ cI E 154 [.ref a0, .int (nI 2), .int (nI 0)] s (fun x18 s17 =>
    Q (some (.int x18)) s17)) ∧
  (¬ a1 = (nI 11) →
   (a1 = (nI 12) →
    sh s a0 6 15 ∧ cI E 154 [.ref a0, .int (nI 3), .int (nI 1)] s (fun x16 s15 =>
    Q (some (.int x16)) s15)) ∧
  (¬ a1 = (nI 12) →
   (a1 = (nI 13) →
    sh s a0 6 15 ∧ ∃ r13, rf s a0 0 r13 ∧ ∃ n14, sh s r13 10 n14 ∧ vp_in (((nI 11) + a1) - (nI 13)) n14 ∧ Q (some (.int (gI s r13 ((((nI 11) + a1) - (nI 13))).toNatClampNeg))) s) ∧
  (¬ a1 = (nI 13) →
   (a1 = (nI 14) →
    sh s a0 6 15 ∧ ∃ r11, rf s a0 0 r11 ∧ ∃ n12, sh s r11 10 n12 ∧ vp_in (((nI 11) + a1) - (nI 13)) n12 ∧ Q (some (.int (gI s r11 ((((nI 11) + a1) - (nI 13))).toNatClampNeg))) s) ∧
  (¬ a1 = (nI 14) →
   (a1 = (nI 15) →
    sh s a0 6 15 ∧ ∃ r9, rf s a0 0 r9 ∧ ∃ n10, sh s r9 10 n10 ∧ vp_in (((nI 11) + a1) - (nI 13)) n10 ∧ Q (some (.int (gI s r9 ((((nI 11) + a1) - (nI 13))).toNatClampNeg))) s) ∧
  (¬ a1 = (nI 15) →
   (a1 = (nI 16) →
    sh s a0 6 15 ∧ ∃ r7, rf s a0 0 r7 ∧ ∃ n8, sh s r7 10 n8 ∧ vp_in (((nI 11) + a1) - (nI 13)) n8 ∧ Q (some (.int (gI s r7 ((((nI 11) + a1) - (nI 13))).toNatClampNeg))) s) ∧
  (¬ a1 = (nI 16) →
   (a1 = (nI 17) →
    sh s a0 6 15 ∧ ∃ r5, rf s a0 0 r5 ∧ ∃ n6, sh s r5 10 n6 ∧ vp_in (((nI 11) + a1) - (nI 13)) n6 ∧ Q (some (.int (gI s r5 ((((nI 11) + a1) - (nI 13))).toNatClampNeg))) s) ∧
  (¬ a1 = (nI 17) →
   (a1 = (nI 18) →
    sh s a0 6 15 ∧ Q (some (.int (gI s a0 4))) s) ∧
  (¬ a1 = (nI 18) →
   (a1 = (nI 19) →
    sh s a0 6 15 ∧ Q (some (.int (gI s a0 6))) s) ∧
  (¬ a1 = (nI 19) →
   cI E 92 [.int a1, .int (nI 20), .int (nI 27)] s (fun x2 s1 =>
    (x2 = (nI 0) →
      Q (some (.int (-1000001 : Int32))) s1) ∧
    (¬ x2 = (nI 0) →
      sh s1 a0 6 15 ∧ ∃ r3, rf s1 a0 0 r3 ∧ ∃ n4, sh s1 r3 10 n4 ∧ vp_in (((nI 3) + a1) - (nI 20)) n4 ∧ Q (some (.int (gI s1 r3 ((((nI 3) + a1) - (nI 20))).toNatClampNeg))) s1))))))))))))))))))))))) : wp E 155 0 [.ref a0, .int a1] [] s Q := vc_ok E 155 [] Q 19 false 0 _ _ _ h
-- 156 CoatedBridgesModel.type(I)I
theorem sg156_0 {E : AEnv} {a0 : Nat} {a1 : Int32} {s : ASt} {Q : Option Value → ASt → Prop} (h :
  cI E 92 [.int a1, .int (nI 32), .int (nI 126)] s (fun x2 s1 =>
  (x2 ≠ (nI 0) →
    sh s1 a0 6 15 ∧ ((gI s1 a0 6) ≠ (nI 60) →
      sh s1 a0 6 15 ∧ ∃ r3, rf s1 a0 5 r3 ∧ sh s1 a0 6 15 ∧ ∃ n4, sh s1 r3 10 n4 ∧ vp_in (gI s1 a0 6) n4 ∧ nw (wrI s1 r3 ((gI s1 a0 6)).toNatClampNeg a1) (fun s5 =>
      sh s5 a0 6 15 ∧ sh s5 a0 6 15 ∧ nw (wrI s5 a0 6 ((gI s5 a0 6) + (nI 1))) (fun s6 =>
      sh s6 a0 6 15 ∧ Q (some (.int (gI s6 a0 6))) s6))) ∧
    (¬ (gI s1 a0 6) ≠ (nI 60) →
      Q (some (.int (-1000003 : Int32))) s1)) ∧
  (¬ x2 ≠ (nI 0) →
    Q (some (.int (-1000001 : Int32))) s1))) : wp E 156 0 [.ref a0, .int a1] [] s Q := vc_ok E 156 [] Q 25 false 0 _ _ _ h
-- 157 CoatedBridgesModel.clearText()I
theorem sg157_0 {E : AEnv} {a0 : Nat} {s : ASt} {Q : Option Value → ASt → Prop} (h :
  sh s a0 6 15 ∧ sh s a0 6 15 ∧ nw (wrI s a0 6 (nI 0)) (fun s1 =>
  Q (some (.int (gI s a0 6))) s1)) : wp E 157 0 [.ref a0] [] s Q := vc_ok E 157 [] Q 9 false 0 _ _ _ h
-- 158 CoatedBridgesModel.here()I
theorem sg158_0 {E : AEnv} {a0 : Nat} {s : ASt} {Q : Option Value → ASt → Prop} (h :
  sh s a0 6 15 ∧ sh s a0 6 15 ∧ ((gI s a0 6) ≤ (gI s a0 8) →
    Q (some (.int (nI 0))) s) ∧
  (¬ (gI s a0 6) ≤ (gI s a0 8) →
    sh s a0 6 15 ∧ ∃ r1, rf s a0 5 r1 ∧ sh s a0 6 15 ∧ ∃ n2, sh s r1 10 n2 ∧ vp_in (gI s a0 8) n2 ∧ Q (some (.int (gI s r1 ((gI s a0 8)).toNatClampNeg))) s)) : wp E 158 0 [.ref a0] [] s Q := vc_ok E 158 [] Q 13 false 0 _ _ _ h
-- 159 CoatedBridgesModel.takes(Z)V
theorem sg159_0 {E : AEnv} {a0 : Nat} {a1 : Int32} {s : ASt} {Q : Option Value → ASt → Prop} (h :
  sh s a0 6 15 ∧ ((gI s a0 10) = (nI 0) →
    sh s a0 6 15 ∧ fN .boolean (nI 0) = true ∧ nw (wrI s a0 10 (nI 0)) (fun s1 =>
    sh s1 a0 6 15 ∧ sh s1 a0 6 15 ∧ ((gI s1 a0 10) = (nI 0) →
      sh s1 a0 6 15 ∧ nw (wrI s1 a0 8 ((gI s1 a0 8) + (nI 0))) (fun s2 =>
      Q none s2)) ∧
    (¬ (gI s1 a0 10) = (nI 0) →
      sh s1 a0 6 15 ∧ nw (wrI s1 a0 8 ((gI s1 a0 8) + (nI 1))) (fun s3 =>
      Q none s3)))) ∧
  (¬ (gI s a0 10) = (nI 0) →
    (a1 = (nI 0) →
      sh s a0 6 15 ∧ fN .boolean (nI 0) = true ∧ nw (wrI s a0 10 (nI 0)) (fun s4 =>
      sh s4 a0 6 15 ∧ sh s4 a0 6 15 ∧ ((gI s4 a0 10) = (nI 0) →
        sh s4 a0 6 15 ∧ nw (wrI s4 a0 8 ((gI s4 a0 8) + (nI 0))) (fun s5 =>
        Q none s5)) ∧
      (¬ (gI s4 a0 10) = (nI 0) →
        sh s4 a0 6 15 ∧ nw (wrI s4 a0 8 ((gI s4 a0 8) + (nI 1))) (fun s6 =>
        Q none s6)))) ∧
    (¬ a1 = (nI 0) →
      sh s a0 6 15 ∧ fN .boolean (nI 1) = true ∧ nw (wrI s a0 10 (nI 1)) (fun s7 =>
      sh s7 a0 6 15 ∧ sh s7 a0 6 15 ∧ ((gI s7 a0 10) = (nI 0) →
        sh s7 a0 6 15 ∧ nw (wrI s7 a0 8 ((gI s7 a0 8) + (nI 0))) (fun s8 =>
        Q none s8)) ∧
      (¬ (gI s7 a0 10) = (nI 0) →
        sh s7 a0 6 15 ∧ nw (wrI s7 a0 8 ((gI s7 a0 8) + (nI 1))) (fun s9 =>
        Q none s9)))))) : wp E 159 0 [.ref a0, .int a1] [] s Q := vc_ok E 159 [] Q 21 false 0 _ _ _ h
-- 160 CoatedBridgesModel.takesNumber(I)V
theorem sg160_0 {E : AEnv} {a0 : Nat} {a1 : Int32} {s : ASt} {Q : Option Value → ASt → Prop} (h :
  wp E 160 4 [.ref a0, .int a1, .int (nI 0), .int (nI 0)] [] s Q) : wp E 160 0 [.ref a0, .int a1] [] s Q := vc_ok E 160 [4] Q 6 false 0 _ _ _ h
theorem sg160_4 {E : AEnv} {a0 : Nat} {a1 : Int32} {a2 : Int32} {a3 : Int32} {s : ASt} {Q : Option Value → ASt → Prop} (h :
  sh s a0 6 15 ∧ ((gI s a0 10) = (nI 0) →
    sh s a0 6 15 ∧ ((gI s a0 10) = (nI 0) →
      sh s a0 6 15 ∧ fN .boolean (nI 0) = true ∧ nw (wrI s a0 10 (nI 0)) (fun s1 =>
      sh s1 a0 6 15 ∧ ∃ r2, rf s1 a0 12 r2 ∧ ∃ n3, sh s1 r2 10 n3 ∧ vp_in a1 n3 ∧ nw (wrI s1 r2 (a1).toNatClampNeg a2) (fun s4 =>
      Q none s4))) ∧
    (¬ (gI s a0 10) = (nI 0) →
      (a3 ≤ (nI 0) →
        sh s a0 6 15 ∧ fN .boolean (nI 0) = true ∧ nw (wrI s a0 10 (nI 0)) (fun s5 =>
        sh s5 a0 6 15 ∧ ∃ r6, rf s5 a0 12 r6 ∧ ∃ n7, sh s5 r6 10 n7 ∧ vp_in a1 n7 ∧ nw (wrI s5 r6 (a1).toNatClampNeg a2) (fun s8 =>
        Q none s8))) ∧
      (¬ a3 ≤ (nI 0) →
        sh s a0 6 15 ∧ fN .boolean (nI 1) = true ∧ nw (wrI s a0 10 (nI 1)) (fun s9 =>
        sh s9 a0 6 15 ∧ ∃ r10, rf s9 a0 12 r10 ∧ ∃ n11, sh s9 r10 10 n11 ∧ vp_in a1 n11 ∧ nw (wrI s9 r10 (a1).toNatClampNeg a2) (fun s12 =>
        Q none s12))))) ∧
  (¬ (gI s a0 10) = (nI 0) →
    ((nI 3) ≤ a3 →
      sh s a0 6 15 ∧ ((gI s a0 10) = (nI 0) →
        sh s a0 6 15 ∧ fN .boolean (nI 0) = true ∧ nw (wrI s a0 10 (nI 0)) (fun s13 =>
        sh s13 a0 6 15 ∧ ∃ r14, rf s13 a0 12 r14 ∧ ∃ n15, sh s13 r14 10 n15 ∧ vp_in a1 n15 ∧ nw (wrI s13 r14 (a1).toNatClampNeg a2) (fun s16 =>
        Q none s16))) ∧
      (¬ (gI s a0 10) = (nI 0) →
        (a3 ≤ (nI 0) →
          sh s a0 6 15 ∧ fN .boolean (nI 0) = true ∧ nw (wrI s a0 10 (nI 0)) (fun s17 =>
          sh s17 a0 6 15 ∧ ∃ r18, rf s17 a0 12 r18 ∧ ∃ n19, sh s17 r18 10 n19 ∧ vp_in a1 n19 ∧ nw (wrI s17 r18 (a1).toNatClampNeg a2) (fun s20 =>
          Q none s20))) ∧
        (¬ a3 ≤ (nI 0) →
          sh s a0 6 15 ∧ fN .boolean (nI 1) = true ∧ nw (wrI s a0 10 (nI 1)) (fun s21 =>
          sh s21 a0 6 15 ∧ ∃ r22, rf s21 a0 12 r22 ∧ ∃ n23, sh s21 r22 10 n23 ∧ vp_in a1 n23 ∧ nw (wrI s21 r22 (a1).toNatClampNeg a2) (fun s24 =>
          Q none s24))))) ∧
    (¬ (nI 3) ≤ a3 →
      sh s a0 6 15 ∧ cI E 158 [.ref a0] s (fun x26 s25 =>
      cI E 92 [.int x26, .int (nI 48), .int (nI 57)] s25 (fun x28 s27 =>
      (x28 = (nI 0) →
        sh s27 a0 6 15 ∧ ((gI s27 a0 10) = (nI 0) →
          sh s27 a0 6 15 ∧ fN .boolean (nI 0) = true ∧ nw (wrI s27 a0 10 (nI 0)) (fun s29 =>
          sh s29 a0 6 15 ∧ ∃ r30, rf s29 a0 12 r30 ∧ ∃ n31, sh s29 r30 10 n31 ∧ vp_in a1 n31 ∧ nw (wrI s29 r30 (a1).toNatClampNeg a2) (fun s32 =>
          Q none s32))) ∧
        (¬ (gI s27 a0 10) = (nI 0) →
          (a3 ≤ (nI 0) →
            sh s27 a0 6 15 ∧ fN .boolean (nI 0) = true ∧ nw (wrI s27 a0 10 (nI 0)) (fun s33 =>
            sh s33 a0 6 15 ∧ ∃ r34, rf s33 a0 12 r34 ∧ ∃ n35, sh s33 r34 10 n35 ∧ vp_in a1 n35 ∧ nw (wrI s33 r34 (a1).toNatClampNeg a2) (fun s36 =>
            Q none s36))) ∧
          (¬ a3 ≤ (nI 0) →
            sh s27 a0 6 15 ∧ fN .boolean (nI 1) = true ∧ nw (wrI s27 a0 10 (nI 1)) (fun s37 =>
            sh s37 a0 6 15 ∧ ∃ r38, rf s37 a0 12 r38 ∧ ∃ n39, sh s37 r38 10 n39 ∧ vp_in a1 n39 ∧ nw (wrI s37 r38 (a1).toNatClampNeg a2) (fun s40 =>
            Q none s40))))) ∧
      (¬ x28 = (nI 0) →
        sh s27 a0 6 15 ∧ cI E 158 [.ref a0] s27 (fun x42 s41 =>
        sh s41 a0 6 15 ∧ sh s41 a0 6 15 ∧ nw (wrI s41 a0 8 ((gI s41 a0 8) + (nI 1))) (fun s43 =>
        wp E 160 4 [.ref a0, .int a1, .int ((((nI 10) * a2) + x42) - (nI 48)), .int (a3 + (nI 1))] [] s43 Q)))))))) : wp E 160 4 [.ref a0, .int a1, .int a2, .int a3] [] s Q := vc_ok E 160 [4] Q 31 false 4 _ _ _ h
-- 161 CoatedBridgesModel.takesOrder()V
theorem sg161_0 {E : AEnv} {a0 : Nat} {s : ASt} {Q : Option Value → ASt → Prop} (h :
  sh s a0 6 15 ∧ sh s a0 6 15 ∧ nw (wrI s a0 9 (gI s a0 8)) (fun s1 =>
  sh s1 a0 6 15 ∧ fN .boolean (nI 1) = true ∧ nw (wrI s1 a0 10 (nI 1)) (fun s2 =>
  sh s2 a0 6 15 ∧ cI E 158 [.ref a0] s2 (fun x4 s3 =>
  sh s3 a0 6 15 ∧ nw (wrI s3 a0 11 x4) (fun s5 =>
  sh s5 a0 6 15 ∧ ((gI s5 a0 11) = (nI 105) →
    sh s5 a0 6 15 ∧ cV E 159 [.ref a0, .int (nI 1)] s5 (fun s6 =>
    wp E 161 95 [.ref a0, .int (nI 0)] [] s6 Q)) ∧
  (¬ (gI s5 a0 11) = (nI 105) →
    sh s5 a0 6 15 ∧ ((gI s5 a0 11) = (nI 98) →
      sh s5 a0 6 15 ∧ cV E 159 [.ref a0, .int (nI 1)] s5 (fun s7 =>
      wp E 161 95 [.ref a0, .int (nI 0)] [] s7 Q)) ∧
    (¬ (gI s5 a0 11) = (nI 98) →
      sh s5 a0 6 15 ∧ ((gI s5 a0 11) = (nI 115) →
        sh s5 a0 6 15 ∧ cV E 159 [.ref a0, .int (nI 1)] s5 (fun s8 =>
        wp E 161 95 [.ref a0, .int (nI 0)] [] s8 Q)) ∧
      (¬ (gI s5 a0 11) = (nI 115) →
        sh s5 a0 6 15 ∧ ((gI s5 a0 11) = (nI 102) →
          sh s5 a0 6 15 ∧ cV E 159 [.ref a0, .int (nI 1)] s5 (fun s9 =>
          wp E 161 95 [.ref a0, .int (nI 0)] [] s9 Q)) ∧
        (¬ (gI s5 a0 11) = (nI 102) →
          sh s5 a0 6 15 ∧ ((gI s5 a0 11) = (nI 114) →
            sh s5 a0 6 15 ∧ cV E 159 [.ref a0, .int (nI 1)] s5 (fun s10 =>
            wp E 161 95 [.ref a0, .int (nI 0)] [] s10 Q)) ∧
          (¬ (gI s5 a0 11) = (nI 114) →
            sh s5 a0 6 15 ∧ ((gI s5 a0 11) = (nI 112) →
              sh s5 a0 6 15 ∧ cV E 159 [.ref a0, .int (nI 1)] s5 (fun s11 =>
              wp E 161 95 [.ref a0, .int (nI 0)] [] s11 Q)) ∧
            (¬ (gI s5 a0 11) = (nI 112) →
              sh s5 a0 6 15 ∧ ((gI s5 a0 11) ≠ (nI 100) →
                sh s5 a0 6 15 ∧ cV E 159 [.ref a0, .int (nI 0)] s5 (fun s12 =>
                wp E 161 95 [.ref a0, .int (nI 0)] [] s12 Q)) ∧
              (¬ (gI s5 a0 11) ≠ (nI 100) →
                sh s5 a0 6 15 ∧ cV E 159 [.ref a0, .int (nI 1)] s5 (fun s13 =>
                wp E 161 95 [.ref a0, .int (nI 0)] [] s13 Q))))))))))))) : wp E 161 0 [.ref a0] [] s Q := vc_ok E 161 [95] Q 47 false 0 _ _ _ h
theorem sg161_95 {E : AEnv} {a0 : Nat} {a1 : Int32} {s : ASt} {Q : Option Value → ASt → Prop} (h :
  sh s a0 6 15 ∧ ((gI s a0 11) ≠ (nI 98) →
    ((nI 1) ≤ a1 →
      sh s a0 6 15 ∧ cI E 158 [.ref a0] s (fun x2 s1 =>
      (x2 ≠ (nI 59) →
        sh s1 a0 6 15 ∧ cV E 159 [.ref a0, .int (nI 0)] s1 (fun s3 =>
        Q none s3)) ∧
      (¬ x2 ≠ (nI 59) →
        sh s1 a0 6 15 ∧ cV E 159 [.ref a0, .int (nI 1)] s1 (fun s4 =>
        Q none s4)))) ∧
    (¬ (nI 1) ≤ a1 →
      (a1 ≤ (nI 0) →
        sh s a0 6 15 ∧ cV E 160 [.ref a0, .int a1] s (fun s5 =>
        wp E 161 95 [.ref a0, .int (a1 + (nI 1))] [] s5 Q)) ∧
      (¬ a1 ≤ (nI 0) →
        sh s a0 6 15 ∧ cI E 158 [.ref a0] s (fun x7 s6 =>
        (x7 ≠ (nI 44) →
          sh s6 a0 6 15 ∧ cV E 159 [.ref a0, .int (nI 0)] s6 (fun s8 =>
          sh s8 a0 6 15 ∧ cV E 160 [.ref a0, .int a1] s8 (fun s9 =>
          wp E 161 95 [.ref a0, .int (a1 + (nI 1))] [] s9 Q))) ∧
        (¬ x7 ≠ (nI 44) →
          sh s6 a0 6 15 ∧ cV E 159 [.ref a0, .int (nI 1)] s6 (fun s10 =>
          sh s10 a0 6 15 ∧ cV E 160 [.ref a0, .int a1] s10 (fun s11 =>
          wp E 161 95 [.ref a0, .int (a1 + (nI 1))] [] s11 Q))))))) ∧
  (¬ (gI s a0 11) ≠ (nI 98) →
    ((nI 3) ≤ a1 →
      sh s a0 6 15 ∧ cI E 158 [.ref a0] s (fun x13 s12 =>
      (x13 ≠ (nI 59) →
        sh s12 a0 6 15 ∧ cV E 159 [.ref a0, .int (nI 0)] s12 (fun s14 =>
        Q none s14)) ∧
      (¬ x13 ≠ (nI 59) →
        sh s12 a0 6 15 ∧ cV E 159 [.ref a0, .int (nI 1)] s12 (fun s15 =>
        Q none s15)))) ∧
    (¬ (nI 3) ≤ a1 →
      (a1 ≤ (nI 0) →
        sh s a0 6 15 ∧ cV E 160 [.ref a0, .int a1] s (fun s16 =>
        wp E 161 95 [.ref a0, .int (a1 + (nI 1))] [] s16 Q)) ∧
      (¬ a1 ≤ (nI 0) →
        sh s a0 6 15 ∧ cI E 158 [.ref a0] s (fun x18 s17 =>
        (x18 ≠ (nI 44) →
          sh s17 a0 6 15 ∧ cV E 159 [.ref a0, .int (nI 0)] s17 (fun s19 =>
          sh s19 a0 6 15 ∧ cV E 160 [.ref a0, .int a1] s19 (fun s20 =>
          wp E 161 95 [.ref a0, .int (a1 + (nI 1))] [] s20 Q))) ∧
        (¬ x18 ≠ (nI 44) →
          sh s17 a0 6 15 ∧ cV E 159 [.ref a0, .int (nI 1)] s17 (fun s21 =>
          sh s21 a0 6 15 ∧ cV E 160 [.ref a0, .int a1] s21 (fun s22 =>
          wp E 161 95 [.ref a0, .int (a1 + (nI 1))] [] s22 Q)))))))) : wp E 161 95 [.ref a0, .int a1] [] s Q := vc_ok E 161 [95] Q 25 false 95 _ _ _ h
-- 162 CoatedBridgesModel.errorOfOrder()I
theorem sg162_0 {E : AEnv} {a0 : Nat} {s : ASt} {Q : Option Value → ASt → Prop} (h :
  sh s a0 6 15 ∧ ((gI s a0 11) = (nI 98) →
    sh s a0 6 15 ∧ ∃ r77, rf s a0 12 r77 ∧ ∃ n78, sh s r77 10 n78 ∧ vp_in (nI 0) n78 ∧ sh s a0 6 15 ∧ ∃ r79, rf s a0 12 r79 ∧ ∃ n80, sh s r79 10 n80 ∧ vp_in (nI 1) n80 ∧ sh s a0 6 15 ∧ ∃ r81, rf s a0 12 r81 ∧ ∃ n82, sh s r81 10 n82 ∧ vp_in (nI 2) n82 ∧ sh s a0 6 15 ∧ cI E 123 [.ref a0, .int (gI s r77 0), .int (gI s r79 1), .int (gI s r81 2)] s (fun x84 s83 =>
    Q (some (.int x84)) s83)) ∧
  (¬ (gI s a0 11) = (nI 98) →
   ((gI s a0 11) = (nI 99) →
    sh s a0 6 15 ∧ ∃ r73, rf s a0 12 r73 ∧ ∃ n74, sh s r73 10 n74 ∧ vp_in (nI 0) n74 ∧ sh s a0 6 15 ∧ cI E 127 [.ref a0, .int (gI s r73 0)] s (fun x76 s75 =>
    Q (some (.int x76)) s75)) ∧
  (¬ (gI s a0 11) = (nI 99) →
   ((gI s a0 11) = (nI 100) →
    sh s a0 6 15 ∧ ∃ r69, rf s a0 12 r69 ∧ ∃ n70, sh s r69 10 n70 ∧ vp_in (nI 0) n70 ∧ sh s a0 6 15 ∧ cI E 127 [.ref a0, .int (gI s r69 0)] s (fun x72 s71 =>
    Q (some (.int x72)) s71)) ∧
  (¬ (gI s a0 11) = (nI 100) →
   ((gI s a0 11) = (nI 101) →
    sh s a0 6 15 ∧ ∃ r65, rf s a0 12 r65 ∧ ∃ n66, sh s r65 10 n66 ∧ vp_in (nI 0) n66 ∧ sh s a0 6 15 ∧ cI E 127 [.ref a0, .int (gI s r65 0)] s (fun x68 s67 =>
    Q (some (.int x68)) s67)) ∧
  (¬ (gI s a0 11) = (nI 101) →
   ((gI s a0 11) = (nI 102) →
    sh s a0 6 15 ∧ ∃ r59, rf s a0 12 r59 ∧ ∃ n60, sh s r59 10 n60 ∧ vp_in (nI 0) n60 ∧ sh s a0 6 15 ∧ ((gI s a0 11) ≠ (nI 102) →
      sh s a0 6 15 ∧ cI E 124 [.ref a0, .int (gI s r59 0), .int (nI 0)] s (fun x62 s61 =>
      Q (some (.int x62)) s61)) ∧
    (¬ (gI s a0 11) ≠ (nI 102) →
      sh s a0 6 15 ∧ cI E 124 [.ref a0, .int (gI s r59 0), .int (nI 1)] s (fun x64 s63 =>
      Q (some (.int x64)) s63))) ∧
  (¬ (gI s a0 11) = (nI 102) →
   ((gI s a0 11) = (nI 103) →
    sh s a0 6 15 ∧ ∃ r55, rf s a0 12 r55 ∧ ∃ n56, sh s r55 10 n56 ∧ vp_in (nI 0) n56 ∧ sh s a0 6 15 ∧ cI E 127 [.ref a0, .int (gI s r55 0)] s (fun x58 s57 =>
    Q (some (.int x58)) s57)) ∧
  (¬ (gI s a0 11) = (nI 103) →
   ((gI s a0 11) = (nI 104) →
    sh s a0 6 15 ∧ ∃ r51, rf s a0 12 r51 ∧ ∃ n52, sh s r51 10 n52 ∧ vp_in (nI 0) n52 ∧ sh s a0 6 15 ∧ cI E 127 [.ref a0, .int (gI s r51 0)] s (fun x54 s53 =>
    Q (some (.int x54)) s53)) ∧
  (¬ (gI s a0 11) = (nI 104) →
   ((gI s a0 11) = (nI 105) →
    sh s a0 6 15 ∧ ∃ r47, rf s a0 12 r47 ∧ ∃ n48, sh s r47 10 n48 ∧ vp_in (nI 0) n48 ∧ sh s a0 6 15 ∧ cI E 122 [.ref a0, .int (gI s r47 0)] s (fun x50 s49 =>
    Q (some (.int x50)) s49)) ∧
  (¬ (gI s a0 11) = (nI 105) →
   ((gI s a0 11) = (nI 106) →
    sh s a0 6 15 ∧ ∃ r43, rf s a0 12 r43 ∧ ∃ n44, sh s r43 10 n44 ∧ vp_in (nI 0) n44 ∧ sh s a0 6 15 ∧ cI E 127 [.ref a0, .int (gI s r43 0)] s (fun x46 s45 =>
    Q (some (.int x46)) s45)) ∧
  (¬ (gI s a0 11) = (nI 106) →
   ((gI s a0 11) = (nI 107) →
    sh s a0 6 15 ∧ ∃ r39, rf s a0 12 r39 ∧ ∃ n40, sh s r39 10 n40 ∧ vp_in (nI 0) n40 ∧ sh s a0 6 15 ∧ cI E 127 [.ref a0, .int (gI s r39 0)] s (fun x42 s41 =>
    Q (some (.int x42)) s41)) ∧
  (¬ (gI s a0 11) = (nI 107) →
   ((gI s a0 11) = (nI 108) →
    sh s a0 6 15 ∧ ∃ r35, rf s a0 12 r35 ∧ ∃ n36, sh s r35 10 n36 ∧ vp_in (nI 0) n36 ∧ sh s a0 6 15 ∧ cI E 127 [.ref a0, .int (gI s r35 0)] s (fun x38 s37 =>
    Q (some (.int x38)) s37)) ∧
  (¬ (gI s a0 11) = (nI 108) →
   ((gI s a0 11) = (nI 109) →
    sh s a0 6 15 ∧ ∃ r31, rf s a0 12 r31 ∧ ∃ n32, sh s r31 10 n32 ∧ vp_in (nI 0) n32 ∧ sh s a0 6 15 ∧ cI E 127 [.ref a0, .int (gI s r31 0)] s (fun x34 s33 =>
    Q (some (.int x34)) s33)) ∧
  (¬ (gI s a0 11) = (nI 109) →
   ((gI s a0 11) = (nI 110) →
    sh s a0 6 15 ∧ ∃ r27, rf s a0 12 r27 ∧ ∃ n28, sh s r27 10 n28 ∧ vp_in (nI 0) n28 ∧ sh s a0 6 15 ∧ cI E 127 [.ref a0, .int (gI s r27 0)] s (fun x30 s29 =>
    Q (some (.int x30)) s29)) ∧
  (¬ (gI s a0 11) = (nI 110) →
   ((gI s a0 11) = (nI 111) →
    sh s a0 6 15 ∧ ∃ r23, rf s a0 12 r23 ∧ ∃ n24, sh s r23 10 n24 ∧ vp_in (nI 0) n24 ∧ sh s a0 6 15 ∧ cI E 127 [.ref a0, .int (gI s r23 0)] s (fun x26 s25 =>
    Q (some (.int x26)) s25)) ∧
  (¬ (gI s a0 11) = (nI 111) →
   ((gI s a0 11) = (nI 112) →
    sh s a0 6 15 ∧ ∃ r19, rf s a0 12 r19 ∧ ∃ n20, sh s r19 10 n20 ∧ vp_in (nI 0) n20 ∧ sh s a0 6 15 ∧ cI E 126 [.ref a0, .int (gI s r19 0)] s (fun x22 s21 =>
    Q (some (.int x22)) s21)) ∧
  (¬ (gI s a0 11) = (nI 112) →
   ((gI s a0 11) = (nI 113) →
    sh s a0 6 15 ∧ ∃ r15, rf s a0 12 r15 ∧ ∃ n16, sh s r15 10 n16 ∧ vp_in (nI 0) n16 ∧ sh s a0 6 15 ∧ cI E 127 [.ref a0, .int (gI s r15 0)] s (fun x18 s17 =>
    Q (some (.int x18)) s17)) ∧
  (¬ (gI s a0 11) = (nI 113) →
   ((gI s a0 11) = (nI 114) →
    sh s a0 6 15 ∧ ∃ r11, rf s a0 12 r11 ∧ ∃ n12, sh s r11 10 n12 ∧ vp_in (nI 0) n12 ∧ sh s a0 6 15 ∧ cI E 125 [.ref a0, .int (gI s r11 0)] s (fun x14 s13 =>
    Q (some (.int x14)) s13)) ∧
  (¬ (gI s a0 11) = (nI 114) →
   ((gI s a0 11) = (nI 115) →
    sh s a0 6 15 ∧ ∃ r5, rf s a0 12 r5 ∧ ∃ n6, sh s r5 10 n6 ∧ vp_in (nI 0) n6 ∧ sh s a0 6 15 ∧ ((gI s a0 11) ≠ (nI 102) →
      sh s a0 6 15 ∧ cI E 124 [.ref a0, .int (gI s r5 0), .int (nI 0)] s (fun x8 s7 =>
      Q (some (.int x8)) s7)) ∧
    (¬ (gI s a0 11) ≠ (nI 102) →
      sh s a0 6 15 ∧ cI E 124 [.ref a0, .int (gI s r5 0), .int (nI 1)] s (fun x10 s9 =>
      Q (some (.int x10)) s9))) ∧
  (¬ (gI s a0 11) = (nI 115) →
   sh s a0 6 15 ∧ ∃ r1, rf s a0 12 r1 ∧ ∃ n2, sh s r1 10 n2 ∧ vp_in (nI 0) n2 ∧ sh s a0 6 15 ∧ cI E 127 [.ref a0, .int (gI s r1 0)] s (fun x4 s3 =>
    Q (some (.int x4)) s3)))))))))))))))))))) : wp E 162 0 [.ref a0] [] s Q := vc_ok E 162 [] Q 19 false 0 _ _ _ h
-- 163 CoatedBridgesModel.doesOrder()I
theorem sg163_0 {E : AEnv} {a0 : Nat} {s : ASt} {Q : Option Value → ASt → Prop} (h :
  sh s a0 6 15 ∧ ((gI s a0 11) = (nI 98) →
    sh s a0 6 15 ∧ ∃ r73, rf s a0 12 r73 ∧ ∃ n74, sh s r73 10 n74 ∧ vp_in (nI 0) n74 ∧ sh s a0 6 15 ∧ ∃ r75, rf s a0 12 r75 ∧ ∃ n76, sh s r75 10 n76 ∧ vp_in (nI 1) n76 ∧ sh s a0 6 15 ∧ ∃ r77, rf s a0 12 r77 ∧ ∃ n78, sh s r77 10 n78 ∧ vp_in (nI 2) n78 ∧ sh s a0 6 15 ∧ cI E 112 [.ref a0, .int (gI s r73 0), .int (gI s r75 1), .int (gI s r77 2)] s (fun x80 s79 =>
    Q (some (.int x80)) s79)) ∧
  (¬ (gI s a0 11) = (nI 98) →
   ((gI s a0 11) = (nI 99) →
    sh s a0 6 15 ∧ ∃ r69, rf s a0 12 r69 ∧ ∃ n70, sh s r69 10 n70 ∧ vp_in (nI 0) n70 ∧ sh s a0 6 15 ∧ cI E 121 [.ref a0, .int (gI s r69 0)] s (fun x72 s71 =>
    Q (some (.int x72)) s71)) ∧
  (¬ (gI s a0 11) = (nI 99) →
   ((gI s a0 11) = (nI 100) →
    sh s a0 6 15 ∧ ∃ r65, rf s a0 12 r65 ∧ ∃ n66, sh s r65 10 n66 ∧ vp_in (nI 0) n66 ∧ sh s a0 6 15 ∧ cI E 121 [.ref a0, .int (gI s r65 0)] s (fun x68 s67 =>
    Q (some (.int x68)) s67)) ∧
  (¬ (gI s a0 11) = (nI 100) →
   ((gI s a0 11) = (nI 101) →
    sh s a0 6 15 ∧ ∃ r61, rf s a0 12 r61 ∧ ∃ n62, sh s r61 10 n62 ∧ vp_in (nI 0) n62 ∧ sh s a0 6 15 ∧ cI E 121 [.ref a0, .int (gI s r61 0)] s (fun x64 s63 =>
    Q (some (.int x64)) s63)) ∧
  (¬ (gI s a0 11) = (nI 101) →
   ((gI s a0 11) = (nI 102) →
    sh s a0 6 15 ∧ ∃ r57, rf s a0 12 r57 ∧ ∃ n58, sh s r57 10 n58 ∧ vp_in (nI 0) n58 ∧ sh s a0 6 15 ∧ cI E 113 [.ref a0, .int (gI s r57 0)] s (fun x60 s59 =>
    Q (some (.int x60)) s59)) ∧
  (¬ (gI s a0 11) = (nI 102) →
   ((gI s a0 11) = (nI 103) →
    sh s a0 6 15 ∧ ∃ r53, rf s a0 12 r53 ∧ ∃ n54, sh s r53 10 n54 ∧ vp_in (nI 0) n54 ∧ sh s a0 6 15 ∧ cI E 121 [.ref a0, .int (gI s r53 0)] s (fun x56 s55 =>
    Q (some (.int x56)) s55)) ∧
  (¬ (gI s a0 11) = (nI 103) →
   ((gI s a0 11) = (nI 104) →
    sh s a0 6 15 ∧ ∃ r49, rf s a0 12 r49 ∧ ∃ n50, sh s r49 10 n50 ∧ vp_in (nI 0) n50 ∧ sh s a0 6 15 ∧ cI E 121 [.ref a0, .int (gI s r49 0)] s (fun x52 s51 =>
    Q (some (.int x52)) s51)) ∧
  (¬ (gI s a0 11) = (nI 104) →
   ((gI s a0 11) = (nI 105) →
    sh s a0 6 15 ∧ ∃ r45, rf s a0 12 r45 ∧ ∃ n46, sh s r45 10 n46 ∧ vp_in (nI 0) n46 ∧ sh s a0 6 15 ∧ cI E 111 [.ref a0, .int (gI s r45 0)] s (fun x48 s47 =>
    Q (some (.int x48)) s47)) ∧
  (¬ (gI s a0 11) = (nI 105) →
   ((gI s a0 11) = (nI 106) →
    sh s a0 6 15 ∧ ∃ r41, rf s a0 12 r41 ∧ ∃ n42, sh s r41 10 n42 ∧ vp_in (nI 0) n42 ∧ sh s a0 6 15 ∧ cI E 121 [.ref a0, .int (gI s r41 0)] s (fun x44 s43 =>
    Q (some (.int x44)) s43)) ∧
  (¬ (gI s a0 11) = (nI 106) →
   ((gI s a0 11) = (nI 107) →
    sh s a0 6 15 ∧ ∃ r37, rf s a0 12 r37 ∧ ∃ n38, sh s r37 10 n38 ∧ vp_in (nI 0) n38 ∧ sh s a0 6 15 ∧ cI E 121 [.ref a0, .int (gI s r37 0)] s (fun x40 s39 =>
    Q (some (.int x40)) s39)) ∧
  (¬ (gI s a0 11) = (nI 107) →
   ((gI s a0 11) = (nI 108) →
    sh s a0 6 15 ∧ ∃ r33, rf s a0 12 r33 ∧ ∃ n34, sh s r33 10 n34 ∧ vp_in (nI 0) n34 ∧ sh s a0 6 15 ∧ cI E 121 [.ref a0, .int (gI s r33 0)] s (fun x36 s35 =>
    Q (some (.int x36)) s35)) ∧
  (¬ (gI s a0 11) = (nI 108) →
   ((gI s a0 11) = (nI 109) →
    sh s a0 6 15 ∧ ∃ r29, rf s a0 12 r29 ∧ ∃ n30, sh s r29 10 n30 ∧ vp_in (nI 0) n30 ∧ sh s a0 6 15 ∧ cI E 121 [.ref a0, .int (gI s r29 0)] s (fun x32 s31 =>
    Q (some (.int x32)) s31)) ∧
  (¬ (gI s a0 11) = (nI 109) →
   ((gI s a0 11) = (nI 110) →
    sh s a0 6 15 ∧ ∃ r25, rf s a0 12 r25 ∧ ∃ n26, sh s r25 10 n26 ∧ vp_in (nI 0) n26 ∧ sh s a0 6 15 ∧ cI E 121 [.ref a0, .int (gI s r25 0)] s (fun x28 s27 =>
    Q (some (.int x28)) s27)) ∧
  (¬ (gI s a0 11) = (nI 110) →
   ((gI s a0 11) = (nI 111) →
    sh s a0 6 15 ∧ ∃ r21, rf s a0 12 r21 ∧ ∃ n22, sh s r21 10 n22 ∧ vp_in (nI 0) n22 ∧ sh s a0 6 15 ∧ cI E 121 [.ref a0, .int (gI s r21 0)] s (fun x24 s23 =>
    Q (some (.int x24)) s23)) ∧
  (¬ (gI s a0 11) = (nI 111) →
   ((gI s a0 11) = (nI 112) →
    sh s a0 6 15 ∧ ∃ r17, rf s a0 12 r17 ∧ ∃ n18, sh s r17 10 n18 ∧ vp_in (nI 0) n18 ∧ sh s a0 6 15 ∧ cI E 115 [.ref a0, .int (gI s r17 0)] s (fun x20 s19 =>
    Q (some (.int x20)) s19)) ∧
  (¬ (gI s a0 11) = (nI 112) →
   ((gI s a0 11) = (nI 113) →
    sh s a0 6 15 ∧ ∃ r13, rf s a0 12 r13 ∧ ∃ n14, sh s r13 10 n14 ∧ vp_in (nI 0) n14 ∧ sh s a0 6 15 ∧ cI E 121 [.ref a0, .int (gI s r13 0)] s (fun x16 s15 =>
    Q (some (.int x16)) s15)) ∧
  (¬ (gI s a0 11) = (nI 113) →
   ((gI s a0 11) = (nI 114) →
    sh s a0 6 15 ∧ ∃ r9, rf s a0 12 r9 ∧ ∃ n10, sh s r9 10 n10 ∧ vp_in (nI 0) n10 ∧ sh s a0 6 15 ∧ cI E 114 [.ref a0, .int (gI s r9 0)] s (fun x12 s11 =>
    Q (some (.int x12)) s11)) ∧
  (¬ (gI s a0 11) = (nI 114) →
   ((gI s a0 11) = (nI 115) →
    sh s a0 6 15 ∧ ∃ r5, rf s a0 12 r5 ∧ ∃ n6, sh s r5 10 n6 ∧ vp_in (nI 0) n6 ∧ sh s a0 6 15 ∧ cI E 113 [.ref a0, .int (gI s r5 0)] s (fun x8 s7 =>
    Q (some (.int x8)) s7)) ∧
  (¬ (gI s a0 11) = (nI 115) →
   sh s a0 6 15 ∧ ∃ r1, rf s a0 12 r1 ∧ ∃ n2, sh s r1 10 n2 ∧ vp_in (nI 0) n2 ∧ sh s a0 6 15 ∧ cI E 121 [.ref a0, .int (gI s r1 0)] s (fun x4 s3 =>
    Q (some (.int x4)) s3)))))))))))))))))))) : wp E 163 0 [.ref a0] [] s Q := vc_ok E 163 [] Q 19 false 0 _ _ _ h
-- 164 CoatedBridgesModel.doesAll()I
theorem sg164_0 {E : AEnv} {a0 : Nat} {s : ASt} {Q : Option Value → ASt → Prop} (h :
  sh s a0 6 15 ∧ nw (wrI s a0 13 (nI 0)) (fun s1 =>
  sh s1 a0 6 15 ∧ nw (wrI s1 a0 8 (nI 0)) (fun s2 =>
  wp E 164 12 [.ref a0, .int (nI 0)] [] s2 Q))) : wp E 164 0 [.ref a0] [] s Q := vc_ok E 164 [12] Q 10 false 0 _ _ _ h
theorem sg164_12 {E : AEnv} {a0 : Nat} {a1 : Int32} {s : ASt} {Q : Option Value → ASt → Prop} (h :
  sh s a0 6 15 ∧ ((gI s a0 13) ≠ (nI 0) →
    Q (some (.int a1)) s) ∧
  (¬ (gI s a0 13) ≠ (nI 0) →
    sh s a0 6 15 ∧ sh s a0 6 15 ∧ ((gI s a0 6) ≤ (gI s a0 8) →
      Q (some (.int a1)) s) ∧
    (¬ (gI s a0 6) ≤ (gI s a0 8) →
      sh s a0 6 15 ∧ cV E 161 [.ref a0] s (fun s1 =>
      sh s1 a0 6 15 ∧ ((gI s1 a0 10) = (nI 0) →
        sh s1 a0 6 15 ∧ ((gI s1 a0 10) = (nI 0) →
          sh s1 a0 6 15 ∧ ((gI s1 a0 10) = (nI 0) →
            sh s1 a0 6 15 ∧ nw (wrI s1 a0 13 (nI 1)) (fun s2 =>
            sh s2 a0 6 15 ∧ ((gI s2 a0 10) = (nI 0) →
              sh s2 a0 6 15 ∧ sh s2 a0 6 15 ∧ sh s2 a0 6 15 ∧ nw (wrI s2 a0 14 ((gI s2 a0 8) - (gI s2 a0 9))) (fun s3 =>
              wp E 164 12 [.ref a0, .int a1] [] s3 Q)) ∧
            (¬ (gI s2 a0 10) = (nI 0) →
              sh s2 a0 6 15 ∧ nw (wrI s2 a0 14 (nI 0)) (fun s4 =>
              wp E 164 12 [.ref a0, .int a1] [] s4 Q)))) ∧
          (¬ (gI s1 a0 10) = (nI 0) →
            sh s1 a0 6 15 ∧ nw (wrI s1 a0 13 (nI 2)) (fun s5 =>
            sh s5 a0 6 15 ∧ ((gI s5 a0 10) = (nI 0) →
              sh s5 a0 6 15 ∧ sh s5 a0 6 15 ∧ sh s5 a0 6 15 ∧ nw (wrI s5 a0 14 ((gI s5 a0 8) - (gI s5 a0 9))) (fun s6 =>
              wp E 164 12 [.ref a0, .int a1] [] s6 Q)) ∧
            (¬ (gI s5 a0 10) = (nI 0) →
              sh s5 a0 6 15 ∧ nw (wrI s5 a0 14 (nI 0)) (fun s7 =>
              wp E 164 12 [.ref a0, .int a1] [] s7 Q))))) ∧
        (¬ (gI s1 a0 10) = (nI 0) →
          ((nI 0) ≤ (nI 0) →
            sh s1 a0 6 15 ∧ cI E 163 [.ref a0] s1 (fun x9 s8 =>
            wp E 164 12 [.ref a0, .int (a1 + (nI 1))] [] s8 Q)) ∧
          (¬ (nI 0) ≤ (nI 0) →
            sh s1 a0 6 15 ∧ ((gI s1 a0 10) = (nI 0) →
              sh s1 a0 6 15 ∧ nw (wrI s1 a0 13 (nI 1)) (fun s10 =>
              sh s10 a0 6 15 ∧ ((gI s10 a0 10) = (nI 0) →
                sh s10 a0 6 15 ∧ sh s10 a0 6 15 ∧ sh s10 a0 6 15 ∧ nw (wrI s10 a0 14 ((gI s10 a0 8) - (gI s10 a0 9))) (fun s11 =>
                wp E 164 12 [.ref a0, .int a1] [] s11 Q)) ∧
              (¬ (gI s10 a0 10) = (nI 0) →
                sh s10 a0 6 15 ∧ nw (wrI s10 a0 14 (nI 0)) (fun s12 =>
                wp E 164 12 [.ref a0, .int a1] [] s12 Q)))) ∧
            (¬ (gI s1 a0 10) = (nI 0) →
              sh s1 a0 6 15 ∧ nw (wrI s1 a0 13 (nI 2)) (fun s13 =>
              sh s13 a0 6 15 ∧ ((gI s13 a0 10) = (nI 0) →
                sh s13 a0 6 15 ∧ sh s13 a0 6 15 ∧ sh s13 a0 6 15 ∧ nw (wrI s13 a0 14 ((gI s13 a0 8) - (gI s13 a0 9))) (fun s14 =>
                wp E 164 12 [.ref a0, .int a1] [] s14 Q)) ∧
              (¬ (gI s13 a0 10) = (nI 0) →
                sh s13 a0 6 15 ∧ nw (wrI s13 a0 14 (nI 0)) (fun s15 =>
                wp E 164 12 [.ref a0, .int a1] [] s15 Q))))))) ∧
      (¬ (gI s1 a0 10) = (nI 0) →
        sh s1 a0 6 15 ∧ cI E 162 [.ref a0] s1 (fun x17 s16 =>
        sh s16 a0 6 15 ∧ ((gI s16 a0 10) = (nI 0) →
          sh s16 a0 6 15 ∧ ((gI s16 a0 10) = (nI 0) →
            sh s16 a0 6 15 ∧ nw (wrI s16 a0 13 (nI 1)) (fun s18 =>
            sh s18 a0 6 15 ∧ ((gI s18 a0 10) = (nI 0) →
              sh s18 a0 6 15 ∧ sh s18 a0 6 15 ∧ sh s18 a0 6 15 ∧ nw (wrI s18 a0 14 ((gI s18 a0 8) - (gI s18 a0 9))) (fun s19 =>
              wp E 164 12 [.ref a0, .int a1] [] s19 Q)) ∧
            (¬ (gI s18 a0 10) = (nI 0) →
              sh s18 a0 6 15 ∧ nw (wrI s18 a0 14 x17) (fun s20 =>
              wp E 164 12 [.ref a0, .int a1] [] s20 Q)))) ∧
          (¬ (gI s16 a0 10) = (nI 0) →
            sh s16 a0 6 15 ∧ nw (wrI s16 a0 13 (nI 2)) (fun s21 =>
            sh s21 a0 6 15 ∧ ((gI s21 a0 10) = (nI 0) →
              sh s21 a0 6 15 ∧ sh s21 a0 6 15 ∧ sh s21 a0 6 15 ∧ nw (wrI s21 a0 14 ((gI s21 a0 8) - (gI s21 a0 9))) (fun s22 =>
              wp E 164 12 [.ref a0, .int a1] [] s22 Q)) ∧
            (¬ (gI s21 a0 10) = (nI 0) →
              sh s21 a0 6 15 ∧ nw (wrI s21 a0 14 x17) (fun s23 =>
              wp E 164 12 [.ref a0, .int a1] [] s23 Q))))) ∧
        (¬ (gI s16 a0 10) = (nI 0) →
          ((nI 0) ≤ x17 →
            sh s16 a0 6 15 ∧ cI E 163 [.ref a0] s16 (fun x25 s24 =>
            wp E 164 12 [.ref a0, .int (a1 + (nI 1))] [] s24 Q)) ∧
          (¬ (nI 0) ≤ x17 →
            sh s16 a0 6 15 ∧ ((gI s16 a0 10) = (nI 0) →
              sh s16 a0 6 15 ∧ nw (wrI s16 a0 13 (nI 1)) (fun s26 =>
              sh s26 a0 6 15 ∧ ((gI s26 a0 10) = (nI 0) →
                sh s26 a0 6 15 ∧ sh s26 a0 6 15 ∧ sh s26 a0 6 15 ∧ nw (wrI s26 a0 14 ((gI s26 a0 8) - (gI s26 a0 9))) (fun s27 =>
                wp E 164 12 [.ref a0, .int a1] [] s27 Q)) ∧
              (¬ (gI s26 a0 10) = (nI 0) →
                sh s26 a0 6 15 ∧ nw (wrI s26 a0 14 x17) (fun s28 =>
                wp E 164 12 [.ref a0, .int a1] [] s28 Q)))) ∧
            (¬ (gI s16 a0 10) = (nI 0) →
              sh s16 a0 6 15 ∧ nw (wrI s16 a0 13 (nI 2)) (fun s29 =>
              sh s29 a0 6 15 ∧ ((gI s29 a0 10) = (nI 0) →
                sh s29 a0 6 15 ∧ sh s29 a0 6 15 ∧ sh s29 a0 6 15 ∧ nw (wrI s29 a0 14 ((gI s29 a0 8) - (gI s29 a0 9))) (fun s30 =>
                wp E 164 12 [.ref a0, .int a1] [] s30 Q)) ∧
              (¬ (gI s29 a0 10) = (nI 0) →
                sh s29 a0 6 15 ∧ nw (wrI s29 a0 14 x17) (fun s31 =>
                wp E 164 12 [.ref a0, .int a1] [] s31 Q)))))))))))) : wp E 164 12 [.ref a0, .int a1] [] s Q := vc_ok E 164 [12] Q 43 false 12 _ _ _ h
-- 165 CoatedBridgesModel.fault(I)I
theorem sg165_0 {E : AEnv} {a0 : Nat} {a1 : Int32} {s : ASt} {Q : Option Value → ASt → Prop} (h :
  cI E 92 [.int a1, .int (nI 0), .int (nI 2)] s (fun x2 s1 =>
  (x2 ≠ (nI 0) →
    sh s1 a0 6 15 ∧ ∃ r3, rf s1 a0 0 r3 ∧ sh s1 a0 6 15 ∧ ∃ r4, rf s1 a0 2 r4 ∧ cV E 93 [.ref r3, .int (nI 0), .ref r4, .int (nI 0)] s1 (fun s5 =>
    sh s5 a0 6 15 ∧ cI E 164 [.ref a0] s5 (fun x7 s6 =>
    sh s6 a0 6 15 ∧ ∃ r8, rf s6 a0 2 r8 ∧ sh s6 a0 6 15 ∧ ∃ r9, rf s6 a0 0 r9 ∧ cV E 93 [.ref r8, .int (nI 0), .ref r9, .int (nI 0)] s6 (fun s10 =>
    sh s10 a0 6 15 ∧ ((gI s10 a0 13) ≠ (nI 0) →
      (a1 ≠ (nI 0) →
        (a1 ≠ (nI 1) →
          sh s10 a0 6 15 ∧ Q (some (.int (gI s10 a0 14))) s10) ∧
        (¬ a1 ≠ (nI 1) →
          sh s10 a0 6 15 ∧ Q (some (.int (gI s10 a0 13))) s10)) ∧
      (¬ a1 ≠ (nI 0) →
        sh s10 a0 6 15 ∧ Q (some (.int (gI s10 a0 9))) s10)) ∧
    (¬ (gI s10 a0 13) ≠ (nI 0) →
      Q (some (.int (-1000004 : Int32))) s10))))) ∧
  (¬ x2 ≠ (nI 0) →
    Q (some (.int (-1000001 : Int32))) s1))) : wp E 165 0 [.ref a0, .int a1] [] s Q := vc_ok E 165 [] Q 35 false 0 _ _ _ h
-- 166 CoatedBridgesModel.play()I
theorem sg166_0 {E : AEnv} {a0 : Nat} {s : ASt} {Q : Option Value → ASt → Prop} (h :
  sh s a0 6 15 ∧ ∃ r1, rf s a0 0 r1 ∧ sh s a0 6 15 ∧ ∃ r2, rf s a0 2 r2 ∧ cV E 93 [.ref r1, .int (nI 0), .ref r2, .int (nI 0)] s (fun s3 =>
  sh s3 a0 6 15 ∧ cI E 164 [.ref a0] s3 (fun x5 s4 =>
  sh s4 a0 6 15 ∧ ∃ r6, rf s4 a0 2 r6 ∧ sh s4 a0 6 15 ∧ ∃ r7, rf s4 a0 0 r7 ∧ cV E 93 [.ref r6, .int (nI 0), .ref r7, .int (nI 0)] s4 (fun s8 =>
  sh s8 a0 6 15 ∧ ((gI s8 a0 13) ≤ (nI 0) →
    sh s8 a0 6 15 ∧ cV E 94 [.ref a0] s8 (fun s9 =>
    sh s9 a0 6 15 ∧ cI E 164 [.ref a0] s9 (fun x11 s10 =>
    Q (some (.int x11)) s10))) ∧
  (¬ (gI s8 a0 13) ≤ (nI 0) →
    Q (some (.int (-1000002 : Int32))) s8))))) : wp E 166 0 [.ref a0] [] s Q := vc_ok E 166 [] Q 28 false 0 _ _ _ h
-- 167 java/lang/Float.isNaN(F)Z
theorem sg167_0 {E : AEnv} {a0 : UInt32} {s : ASt} {Q : Option Value → ASt → Prop} (h :
  ((Op.cmpValue (FP.fcmp a0 a0) .l) = (nI 0) →
    fN .boolean (nI 0) = true ∧ Q (some (.int (nI 0))) s) ∧
  (¬ (Op.cmpValue (FP.fcmp a0 a0) .l) = (nI 0) →
    fN .boolean (nI 1) = true ∧ Q (some (.int (nI 1))) s)) : wp E 167 0 [.float a0] [] s Q := vc_ok E 167 [] Q 8 false 0 _ _ _ h
-- 168 java/lang/Float.floatToIntBits(F)I
theorem sg168_0 {E : AEnv} {a0 : UInt32} {s : ASt} {Q : Option Value → ASt → Prop} (h :
  cI E 167 [.float a0] s (fun x2 s1 =>
  (x2 ≠ (nI 0) →
    Q (some (.int (nI 2143289344))) s1) ∧
  (¬ x2 ≠ (nI 0) →
    Q (some (.int (a0).toInt32)) s1))) : wp E 168 0 [.float a0] [] s Q := vc_ok E 168 [] Q 7 false 0 _ _ _ h
-- 169 java/lang/Integer.numberOfTrailingZeros(I)I
theorem sg169_0 {E : AEnv} {a0 : Int32} {s : ASt} {Q : Option Value → ASt → Prop} (h :
  ((nI 0) < ((a0 ^^^ (-1 : Int32)) &&& (a0 - (nI 1))) →
    (((a0 ^^^ (-1 : Int32)) &&& (a0 - (nI 1))) ≤ (nI 65536) →
      (((a0 ^^^ (-1 : Int32)) &&& (a0 - (nI 1))) ≤ (nI 256) →
        (((a0 ^^^ (-1 : Int32)) &&& (a0 - (nI 1))) ≤ (nI 16) →
          (((a0 ^^^ (-1 : Int32)) &&& (a0 - (nI 1))) ≤ (nI 4) →
            Q (some (.int ((nI 1) + ((((a0 ^^^ (-1 : Int32)) &&& (a0 - (nI 1)))).toUInt32 >>> (((nI 1)).toUInt32 &&& Int32.toUInt32 31)).toInt32))) s) ∧
          (¬ ((a0 ^^^ (-1 : Int32)) &&& (a0 - (nI 1))) ≤ (nI 4) →
            Q (some (.int (((nI 1) + (nI 2)) + ((((((a0 ^^^ (-1 : Int32)) &&& (a0 - (nI 1)))).toUInt32 >>> (((nI 2)).toUInt32 &&& Int32.toUInt32 31)).toInt32).toUInt32 >>> (((nI 1)).toUInt32 &&& Int32.toUInt32 31)).toInt32))) s)) ∧
        (¬ ((a0 ^^^ (-1 : Int32)) &&& (a0 - (nI 1))) ≤ (nI 16) →
          (((((a0 ^^^ (-1 : Int32)) &&& (a0 - (nI 1)))).toUInt32 >>> (((nI 4)).toUInt32 &&& Int32.toUInt32 31)).toInt32 ≤ (nI 4) →
            Q (some (.int (((nI 1) + (nI 4)) + ((((((a0 ^^^ (-1 : Int32)) &&& (a0 - (nI 1)))).toUInt32 >>> (((nI 4)).toUInt32 &&& Int32.toUInt32 31)).toInt32).toUInt32 >>> (((nI 1)).toUInt32 &&& Int32.toUInt32 31)).toInt32))) s) ∧
          (¬ ((((a0 ^^^ (-1 : Int32)) &&& (a0 - (nI 1)))).toUInt32 >>> (((nI 4)).toUInt32 &&& Int32.toUInt32 31)).toInt32 ≤ (nI 4) →
            Q (some (.int ((((nI 1) + (nI 4)) + (nI 2)) + ((((((((a0 ^^^ (-1 : Int32)) &&& (a0 - (nI 1)))).toUInt32 >>> (((nI 4)).toUInt32 &&& Int32.toUInt32 31)).toInt32).toUInt32 >>> (((nI 2)).toUInt32 &&& Int32.toUInt32 31)).toInt32).toUInt32 >>> (((nI 1)).toUInt32 &&& Int32.toUInt32 31)).toInt32))) s))) ∧
      (¬ ((a0 ^^^ (-1 : Int32)) &&& (a0 - (nI 1))) ≤ (nI 256) →
        (((((a0 ^^^ (-1 : Int32)) &&& (a0 - (nI 1)))).toUInt32 >>> (((nI 8)).toUInt32 &&& Int32.toUInt32 31)).toInt32 ≤ (nI 16) →
          (((((a0 ^^^ (-1 : Int32)) &&& (a0 - (nI 1)))).toUInt32 >>> (((nI 8)).toUInt32 &&& Int32.toUInt32 31)).toInt32 ≤ (nI 4) →
            Q (some (.int (((nI 1) + (nI 8)) + ((((((a0 ^^^ (-1 : Int32)) &&& (a0 - (nI 1)))).toUInt32 >>> (((nI 8)).toUInt32 &&& Int32.toUInt32 31)).toInt32).toUInt32 >>> (((nI 1)).toUInt32 &&& Int32.toUInt32 31)).toInt32))) s) ∧
          (¬ ((((a0 ^^^ (-1 : Int32)) &&& (a0 - (nI 1)))).toUInt32 >>> (((nI 8)).toUInt32 &&& Int32.toUInt32 31)).toInt32 ≤ (nI 4) →
            Q (some (.int ((((nI 1) + (nI 8)) + (nI 2)) + ((((((((a0 ^^^ (-1 : Int32)) &&& (a0 - (nI 1)))).toUInt32 >>> (((nI 8)).toUInt32 &&& Int32.toUInt32 31)).toInt32).toUInt32 >>> (((nI 2)).toUInt32 &&& Int32.toUInt32 31)).toInt32).toUInt32 >>> (((nI 1)).toUInt32 &&& Int32.toUInt32 31)).toInt32))) s)) ∧
        (¬ ((((a0 ^^^ (-1 : Int32)) &&& (a0 - (nI 1)))).toUInt32 >>> (((nI 8)).toUInt32 &&& Int32.toUInt32 31)).toInt32 ≤ (nI 16) →
          (((((((a0 ^^^ (-1 : Int32)) &&& (a0 - (nI 1)))).toUInt32 >>> (((nI 8)).toUInt32 &&& Int32.toUInt32 31)).toInt32).toUInt32 >>> (((nI 4)).toUInt32 &&& Int32.toUInt32 31)).toInt32 ≤ (nI 4) →
            Q (some (.int ((((nI 1) + (nI 8)) + (nI 4)) + ((((((((a0 ^^^ (-1 : Int32)) &&& (a0 - (nI 1)))).toUInt32 >>> (((nI 8)).toUInt32 &&& Int32.toUInt32 31)).toInt32).toUInt32 >>> (((nI 4)).toUInt32 &&& Int32.toUInt32 31)).toInt32).toUInt32 >>> (((nI 1)).toUInt32 &&& Int32.toUInt32 31)).toInt32))) s) ∧
          (¬ ((((((a0 ^^^ (-1 : Int32)) &&& (a0 - (nI 1)))).toUInt32 >>> (((nI 8)).toUInt32 &&& Int32.toUInt32 31)).toInt32).toUInt32 >>> (((nI 4)).toUInt32 &&& Int32.toUInt32 31)).toInt32 ≤ (nI 4) →
            Q (some (.int (((((nI 1) + (nI 8)) + (nI 4)) + (nI 2)) + ((((((((((a0 ^^^ (-1 : Int32)) &&& (a0 - (nI 1)))).toUInt32 >>> (((nI 8)).toUInt32 &&& Int32.toUInt32 31)).toInt32).toUInt32 >>> (((nI 4)).toUInt32 &&& Int32.toUInt32 31)).toInt32).toUInt32 >>> (((nI 2)).toUInt32 &&& Int32.toUInt32 31)).toInt32).toUInt32 >>> (((nI 1)).toUInt32 &&& Int32.toUInt32 31)).toInt32))) s)))) ∧
    (¬ ((a0 ^^^ (-1 : Int32)) &&& (a0 - (nI 1))) ≤ (nI 65536) →
      (((((a0 ^^^ (-1 : Int32)) &&& (a0 - (nI 1)))).toUInt32 >>> (((nI 16)).toUInt32 &&& Int32.toUInt32 31)).toInt32 ≤ (nI 256) →
        (((((a0 ^^^ (-1 : Int32)) &&& (a0 - (nI 1)))).toUInt32 >>> (((nI 16)).toUInt32 &&& Int32.toUInt32 31)).toInt32 ≤ (nI 16) →
          (((((a0 ^^^ (-1 : Int32)) &&& (a0 - (nI 1)))).toUInt32 >>> (((nI 16)).toUInt32 &&& Int32.toUInt32 31)).toInt32 ≤ (nI 4) →
            Q (some (.int (((nI 1) + (nI 16)) + ((((((a0 ^^^ (-1 : Int32)) &&& (a0 - (nI 1)))).toUInt32 >>> (((nI 16)).toUInt32 &&& Int32.toUInt32 31)).toInt32).toUInt32 >>> (((nI 1)).toUInt32 &&& Int32.toUInt32 31)).toInt32))) s) ∧
          (¬ ((((a0 ^^^ (-1 : Int32)) &&& (a0 - (nI 1)))).toUInt32 >>> (((nI 16)).toUInt32 &&& Int32.toUInt32 31)).toInt32 ≤ (nI 4) →
            Q (some (.int ((((nI 1) + (nI 16)) + (nI 2)) + ((((((((a0 ^^^ (-1 : Int32)) &&& (a0 - (nI 1)))).toUInt32 >>> (((nI 16)).toUInt32 &&& Int32.toUInt32 31)).toInt32).toUInt32 >>> (((nI 2)).toUInt32 &&& Int32.toUInt32 31)).toInt32).toUInt32 >>> (((nI 1)).toUInt32 &&& Int32.toUInt32 31)).toInt32))) s)) ∧
        (¬ ((((a0 ^^^ (-1 : Int32)) &&& (a0 - (nI 1)))).toUInt32 >>> (((nI 16)).toUInt32 &&& Int32.toUInt32 31)).toInt32 ≤ (nI 16) →
          (((((((a0 ^^^ (-1 : Int32)) &&& (a0 - (nI 1)))).toUInt32 >>> (((nI 16)).toUInt32 &&& Int32.toUInt32 31)).toInt32).toUInt32 >>> (((nI 4)).toUInt32 &&& Int32.toUInt32 31)).toInt32 ≤ (nI 4) →
            Q (some (.int ((((nI 1) + (nI 16)) + (nI 4)) + ((((((((a0 ^^^ (-1 : Int32)) &&& (a0 - (nI 1)))).toUInt32 >>> (((nI 16)).toUInt32 &&& Int32.toUInt32 31)).toInt32).toUInt32 >>> (((nI 4)).toUInt32 &&& Int32.toUInt32 31)).toInt32).toUInt32 >>> (((nI 1)).toUInt32 &&& Int32.toUInt32 31)).toInt32))) s) ∧
          (¬ ((((((a0 ^^^ (-1 : Int32)) &&& (a0 - (nI 1)))).toUInt32 >>> (((nI 16)).toUInt32 &&& Int32.toUInt32 31)).toInt32).toUInt32 >>> (((nI 4)).toUInt32 &&& Int32.toUInt32 31)).toInt32 ≤ (nI 4) →
            Q (some (.int (((((nI 1) + (nI 16)) + (nI 4)) + (nI 2)) + ((((((((((a0 ^^^ (-1 : Int32)) &&& (a0 - (nI 1)))).toUInt32 >>> (((nI 16)).toUInt32 &&& Int32.toUInt32 31)).toInt32).toUInt32 >>> (((nI 4)).toUInt32 &&& Int32.toUInt32 31)).toInt32).toUInt32 >>> (((nI 2)).toUInt32 &&& Int32.toUInt32 31)).toInt32).toUInt32 >>> (((nI 1)).toUInt32 &&& Int32.toUInt32 31)).toInt32))) s))) ∧
      (¬ ((((a0 ^^^ (-1 : Int32)) &&& (a0 - (nI 1)))).toUInt32 >>> (((nI 16)).toUInt32 &&& Int32.toUInt32 31)).toInt32 ≤ (nI 256) →
        (((((((a0 ^^^ (-1 : Int32)) &&& (a0 - (nI 1)))).toUInt32 >>> (((nI 16)).toUInt32 &&& Int32.toUInt32 31)).toInt32).toUInt32 >>> (((nI 8)).toUInt32 &&& Int32.toUInt32 31)).toInt32 ≤ (nI 16) →
          (((((((a0 ^^^ (-1 : Int32)) &&& (a0 - (nI 1)))).toUInt32 >>> (((nI 16)).toUInt32 &&& Int32.toUInt32 31)).toInt32).toUInt32 >>> (((nI 8)).toUInt32 &&& Int32.toUInt32 31)).toInt32 ≤ (nI 4) →
            Q (some (.int ((((nI 1) + (nI 16)) + (nI 8)) + ((((((((a0 ^^^ (-1 : Int32)) &&& (a0 - (nI 1)))).toUInt32 >>> (((nI 16)).toUInt32 &&& Int32.toUInt32 31)).toInt32).toUInt32 >>> (((nI 8)).toUInt32 &&& Int32.toUInt32 31)).toInt32).toUInt32 >>> (((nI 1)).toUInt32 &&& Int32.toUInt32 31)).toInt32))) s) ∧
          (¬ ((((((a0 ^^^ (-1 : Int32)) &&& (a0 - (nI 1)))).toUInt32 >>> (((nI 16)).toUInt32 &&& Int32.toUInt32 31)).toInt32).toUInt32 >>> (((nI 8)).toUInt32 &&& Int32.toUInt32 31)).toInt32 ≤ (nI 4) →
            Q (some (.int (((((nI 1) + (nI 16)) + (nI 8)) + (nI 2)) + ((((((((((a0 ^^^ (-1 : Int32)) &&& (a0 - (nI 1)))).toUInt32 >>> (((nI 16)).toUInt32 &&& Int32.toUInt32 31)).toInt32).toUInt32 >>> (((nI 8)).toUInt32 &&& Int32.toUInt32 31)).toInt32).toUInt32 >>> (((nI 2)).toUInt32 &&& Int32.toUInt32 31)).toInt32).toUInt32 >>> (((nI 1)).toUInt32 &&& Int32.toUInt32 31)).toInt32))) s)) ∧
        (¬ ((((((a0 ^^^ (-1 : Int32)) &&& (a0 - (nI 1)))).toUInt32 >>> (((nI 16)).toUInt32 &&& Int32.toUInt32 31)).toInt32).toUInt32 >>> (((nI 8)).toUInt32 &&& Int32.toUInt32 31)).toInt32 ≤ (nI 16) →
          (((((((((a0 ^^^ (-1 : Int32)) &&& (a0 - (nI 1)))).toUInt32 >>> (((nI 16)).toUInt32 &&& Int32.toUInt32 31)).toInt32).toUInt32 >>> (((nI 8)).toUInt32 &&& Int32.toUInt32 31)).toInt32).toUInt32 >>> (((nI 4)).toUInt32 &&& Int32.toUInt32 31)).toInt32 ≤ (nI 4) →
            Q (some (.int (((((nI 1) + (nI 16)) + (nI 8)) + (nI 4)) + ((((((((((a0 ^^^ (-1 : Int32)) &&& (a0 - (nI 1)))).toUInt32 >>> (((nI 16)).toUInt32 &&& Int32.toUInt32 31)).toInt32).toUInt32 >>> (((nI 8)).toUInt32 &&& Int32.toUInt32 31)).toInt32).toUInt32 >>> (((nI 4)).toUInt32 &&& Int32.toUInt32 31)).toInt32).toUInt32 >>> (((nI 1)).toUInt32 &&& Int32.toUInt32 31)).toInt32))) s) ∧
          (¬ ((((((((a0 ^^^ (-1 : Int32)) &&& (a0 - (nI 1)))).toUInt32 >>> (((nI 16)).toUInt32 &&& Int32.toUInt32 31)).toInt32).toUInt32 >>> (((nI 8)).toUInt32 &&& Int32.toUInt32 31)).toInt32).toUInt32 >>> (((nI 4)).toUInt32 &&& Int32.toUInt32 31)).toInt32 ≤ (nI 4) →
            Q (some (.int ((((((nI 1) + (nI 16)) + (nI 8)) + (nI 4)) + (nI 2)) + ((((((((((((a0 ^^^ (-1 : Int32)) &&& (a0 - (nI 1)))).toUInt32 >>> (((nI 16)).toUInt32 &&& Int32.toUInt32 31)).toInt32).toUInt32 >>> (((nI 8)).toUInt32 &&& Int32.toUInt32 31)).toInt32).toUInt32 >>> (((nI 4)).toUInt32 &&& Int32.toUInt32 31)).toInt32).toUInt32 >>> (((nI 2)).toUInt32 &&& Int32.toUInt32 31)).toInt32).toUInt32 >>> (((nI 1)).toUInt32 &&& Int32.toUInt32 31)).toInt32))) s))))) ∧
  (¬ (nI 0) < ((a0 ^^^ (-1 : Int32)) &&& (a0 - (nI 1))) →
    Q (some (.int (((a0 ^^^ (-1 : Int32)) &&& (a0 - (nI 1))) &&& (nI 32)))) s)) : wp E 169 0 [.int a0] [] s Q := vc_ok E 169 [] Q 51 false 0 _ _ _ h
-- 170 java/lang/Integer.bitCount(I)I
theorem sg170_0 {E : AEnv} {a0 : Int32} {s : ASt} {Q : Option Value → ASt → Prop} (h :
  Q (some (.int ((((((((a0 - (((a0).toUInt32 >>> (((nI 1)).toUInt32 &&& Int32.toUInt32 31)).toInt32 &&& (nI 1431655765))) &&& (nI 858993459)) + ((((a0 - (((a0).toUInt32 >>> (((nI 1)).toUInt32 &&& Int32.toUInt32 31)).toInt32 &&& (nI 1431655765)))).toUInt32 >>> (((nI 2)).toUInt32 &&& Int32.toUInt32 31)).toInt32 &&& (nI 858993459))) + (((((a0 - (((a0).toUInt32 >>> (((nI 1)).toUInt32 &&& Int32.toUInt32 31)).toInt32 &&& (nI 1431655765))) &&& (nI 858993459)) + ((((a0 - (((a0).toUInt32 >>> (((nI 1)).toUInt32 &&& Int32.toUInt32 31)).toInt32 &&& (nI 1431655765)))).toUInt32 >>> (((nI 2)).toUInt32 &&& Int32.toUInt32 31)).toInt32 &&& (nI 858993459)))).toUInt32 >>> (((nI 4)).toUInt32 &&& Int32.toUInt32 31)).toInt32) &&& (nI 252645135)) + (((((((a0 - (((a0).toUInt32 >>> (((nI 1)).toUInt32 &&& Int32.toUInt32 31)).toInt32 &&& (nI 1431655765))) &&& (nI 858993459)) + ((((a0 - (((a0).toUInt32 >>> (((nI 1)).toUInt32 &&& Int32.toUInt32 31)).toInt32 &&& (nI 1431655765)))).toUInt32 >>> (((nI 2)).toUInt32 &&& Int32.toUInt32 31)).toInt32 &&& (nI 858993459))) + (((((a0 - (((a0).toUInt32 >>> (((nI 1)).toUInt32 &&& Int32.toUInt32 31)).toInt32 &&& (nI 1431655765))) &&& (nI 858993459)) + ((((a0 - (((a0).toUInt32 >>> (((nI 1)).toUInt32 &&& Int32.toUInt32 31)).toInt32 &&& (nI 1431655765)))).toUInt32 >>> (((nI 2)).toUInt32 &&& Int32.toUInt32 31)).toInt32 &&& (nI 858993459)))).toUInt32 >>> (((nI 4)).toUInt32 &&& Int32.toUInt32 31)).toInt32) &&& (nI 252645135))).toUInt32 >>> (((nI 8)).toUInt32 &&& Int32.toUInt32 31)).toInt32) + ((((((((a0 - (((a0).toUInt32 >>> (((nI 1)).toUInt32 &&& Int32.toUInt32 31)).toInt32 &&& (nI 1431655765))) &&& (nI 858993459)) + ((((a0 - (((a0).toUInt32 >>> (((nI 1)).toUInt32 &&& Int32.toUInt32 31)).toInt32 &&& (nI 1431655765)))).toUInt32 >>> (((nI 2)).toUInt32 &&& Int32.toUInt32 31)).toInt32 &&& (nI 858993459))) + (((((a0 - (((a0).toUInt32 >>> (((nI 1)).toUInt32 &&& Int32.toUInt32 31)).toInt32 &&& (nI 1431655765))) &&& (nI 858993459)) + ((((a0 - (((a0).toUInt32 >>> (((nI 1)).toUInt32 &&& Int32.toUInt32 31)).toInt32 &&& (nI 1431655765)))).toUInt32 >>> (((nI 2)).toUInt32 &&& Int32.toUInt32 31)).toInt32 &&& (nI 858993459)))).toUInt32 >>> (((nI 4)).toUInt32 &&& Int32.toUInt32 31)).toInt32) &&& (nI 252645135)) + (((((((a0 - (((a0).toUInt32 >>> (((nI 1)).toUInt32 &&& Int32.toUInt32 31)).toInt32 &&& (nI 1431655765))) &&& (nI 858993459)) + ((((a0 - (((a0).toUInt32 >>> (((nI 1)).toUInt32 &&& Int32.toUInt32 31)).toInt32 &&& (nI 1431655765)))).toUInt32 >>> (((nI 2)).toUInt32 &&& Int32.toUInt32 31)).toInt32 &&& (nI 858993459))) + (((((a0 - (((a0).toUInt32 >>> (((nI 1)).toUInt32 &&& Int32.toUInt32 31)).toInt32 &&& (nI 1431655765))) &&& (nI 858993459)) + ((((a0 - (((a0).toUInt32 >>> (((nI 1)).toUInt32 &&& Int32.toUInt32 31)).toInt32 &&& (nI 1431655765)))).toUInt32 >>> (((nI 2)).toUInt32 &&& Int32.toUInt32 31)).toInt32 &&& (nI 858993459)))).toUInt32 >>> (((nI 4)).toUInt32 &&& Int32.toUInt32 31)).toInt32) &&& (nI 252645135))).toUInt32 >>> (((nI 8)).toUInt32 &&& Int32.toUInt32 31)).toInt32)).toUInt32 >>> (((nI 16)).toUInt32 &&& Int32.toUInt32 31)).toInt32) &&& (nI 63)))) s) : wp E 170 0 [.int a0] [] s Q := vc_ok E 170 [] Q 43 false 0 _ _ _ h
-- 171 java/lang/Math.max(II)I
theorem sg171_0 {E : AEnv} {a0 : Int32} {a1 : Int32} {s : ASt} {Q : Option Value → ASt → Prop} (h :
  (a0 < a1 →
    Q (some (.int a1)) s) ∧
  (¬ a0 < a1 →
    Q (some (.int a0)) s)) : wp E 171 0 [.int a0, .int a1] [] s Q := vc_ok E 171 [] Q 7 false 0 _ _ _ h
-- 172 java/lang/Math.min(II)I
theorem sg172_0 {E : AEnv} {a0 : Int32} {a1 : Int32} {s : ASt} {Q : Option Value → ASt → Prop} (h :
  (a1 < a0 →
    Q (some (.int a1)) s) ∧
  (¬ a1 < a0 →
    Q (some (.int a0)) s)) : wp E 172 0 [.int a0, .int a1] [] s Q := vc_ok E 172 [] Q 7 false 0 _ _ _ h
end
section
/-! the memory behind both constructors (by the kernel), and the words for it -/
def SHP : List (Nat × Nat) := [(5, 9), (3, 11), (13, 8), (14, 14), (10, 8), (0, 3), (10, 8), (10, 8), (2, 5), (2, 5), (2, 5), (2, 5), (2, 5), (2, 5), (2, 5), (2, 5), (1, 9), (1, 9), (1, 9), (1, 9), (1, 9), (1, 9), (1, 9), (1, 9), (1, 9), (1, 9), (1, 9), (1, 9), (1, 9), (1, 9), (3, 11), (13, 8), (14, 14), (10, 8), (0, 3), (10, 8), (10, 8), (2, 5), (2, 5), (2, 5), (2, 5), (2, 5), (2, 5), (2, 5), (2, 5), (1, 9), (1, 9), (1, 9), (1, 9), (1, 9), (1, 9), (1, 9), (1, 9), (1, 9), (1, 9), (1, 9), (1, 9), (1, 9), (1, 9), (15, 4), (4, 5), (11, 60), (10, 3), (3, 11), (13, 8), (14, 14), (10, 8), (0, 3), (10, 8), (10, 8), (2, 5), (2, 5), (2, 5), (2, 5), (2, 5), (2, 5), (2, 5), (2, 5), (1, 9), (1, 9), (1, 9), (1, 9), (1, 9), (1, 9), (1, 9), (1, 9), (1, 9), (1, 9), (1, 9), (1, 9), (1, 9), (1, 9), (3, 11), (13, 8), (14, 14), (10, 8), (0, 3), (10, 8), (10, 8), (2, 5), (2, 5), (2, 5), (2, 5), (2, 5), (2, 5), (2, 5), (2, 5), (1, 9), (1, 9), (1, 9), (1, 9), (1, 9), (1, 9), (1, 9), (1, 9), (1, 9), (1, 9), (1, 9), (1, 9), (1, 9), (1, 9), (3, 11), (13, 8), (14, 14), (10, 8), (0, 3), (10, 8), (10, 8), (2, 5), (2, 5), (2, 5), (2, 5), (2, 5), (2, 5), (2, 5), (2, 5), (1, 9), (1, 9), (1, 9), (1, 9), (1, 9), (1, 9), (1, 9), (1, 9), (1, 9), (1, 9), (1, 9), (1, 9), (1, 9), (1, 9), (3, 11), (13, 8), (14, 14), (10, 8), (0, 3), (10, 8), (10, 8), (2, 5), (2, 5), (2, 5), (2, 5), (2, 5), (2, 5), (2, 5), (2, 5), (1, 9), (1, 9), (1, 9), (1, 9), (1, 9), (1, 9), (1, 9), (1, 9), (1, 9), (1, 9), (1, 9), (1, 9), (1, 9), (1, 9), (6, 15), (10, 184), (10, 184), (10, 184), (10, 736), (10, 60), (12, 14), (10, 3)]
def isB (B : Nat) : Prop := B = 1 ∨ B = 30 ∨ B = 63 ∨ B = 92 ∨ B = 121 ∨ B = 150
/-- the references that never change: cell, slot, cell -/
def RFX : List (Nat × Nat × Nat) := [(0, 2, 59), (0, 4, 60), (1, 0, 2), (1, 1, 3), (1, 2, 4), (1, 3, 5), (2, 0, 8), (2, 1, 9), (2, 2, 10), (2, 3, 11), (2, 4, 12), (2, 5, 13), (2, 6, 14), (2, 7, 15), (3, 0, 16), (3, 1, 17), (3, 2, 18), (3, 3, 19), (3, 4, 20), (3, 5, 21), (3, 6, 22), (3, 7, 23), (3, 8, 24), (3, 9, 25), (3, 10, 26), (3, 11, 27), (3, 12, 28), (3, 13, 29), (5, 0, 6), (5, 1, 7), (30, 0, 31), (30, 1, 32), (30, 2, 33), (30, 3, 34), (31, 0, 37), (31, 1, 38), (31, 2, 39), (31, 3, 40), (31, 4, 41), (31, 5, 42), (31, 6, 43), (31, 7, 44), (32, 0, 45), (32, 1, 46), (32, 2, 47), (32, 3, 48), (32, 4, 49), (32, 5, 50), (32, 6, 51), (32, 7, 52), (32, 8, 53), (32, 9, 54), (32, 10, 55), (32, 11, 56), (32, 12, 57), (32, 13, 58), (34, 0, 35), (34, 1, 36), (60, 0, 61), (60, 2, 62), (63, 0, 64), (63, 1, 65), (63, 2, 66), (63, 3, 67), (64, 0, 70), (64, 1, 71), (64, 2, 72), (64, 3, 73), (64, 4, 74), (64, 5, 75), (64, 6, 76), (64, 7, 77), (65, 0, 78), (65, 1, 79), (65, 2, 80), (65, 3, 81), (65, 4, 82), (65, 5, 83), (65, 6, 84), (65, 7, 85), (65, 8, 86), (65, 9, 87), (65, 10, 88), (65, 11, 89), (65, 12, 90), (65, 13, 91), (67, 0, 68), (67, 1, 69), (92, 0, 93), (92, 1, 94), (92, 2, 95), (92, 3, 96), (93, 0, 99), (93, 1, 100), (93, 2, 101), (93, 3, 102), (93, 4, 103), (93, 5, 104), (93, 6, 105), (93, 7, 106), (94, 0, 107), (94, 1, 108), (94, 2, 109), (94, 3, 110), (94, 4, 111), (94, 5, 112), (94, 6, 113), (94, 7, 114), (94, 8, 115), (94, 9, 116), (94, 10, 117), (94, 11, 118), (94, 12, 119), (94, 13, 120), (96, 0, 97), (96, 1, 98), (121, 0, 122), (121, 1, 123), (121, 2, 124), (121, 3, 125), (122, 0, 128), (122, 1, 129), (122, 2, 130), (122, 3, 131), (122, 4, 132), (122, 5, 133), (122, 6, 134), (122, 7, 135), (123, 0, 136), (123, 1, 137), (123, 2, 138), (123, 3, 139), (123, 4, 140), (123, 5, 141), (123, 6, 142), (123, 7, 143), (123, 8, 144), (123, 9, 145), (123, 10, 146), (123, 11, 147), (123, 12, 148), (123, 13, 149), (125, 0, 126), (125, 1, 127), (150, 0, 151), (150, 1, 152), (150, 2, 153), (150, 3, 154), (151, 0, 157), (151, 1, 158), (151, 2, 159), (151, 3, 160), (151, 4, 161), (151, 5, 162), (151, 6, 163), (151, 7, 164), (152, 0, 165), (152, 1, 166), (152, 2, 167), (152, 3, 168), (152, 4, 169), (152, 5, 170), (152, 6, 171), (152, 7, 172), (152, 8, 173), (152, 9, 174), (152, 10, 175), (152, 11, 176), (152, 12, 177), (152, 13, 178), (154, 0, 155), (154, 1, 156), (179, 0, 180), (179, 1, 181), (179, 2, 182), (179, 3, 183), (179, 5, 184), (179, 7, 185), (179, 12, 186)]
def MI (σ : ASt) : Prop := σ.1 = SHP ∧ ∀ q ∈ RFX, rf σ q.1 q.2.1 q.2.2
def env0 : AEnv := lawE 0 (fun _ => 0)
/-- the constructors and what they call -/
def cSet : List Nat := [0, 6, 14, 18, 50, 57, 91]
def cClo : Bool := cSet.all fun mi => (mCode mi).all fun e => match e.2.1 with
  | .laload => false
  | .arraylength => false
  | .invokevirtual t => cSet.any (Nat.beq t)
  | .invokestatic t => cSet.any (Nat.beq t)
  | _ => true
theorem cClo_ok : cClo = true := by decide +kernel
theorem fnd_mm {pc : Nat} {q : Instr × Nat × Nat} : ∀ (l : List AEnt), fnd l pc = some q → ∃ e ∈ l, e.2 = q
  | [], h => by cases h
  | e :: t, h => by
    rw [fnd] at h
    cases hb : Nat.beq e.1 pc with
    | true => rw [hb] at h; cases h; exact ⟨e, List.mem_cons_self, rfl⟩
    | false =>
      rw [hb] at h
      obtain ⟨e', h1, h2⟩ := fnd_mm t h
      exact ⟨e', List.mem_cons_of_mem _ h1, h2⟩
theorem step_env {E E' : AEnv} (h0 : E 0 = E' 0) {o : Instr} (h1 : o ≠ .laload) (h2 : o ≠ .arraylength) (pc : Nat) (ls st : List Value) (σ : ASt) : step E o pc ls st σ = step E' o pc ls st σ := by
  unfold step
  split
  all_goals first
    | rfl
    | exact absurd rfl h1
    | exact absurd rfl h2
    | rw [h0]
theorem call_in {E : AEnv} {o : Instr} {nx c : Nat} {ls st as st' : List Value} {σ : ASt} (h : step E o nx ls st σ = some (.inr (.inl (c, as, st')))) : o = .invokevirtual c ∨ o = .invokestatic c := by
  unfold step at h
  split at h
  all_goals (try simp only [s_alu, s_falu, s_store, s_aload, s_astore, go] at h)
  all_goals (repeat' split at h)
  all_goals first
    | (cases h; done)
    | skip
  · left
    unfold s_call at h
    dsimp only at h
    repeat' split at h
    all_goals (first | (cases h; done) | (cases h; rfl))
  · right
    unfold s_call at h
    dsimp only at h
    repeat' split at h
    all_goals (first | (cases h; done) | (cases h; rfl))
theorem ex_env {E E' : AEnv} (h0 : E 0 = E' 0) : ∀ (n mi pc : Nat) (ls st : List Value) (σ : ASt), mi ∈ cSet → ex E n mi pc ls st σ = ex E' n mi pc ls st σ := by
  intro n
  induction n with
  | zero => intros; rfl
  | succ n ih =>
    intro mi pc ls st σ hm
    rw [ex, ex]
    cases hf : fnd (mCode mi) pc with
    | none => rfl
    | some q =>
      obtain ⟨o, nx, ct⟩ := q
      obtain ⟨e, he, heq⟩ := fnd_mm _ hf
      have hc := List.all_eq_true.mp (List.all_eq_true.mp cClo_ok mi hm) e he
      have ho : e.2.1 = o := by rw [heq]
      rw [ho] at hc
      have h1 : o ≠ .laload := fun z => by rw [z] at hc; cases hc
      have h2 : o ≠ .arraylength := fun z => by rw [z] at hc; cases hc
      dsimp only
      rw [step_env h0 h1 h2]
      cases hs : step E' o nx (ls.take ct) st σ with
      | none => rfl
      | some r =>
        rcases r with ⟨pc', ls', st', σ'⟩ | ⟨c, as, st'⟩ | r
        · exact ih _ _ _ _ _ hm
        · have hcm : c ∈ cSet := by
            rcases call_in hs with rfl | rfl
            · obtain ⟨x, hx, hb⟩ := List.any_eq_true.mp hc
              rw [Nat.eq_of_beq_eq_true hb]; exact hx
            · obtain ⟨x, hx, hb⟩ := List.any_eq_true.mp hc
              rw [Nat.eq_of_beq_eq_true hb]; exact hx
          dsimp only
          rw [ih c 0 as [] σ hcm]
          cases ex E' n c 0 as [] σ with
          | none => rfl
          | some y => exact ih _ _ _ _ _ hm
        · rfl
/-- every reference, and the ints that matter, behind the constructors -/
def RF0 : List (Nat × Nat × Nat) := [(0, 0, 1), (0, 1, 30), (0, 2, 59), (0, 4, 60), (1, 0, 2), (1, 1, 3), (1, 2, 4), (1, 3, 5), (2, 0, 8), (2, 1, 9), (2, 2, 10), (2, 3, 11), (2, 4, 12), (2, 5, 13), (2, 6, 14), (2, 7, 15), (3, 0, 16), (3, 1, 17), (3, 2, 18), (3, 3, 19), (3, 4, 20), (3, 5, 21), (3, 6, 22), (3, 7, 23), (3, 8, 24), (3, 9, 25), (3, 10, 26), (3, 11, 27), (3, 12, 28), (3, 13, 29), (5, 0, 6), (5, 1, 7), (30, 0, 31), (30, 1, 32), (30, 2, 33), (30, 3, 34), (31, 0, 37), (31, 1, 38), (31, 2, 39), (31, 3, 40), (31, 4, 41), (31, 5, 42), (31, 6, 43), (31, 7, 44), (32, 0, 45), (32, 1, 46), (32, 2, 47), (32, 3, 48), (32, 4, 49), (32, 5, 50), (32, 6, 51), (32, 7, 52), (32, 8, 53), (32, 9, 54), (32, 10, 55), (32, 11, 56), (32, 12, 57), (32, 13, 58), (34, 0, 35), (34, 1, 36), (59, 0, 63), (59, 1, 92), (59, 2, 121), (59, 3, 150), (60, 0, 61), (60, 2, 62), (63, 0, 64), (63, 1, 65), (63, 2, 66), (63, 3, 67), (64, 0, 70), (64, 1, 71), (64, 2, 72), (64, 3, 73), (64, 4, 74), (64, 5, 75), (64, 6, 76), (64, 7, 77), (65, 0, 78), (65, 1, 79), (65, 2, 80), (65, 3, 81), (65, 4, 82), (65, 5, 83), (65, 6, 84), (65, 7, 85), (65, 8, 86), (65, 9, 87), (65, 10, 88), (65, 11, 89), (65, 12, 90), (65, 13, 91), (67, 0, 68), (67, 1, 69), (92, 0, 93), (92, 1, 94), (92, 2, 95), (92, 3, 96), (93, 0, 99), (93, 1, 100), (93, 2, 101), (93, 3, 102), (93, 4, 103), (93, 5, 104), (93, 6, 105), (93, 7, 106), (94, 0, 107), (94, 1, 108), (94, 2, 109), (94, 3, 110), (94, 4, 111), (94, 5, 112), (94, 6, 113), (94, 7, 114), (94, 8, 115), (94, 9, 116), (94, 10, 117), (94, 11, 118), (94, 12, 119), (94, 13, 120), (96, 0, 97), (96, 1, 98), (121, 0, 122), (121, 1, 123), (121, 2, 124), (121, 3, 125), (122, 0, 128), (122, 1, 129), (122, 2, 130), (122, 3, 131), (122, 4, 132), (122, 5, 133), (122, 6, 134), (122, 7, 135), (123, 0, 136), (123, 1, 137), (123, 2, 138), (123, 3, 139), (123, 4, 140), (123, 5, 141), (123, 6, 142), (123, 7, 143), (123, 8, 144), (123, 9, 145), (123, 10, 146), (123, 11, 147), (123, 12, 148), (123, 13, 149), (125, 0, 126), (125, 1, 127), (150, 0, 151), (150, 1, 152), (150, 2, 153), (150, 3, 154), (151, 0, 157), (151, 1, 158), (151, 2, 159), (151, 3, 160), (151, 4, 161), (151, 5, 162), (151, 6, 163), (151, 7, 164), (152, 0, 165), (152, 1, 166), (152, 2, 167), (152, 3, 168), (152, 4, 169), (152, 5, 170), (152, 6, 171), (152, 7, 172), (152, 8, 173), (152, 9, 174), (152, 10, 175), (152, 11, 176), (152, 12, 177), (152, 13, 178), (154, 0, 155), (154, 1, 156), (179, 0, 180), (179, 1, 181), (179, 2, 182), (179, 3, 183), (179, 5, 184), (179, 7, 185), (179, 12, 186)]
def IN0 : List (Nat × Nat × Nat) := [(1, 4, 1), (1, 7, 200), (4, 0, 1), (4, 1, 30), (4, 2, 10), (4, 4, 3), (4, 5, 12), (4, 7, 40), (180, 1, 1), (180, 3, 1), (180, 4, 30), (180, 5, 10), (180, 7, 3), (180, 8, 12), (180, 10, 40), (180, 11, 200)]
def inz (c k : Nat) : Nat := match IN0.find? (fun q => Nat.beq q.1 c && Nat.beq q.2.1 k) with | some q => q.2.2 | none => 0
def INZ : List (Nat × Nat) := [(1, 0), (1, 1), (1, 2), (1, 3), (1, 4), (1, 5), (1, 6), (1, 7), (1, 8), (1, 9), (1, 10), (4, 0), (4, 1), (4, 2), (4, 3), (4, 4), (4, 5), (4, 6), (4, 7), (5, 0), (5, 1), (5, 2), (6, 0), (6, 1), (6, 2), (6, 3), (6, 4), (6, 5), (6, 6), (6, 7), (7, 0), (7, 1), (7, 2), (7, 3), (7, 4), (7, 5), (7, 6), (7, 7), (8, 0), (8, 1), (8, 2), (8, 3), (8, 4), (9, 0), (9, 1), (9, 2), (9, 3), (9, 4), (10, 0), (10, 1), (10, 2), (10, 3), (10, 4), (11, 0), (11, 1), (11, 2), (11, 3), (11, 4), (12, 0), (12, 1), (12, 2), (12, 3), (12, 4), (13, 0), (13, 1), (13, 2), (13, 3), (13, 4), (14, 0), (14, 1), (14, 2), (14, 3), (14, 4), (15, 0), (15, 1), (15, 2), (15, 3), (15, 4), (16, 0), (16, 1), (16, 2), (16, 3), (16, 4), (16, 5), (16, 6), (16, 7), (16, 8), (17, 0), (17, 1), (17, 2), (17, 3), (17, 4), (17, 5), (17, 6), (17, 7), (17, 8), (18, 0), (18, 1), (18, 2), (18, 3), (18, 4), (18, 5), (18, 6), (18, 7), (18, 8), (19, 0), (19, 1), (19, 2), (19, 3), (19, 4), (19, 5), (19, 6), (19, 7), (19, 8), (20, 0), (20, 1), (20, 2), (20, 3), (20, 4), (20, 5), (20, 6), (20, 7), (20, 8), (21, 0), (21, 1), (21, 2), (21, 3), (21, 4), (21, 5), (21, 6), (21, 7), (21, 8), (22, 0), (22, 1), (22, 2), (22, 3), (22, 4), (22, 5), (22, 6), (22, 7), (22, 8), (23, 0), (23, 1), (23, 2), (23, 3), (23, 4), (23, 5), (23, 6), (23, 7), (23, 8), (24, 0), (24, 1), (24, 2), (24, 3), (24, 4), (24, 5), (24, 6), (24, 7), (24, 8), (25, 0), (25, 1), (25, 2), (25, 3), (25, 4), (25, 5), (25, 6), (25, 7), (25, 8), (26, 0), (26, 1), (26, 2), (26, 3), (26, 4), (26, 5), (26, 6), (26, 7), (26, 8), (27, 0), (27, 1), (27, 2), (27, 3), (27, 4), (27, 5), (27, 6), (27, 7), (27, 8), (28, 0), (28, 1), (28, 2), (28, 3), (28, 4), (28, 5), (28, 6), (28, 7), (28, 8), (29, 0), (29, 1), (29, 2), (29, 3), (29, 4), (29, 5), (29, 6), (29, 7), (29, 8), (180, 0), (180, 1), (180, 2), (180, 3), (180, 4), (180, 5), (180, 6), (180, 7), (180, 8), (180, 9), (180, 10), (180, 11), (180, 12), (180, 13), (180, 14), (180, 15), (180, 16), (180, 17), (180, 18), (180, 19), (180, 20), (180, 21), (180, 22), (180, 23), (180, 24), (180, 25), (180, 26), (180, 27), (180, 28), (180, 29), (180, 30), (180, 31), (180, 32), (180, 33), (180, 34), (180, 35), (180, 36), (180, 37), (180, 38), (180, 39), (180, 40), (180, 41), (180, 42), (180, 43), (180, 44), (180, 45), (180, 46), (180, 47), (180, 48), (180, 49), (180, 50), (180, 51), (180, 52), (180, 53), (180, 54), (180, 55), (180, 56), (180, 57), (180, 58), (180, 59), (180, 60), (180, 61), (180, 62), (180, 63), (180, 64), (180, 65), (180, 66), (180, 67), (180, 68), (180, 69), (180, 70), (180, 71), (180, 72), (180, 73), (180, 74), (180, 75), (180, 76), (180, 77), (180, 78), (180, 79), (180, 80), (180, 81), (180, 82), (180, 83), (180, 84), (180, 85), (180, 86), (180, 87), (180, 88), (180, 89), (180, 90), (180, 91), (180, 92), (180, 93), (180, 94), (180, 95), (180, 96), (180, 97), (180, 98), (180, 99), (180, 100), (180, 101), (180, 102), (180, 103), (180, 104), (180, 105), (180, 106), (180, 107), (180, 108), (180, 109), (180, 110), (180, 111), (180, 112), (180, 113), (180, 114), (180, 115), (180, 116), (180, 117), (180, 118), (180, 119), (180, 120), (180, 121), (180, 122), (180, 123), (180, 124), (180, 125), (180, 126), (180, 127), (180, 128), (180, 129), (180, 130), (180, 131), (180, 132), (180, 133), (180, 134), (180, 135), (180, 136), (180, 137), (180, 138), (180, 139), (180, 140), (180, 141), (180, 142), (180, 143), (180, 144), (180, 145), (180, 146), (180, 147), (180, 148), (180, 149), (180, 150), (180, 151), (180, 152), (180, 153), (180, 154), (180, 155), (180, 156), (180, 157), (180, 158), (180, 159), (180, 160), (180, 161), (180, 162), (180, 163), (180, 164), (180, 165), (180, 166), (180, 167), (180, 168), (180, 169), (180, 170), (180, 171), (180, 172), (180, 173), (180, 174), (180, 175), (180, 176), (180, 177), (180, 178), (180, 179), (180, 180), (180, 181), (180, 182), (180, 183), (0, 3), (0, 5), (0, 6), (0, 7), (0, 8), (60, 1), (60, 3), (60, 4), (179, 4), (179, 6), (179, 8), (179, 9), (179, 10), (179, 11), (179, 13), (179, 14), (61, 0), (184, 0), (61, 1), (184, 1), (61, 2), (184, 2), (61, 3), (184, 3), (61, 4), (184, 4), (61, 5), (184, 5), (61, 6), (184, 6), (61, 7), (184, 7), (61, 8), (184, 8), (61, 9), (184, 9), (61, 10), (184, 10), (61, 11), (184, 11), (61, 12), (184, 12), (61, 13), (184, 13), (61, 14), (184, 14), (61, 15), (184, 15), (61, 16), (184, 16), (61, 17), (184, 17), (61, 18), (184, 18), (61, 19), (184, 19), (61, 20), (184, 20), (61, 21), (184, 21), (61, 22), (184, 22), (61, 23), (184, 23), (61, 24), (184, 24), (61, 25), (184, 25), (61, 26), (184, 26), (61, 27), (184, 27), (61, 28), (184, 28), (61, 29), (184, 29), (61, 30), (184, 30), (61, 31), (184, 31), (61, 32), (184, 32), (61, 33), (184, 33), (61, 34), (184, 34), (61, 35), (184, 35), (61, 36), (184, 36), (61, 37), (184, 37), (61, 38), (184, 38), (61, 39), (184, 39), (61, 40), (184, 40), (61, 41), (184, 41), (61, 42), (184, 42), (61, 43), (184, 43), (61, 44), (184, 44), (61, 45), (184, 45), (61, 46), (184, 46), (61, 47), (184, 47), (61, 48), (184, 48), (61, 49), (184, 49), (61, 50), (184, 50), (61, 51), (184, 51), (61, 52), (184, 52), (61, 53), (184, 53), (61, 54), (184, 54), (61, 55), (184, 55), (61, 56), (184, 56), (61, 57), (184, 57), (61, 58), (184, 58), (61, 59), (184, 59)]
def chk0 (σ : ASt) : Bool := decide (σ.1 = SHP) && RF0.all (fun q => decide (σ.2.2 q.1 q.2.1 = q.2.2 + 1)) && INZ.all (fun q => decide (gI σ q.1 q.2 = nI (inz q.1 q.2)))
def run0 : Bool := match ex env0 20000 57 0 [.ref 0] [] (pushC sig0 5 9 (fun _ => 0)) with
  | some (none, σ) => Nat.beq σ.1.length 179 && (match ex env0 20000 91 0 [.ref 179] [] (pushC σ 6 15 (fun _ => 0)) with
    | some (none, σ2) => chk0 σ2
    | _ => false)
  | _ => false
theorem run0_ok : run0 = true := by decide +kernel
end
section
/-! words for the memory and for small naturals -/
def upN (V : Nat → Nat) (k x : Nat) : Nat → Nat := fun j => if j = k then x else V j
theorem upN_s (V : Nat → Nat) (k x : Nat) : upN V k x k = x := if_pos rfl
theorem upN_n {V : Nat → Nat} {k j x : Nat} (h : j ≠ k) : upN V k x j = V j := if_neg h
/-- the reference's vector is V -/
def mS (σ : ASt) (V : Nat → Nat) : ASt := (σ.1, (fun q => if q = 180 then (fun k => if k < 184 then nI (V k) else σ.2.1 180 k) else σ.2.1 q), σ.2.2)
/-- a block of 29 cells from B on holds U -/
def bS (σ : ASt) (B : Nat) (U : Nat → Nat → Int32) : ASt := (σ.1, (fun q => if B ≤ q ∧ q < B + 29 then U (q - B) else σ.2.1 q), σ.2.2)
def upU (U : Nat → Nat → Int32) (c k : Nat) (x : Int32) : Nat → Nat → Int32 := fun q => if q = c then upd (U c) k x else U q
theorem mS_get {σ : ASt} {V : Nat → Nat} {k : Nat} (h : k < 184) : gI (mS σ V) 180 k = nI (V k) := by
  show (if 180 = 180 then (fun k => if k < 184 then nI (V k) else σ.2.1 180 k) else σ.2.1 180) k = _
  rw [if_pos rfl, if_pos h]
theorem mS_ne {σ : ASt} {V : Nat → Nat} {c k : Nat} (h : c ≠ 180) : gI (mS σ V) c k = gI σ c k := by
  show (if c = 180 then _ else σ.2.1 c) k = _
  rw [if_neg h]
  rfl
theorem mS_put {σ : ASt} {V : Nat → Nat} {k x : Nat} (h : k < 184) : wrI (mS σ V) 180 k (nI x) = mS σ (upN V k x) := by
  unfold wrI mS
  dsimp only
  congr 2
  funext q
  by_cases hq : q = 180
  · rw [if_pos hq, if_pos hq, if_pos rfl]
    funext j
    unfold upd
    by_cases hj : j = k
    · subst hj
      rw [if_pos rfl, if_pos h, upN_s]
    · rw [if_neg hj, upN_n hj]
  · rw [if_neg hq, if_neg hq, if_neg hq]
theorem mS_wr {σ : ASt} {V : Nat → Nat} {c k : Nat} {x : Int32} (h : c ≠ 180) : wrI (mS σ V) c k x = mS (wrI σ c k x) V := by
  unfold wrI mS
  dsimp only
  congr 2
  funext q
  by_cases hq : q = 180
  · subst hq
    rw [if_neg (Ne.symm h), if_pos rfl, if_pos rfl, if_neg (Ne.symm h)]
  · rw [if_neg hq]
    by_cases hc : q = c
    · rw [if_pos hc, if_pos hc, if_neg h, if_neg hq]
    · rw [if_neg hc, if_neg hc, if_neg hq]
theorem mS_mS {σ : ASt} {V W : Nat → Nat} : mS (mS σ V) W = mS σ W := by
  unfold mS
  dsimp only
  congr 2
  funext q
  by_cases hq : q = 180
  · rw [if_pos hq, if_pos hq]
    funext k
    by_cases hk : k < 184
    · rw [if_pos hk, if_pos hk]
    · rw [if_neg hk, if_neg hk, if_pos rfl, if_neg hk]
  · rw [if_neg hq, if_neg hq, if_neg hq]
theorem mS_self {σ : ASt} {V : Nat → Nat} (h : ∀ k, k < 184 → gI σ 180 k = nI (V k)) : mS σ V = σ := by
  obtain ⟨a, b, c⟩ := σ
  unfold mS
  dsimp only
  congr 2
  funext q
  by_cases hq : q = 180
  · subst hq
    rw [if_pos rfl]
    funext k
    by_cases hk : k < 184
    · rw [if_pos hk]; exact (h k hk).symm
    · rw [if_neg hk]
  · rw [if_neg hq]
theorem bS_get {σ : ASt} {B c k : Nat} {U : Nat → Nat → Int32} (h : c < 29) : gI (bS σ B U) (B + c) k = U c k := by
  show (if B ≤ B + c ∧ B + c < B + 29 then U (B + c - B) else σ.2.1 (B + c)) k = _
  rw [if_pos ⟨by omega, by omega⟩, Nat.add_sub_cancel_left]
theorem bS_get0 {σ : ASt} {B k : Nat} {U : Nat → Nat → Int32} : gI (bS σ B U) B k = U 0 k := bS_get (c := 0) (by decide)
theorem bS_ne {σ : ASt} {B c k : Nat} {U : Nat → Nat → Int32} (h : ¬ (B ≤ c ∧ c < B + 29)) : gI (bS σ B U) c k = gI σ c k := by
  show (if B ≤ c ∧ c < B + 29 then U (c - B) else σ.2.1 c) k = _
  rw [if_neg h]
  rfl
theorem bS_put {σ : ASt} {B c k : Nat} {U : Nat → Nat → Int32} {x : Int32} (h : c < 29) : wrI (bS σ B U) (B + c) k x = bS σ B (upU U c k x) := by
  unfold wrI bS
  dsimp only
  congr 2
  funext q
  by_cases hq : q = B + c
  · subst hq
    rw [if_pos rfl, if_pos ⟨by omega, by omega⟩, if_pos ⟨by omega, by omega⟩, Nat.add_sub_cancel_left]
    unfold upU
    rw [if_pos rfl]
  · rw [if_neg hq]
    by_cases hr : B ≤ q ∧ q < B + 29
    · rw [if_pos hr, if_pos hr]
      unfold upU
      rw [if_neg (by omega)]
    · rw [if_neg hr, if_neg hr]
theorem bS_put0 {σ : ASt} {B k : Nat} {U : Nat → Nat → Int32} {x : Int32} : wrI (bS σ B U) B k x = bS σ B (upU U 0 k x) := bS_put (c := 0) (by decide)
theorem upU_s {U : Nat → Nat → Int32} {c k : Nat} {x : Int32} : upU U c k x c k = x := by
  unfold upU
  rw [if_pos rfl]
  exact if_pos rfl
theorem upU_k {U : Nat → Nat → Int32} {c k j : Nat} {x : Int32} (h : j ≠ k) : upU U c k x c j = U c j := by
  unfold upU
  rw [if_pos rfl]
  exact if_neg h
theorem upU_c {U : Nat → Nat → Int32} {c k d j : Nat} {x : Int32} (h : d ≠ c) : upU U c k x d j = U d j := by
  unfold upU
  rw [if_neg h]
theorem bS_self {σ : ASt} {B : Nat} : bS σ B (fun c => σ.2.1 (B + c)) = σ := by
  obtain ⟨a, b, c⟩ := σ
  unfold bS
  dsimp only
  congr 2
  funext q
  by_cases hr : B ≤ q ∧ q < B + 29
  · rw [if_pos hr, show B + (q - B) = q by omega]
  · rw [if_neg hr]
/-! the places that never change -/
section MEM
variable {σ : ASt} {B : Nat}
theorem MI.sh (H : MI σ) {c k n : Nat} (h : SHP[c]? = some (k, n)) : sh σ c k n := by
  show σ.1[c]? = _
  rw [H.1]; exact h
theorem MI.rf (H : MI σ) {c k r : Nat} (h : RFX.any (fun q => Nat.beq q.1 c && Nat.beq q.2.1 k && Nat.beq q.2.2 r) = true) : rf σ c k r := by
  obtain ⟨q, hq, hb⟩ := List.any_eq_true.mp h
  simp only [Bool.and_eq_true] at hb
  obtain ⟨⟨h1, h2⟩, h3⟩ := hb
  have h4 := H.2 q hq
  rw [Nat.eq_of_beq_eq_true h1, Nat.eq_of_beq_eq_true h2, Nat.eq_of_beq_eq_true h3] at h4
  exact h4
def bsL : List Nat := [1, 30, 63, 92, 121, 150]
theorem isB_mem (hB : isB B) : B ∈ bsL := by
  rcases hB with rfl | rfl | rfl | rfl | rfl | rfl <;> decide
theorem shS (H : MI σ) (hB : isB B) : sh σ B 3 11 := by
  rcases hB with rfl | rfl | rfl | rfl | rfl | rfl <;> exact H.sh rfl
theorem shIA (H : MI σ) (hB : isB B) : sh σ (B + 1) 13 8 := by
  rcases hB with rfl | rfl | rfl | rfl | rfl | rfl <;> exact H.sh rfl
theorem shBA (H : MI σ) (hB : isB B) : sh σ (B + 2) 14 14 := by
  rcases hB with rfl | rfl | rfl | rfl | rfl | rfl <;> exact H.sh rfl
theorem shSe (H : MI σ) (hB : isB B) : sh σ (B + 3) 10 8 := by
  rcases hB with rfl | rfl | rfl | rfl | rfl | rfl <;> exact H.sh rfl
theorem shBk (H : MI σ) (hB : isB B) : sh σ (B + 4) 0 3 := by
  rcases hB with rfl | rfl | rfl | rfl | rfl | rfl <;> exact H.sh rfl
theorem shD (H : MI σ) (hB : isB B) : sh σ (B + 5) 10 8 := by
  rcases hB with rfl | rfl | rfl | rfl | rfl | rfl <;> exact H.sh rfl
theorem shC (H : MI σ) (hB : isB B) : sh σ (B + 6) 10 8 := by
  rcases hB with rfl | rfl | rfl | rfl | rfl | rfl <;> exact H.sh rfl
theorem shI_all : bsL.all (fun B => (List.range 8).all (fun i => decide (SHP[B + 7 + i]? = some (2, 5)))) = true := by decide +kernel
theorem shB_all : bsL.all (fun B => (List.range 14).all (fun i => decide (SHP[B + 15 + i]? = some (1, 9)))) = true := by decide +kernel
theorem shI (H : MI σ) (hB : isB B) {i : Nat} (hi : i < 8) : sh σ (B + 7 + i) 2 5 :=
  H.sh (of_decide_eq_true (List.all_eq_true.mp (List.all_eq_true.mp shI_all B (isB_mem hB)) i (List.mem_range.mpr hi)))
theorem shB (H : MI σ) (hB : isB B) {i : Nat} (hi : i < 14) : sh σ (B + 15 + i) 1 9 :=
  H.sh (of_decide_eq_true (List.all_eq_true.mp (List.all_eq_true.mp shB_all B (isB_mem hB)) i (List.mem_range.mpr hi)))
theorem rf_all : bsL.all (fun B => [(B, 0, B + 1), (B, 1, B + 2), (B, 2, B + 3), (B, 3, B + 4), (B + 4, 0, B + 5), (B + 4, 1, B + 6)].all (fun e => RFX.any (fun q => Nat.beq q.1 e.1 && Nat.beq q.2.1 e.2.1 && Nat.beq q.2.2 e.2.2))) = true := by decide +kernel
theorem rfI_all : bsL.all (fun B => (List.range 8).all (fun i => RFX.any (fun q => Nat.beq q.1 (B + 1) && Nat.beq q.2.1 i && Nat.beq q.2.2 (B + 7 + i)))) = true := by decide +kernel
theorem rfB_all : bsL.all (fun B => (List.range 14).all (fun i => RFX.any (fun q => Nat.beq q.1 (B + 2) && Nat.beq q.2.1 i && Nat.beq q.2.2 (B + 15 + i)))) = true := by decide +kernel
theorem rS (H : MI σ) (hB : isB B) {e : Nat × Nat × Nat} (he : e ∈ [(B, 0, B + 1), (B, 1, B + 2), (B, 2, B + 3), (B, 3, B + 4), (B + 4, 0, B + 5), (B + 4, 1, B + 6)]) : rf σ e.1 e.2.1 e.2.2 :=
  H.rf (List.all_eq_true.mp (List.all_eq_true.mp rf_all B (isB_mem hB)) e he)
theorem rS0 (H : MI σ) (hB : isB B) : rf σ B 0 (B + 1) := rS H hB (e := (B, 0, B + 1)) (by simp)
theorem rS1 (H : MI σ) (hB : isB B) : rf σ B 1 (B + 2) := rS H hB (e := (B, 1, B + 2)) (by simp)
theorem rS2 (H : MI σ) (hB : isB B) : rf σ B 2 (B + 3) := rS H hB (e := (B, 2, B + 3)) (by simp)
theorem rS3 (H : MI σ) (hB : isB B) : rf σ B 3 (B + 4) := rS H hB (e := (B, 3, B + 4)) (by simp)
theorem rK0 (H : MI σ) (hB : isB B) : rf σ (B + 4) 0 (B + 5) := rS H hB (e := (B + 4, 0, B + 5)) (by simp)
theorem rK1 (H : MI σ) (hB : isB B) : rf σ (B + 4) 1 (B + 6) := rS H hB (e := (B + 4, 1, B + 6)) (by simp)
theorem rIA (H : MI σ) (hB : isB B) {i : Nat} (hi : i < 8) : rf σ (B + 1) i (B + 7 + i) := H.rf (List.all_eq_true.mp (List.all_eq_true.mp rfI_all B (isB_mem hB)) i (List.mem_range.mpr hi))
theorem rBA (H : MI σ) (hB : isB B) {i : Nat} (hi : i < 14) : rf σ (B + 2) i (B + 15 + i) := H.rf (List.all_eq_true.mp (List.all_eq_true.mp rfB_all B (isB_mem hB)) i (List.mem_range.mpr hi))
theorem rIAc (H : MI σ) (hB : isB B) {i : Nat} (hi : i < 8) : rf σ (B + 1) (nI i).toNatClampNeg (B + 7 + i) := by rw [nI_clamp (by omega)]; exact rIA H hB hi
theorem rBAc (H : MI σ) (hB : isB B) {i : Nat} (hi : i < 14) : rf σ (B + 2) (nI i).toNatClampNeg (B + 15 + i) := by rw [nI_clamp (by omega)]; exact rBA H hB hi
theorem shM (H : MI σ) : sh σ 179 6 15 := H.sh rfl
theorem shV (H : MI σ) : sh σ 180 10 184 := H.sh rfl
theorem rM0 (H : MI σ) : rf σ 179 0 180 := H.rf (by decide +kernel)
end MEM
/-! small naturals -/
theorem vi {i n : Nat} (h : i < n) (hn : n < 2 ^ 31) : vp_in (nI i) n := vp_in_nI h hn
theorem cl (i : Nat) (h : i < 2 ^ 31) : (nI i).toNatClampNeg = i := nI_clamp h
theorem nI_and31 {k : Nat} (h : k < 32) : nI k &&& 31 = nI k := by
  have h1 := pk_andN (n := k) (m := 31) (by omega) 5 (by decide)
  rw [h1, Nat.mod_eq_of_lt (by omega)]
theorem smod_nI {k : Nat} (h : k < 32) : ((nI k).toBitVec.smod 32).toNat = k := by
  have h1 : ∀ k, k < 32 → ((nI k).toBitVec.smod 32).toNat = k := by decide
  exact h1 k h
theorem nI_shl {k : Nat} (h : k < 31) : nI 1 <<< (nI k &&& 31) = nI (2 ^ k) := by
  rw [nI_and31 (by omega), pk_shlN (n := 1) (nI k) k (smod_nI (by omega)) (by
    have : 2 ^ k < 2 ^ 31 := Nat.pow_lt_pow_right (by decide) h
    omega), Nat.one_mul]
theorem nI_shr {m k : Nat} (hm : m < 2 ^ 31) (h : k < 32) : nI m >>> (nI k &&& 31) = nI (m / 2 ^ k) := by
  rw [nI_and31 h, pk_shrN hm (nI k) k (smod_nI h)]
theorem nI_bv {n : Nat} (h : n < 2 ^ 32) : (nI n).toBitVec = BitVec.ofNat 32 n := by
  apply BitVec.eq_of_toNat_eq
  rw [pk_tn h, BitVec.toNat_ofNat, Nat.mod_eq_of_lt h]
theorem nI_of_bv {x : Int32} {n : Nat} (h : n < 2 ^ 32) (hx : x.toBitVec.toNat = n) : x = nI n := by
  apply Int32.toBitVec_inj.mp
  apply BitVec.eq_of_toNat_eq
  rw [pk_tn h, hx]
theorem nI_or {a b : Nat} (ha : a < 2 ^ 31) (hb : b < 2 ^ 31) : nI a ||| nI b = nI (a ||| b) := by
  apply nI_of_bv
  · exact Nat.or_lt_two_pow (by omega) (by omega)
  · rw [Int32.toBitVec_or, BitVec.toNat_or, pk_tn (by omega), pk_tn (by omega)]
theorem nI_and {a b : Nat} (ha : a < 2 ^ 31) (hb : b < 2 ^ 31) : nI a &&& nI b = nI (a &&& b) := by
  apply nI_of_bv
  · exact Nat.and_lt_two_pow _ (by omega)
  · rw [Int32.toBitVec_and, BitVec.toNat_and, pk_tn (by omega), pk_tn (by omega)]
theorem nI_andn {a b : Nat} (ha : a < 2 ^ 31) (hb : b < 2 ^ 31) : nI a &&& (nI b ^^^ (-1)) = nI (a ^^^ (a &&& b)) := by
  apply nI_of_bv
  · exact Nat.xor_lt_two_pow (by omega) (Nat.and_lt_two_pow _ (by omega))
  · rw [Int32.toBitVec_and, Int32.toBitVec_xor]
    apply Nat.eq_of_testBit_eq
    intro i
    rw [Nat.testBit_xor, Nat.testBit_and]
    by_cases hi : i < 32
    · rw [← BitVec.getLsbD, BitVec.getLsbD_and, BitVec.getLsbD_xor, BitVec.getLsbD, BitVec.getLsbD, BitVec.getLsbD, pk_tn (by omega), pk_tn (by omega)]
      have h1 : ((-1 : Int32).toBitVec.toNat).testBit i = true := by
        have : (-1 : Int32).toBitVec.toNat = 2 ^ 32 - 1 := by decide
        rw [this, Nat.testBit_two_pow_sub_one]
        simpa using hi
      rw [h1]
      cases a.testBit i <;> cases b.testBit i <;> rfl
    · have e1 : a.testBit i = false := Nat.testBit_lt_two_pow (Nat.lt_of_lt_of_le ha (Nat.pow_le_pow_right (by decide) (by omega)))
      rw [e1]
      rw [← BitVec.getLsbD, BitVec.getLsbD_of_ge _ _ (by omega)]
      rfl
end
section
/-! who is reached: the least closed set, by rounds of either kind -/
def opn (V : Nat → Nat) (b : Nat) : Bool := Nat.beq (V (72 + 8 * b + 4)) 0 && Nat.blt 0 (V (72 + 8 * b + 3))
def endsM (V : Nat → Nat) (b : Nat) : Nat := 2 ^ V (72 + 8 * b + 0) ||| 2 ^ V (72 + 8 * b + 1)
def useB (V : Nat → Nat) (wo b : Nat) : Bool := opn V b && !(Nat.beq b wo)
def hit (S M : Nat) : Bool := !(Nat.beq (S &&& M) 0)
/-- a round that asks the set it began with -/
def jac (V : Nat → Nat) (wo S : Nat) : Nat → Nat
  | 0 => S
  | n + 1 => if (useB V wo n && hit S (endsM V n)) = true then jac V wo S n ||| endsM V n else jac V wo S n
/-- a round that asks the set as it grows -/
def gsd (V : Nat → Nat) (wo S : Nat) : Nat → Nat
  | 0 => S
  | n + 1 => if (useB V wo n && hit (gsd V wo S n) (endsM V n)) = true then gsd V wo S n ||| endsM V n else gsd V wo S n
def itJ (V : Nat → Nat) (wo S : Nat) : Nat → Nat
  | 0 => S
  | n + 1 => jac V wo (itJ V wo S n) (V 2)
def reachV (V : Nat → Nat) (i wo : Nat) : Nat := itJ V wo (2 ^ i) 8
def subM (S T : Nat) : Prop := ∀ i, S.testBit i = true → T.testBit i = true
theorem subM.rf (S : Nat) : subM S S := fun _ h => h
theorem subM.tr {S T U : Nat} (h1 : subM S T) (h2 : subM T U) : subM S U := fun i h => h2 i (h1 i h)
theorem subM.anti {S T : Nat} (h1 : subM S T) (h2 : subM T S) : S = T := by
  apply Nat.eq_of_testBit_eq
  intro i
  cases hS : S.testBit i <;> cases hT : T.testBit i <;> first | rfl | (have := h1 i hS; rw [hT] at this; cases this) | (have := h2 i hT; rw [hS] at this; cases this)
theorem subM_or (S M : Nat) : subM S (S ||| M) := fun i h => by rw [Nat.testBit_or, h]; rfl
theorem or_subM {S M T : Nat} (h1 : subM S T) (h2 : subM M T) : subM (S ||| M) T := fun i h => by
  rw [Nat.testBit_or, Bool.or_eq_true] at h
  exact h.elim (h1 i) (h2 i)
theorem subM_or_r (S M : Nat) : subM M (S ||| M) := fun i h => by rw [Nat.testBit_or, h, Bool.or_true]
theorem hit_iff {S M : Nat} : hit S M = true ↔ ∃ i, S.testBit i = true ∧ M.testBit i = true := by
  unfold hit
  constructor
  · intro h
    have h0 : S &&& M ≠ 0 := fun z => by rw [z] at h; cases h
    obtain ⟨i, hi⟩ := Nat.exists_testBit_of_ne_zero h0
    rw [Nat.testBit_and, Bool.and_eq_true] at hi
    exact ⟨i, hi⟩
  · rintro ⟨i, h1, h2⟩
    cases hb : Nat.beq (S &&& M) 0 with
    | false => rfl
    | true =>
      have h0 := Nat.eq_of_beq_eq_true hb
      have : (S &&& M).testBit i = true := by rw [Nat.testBit_and, h1, h2]; rfl
      rw [h0, Nat.zero_testBit] at this
      cases this
theorem hit_mono {S T M : Nat} (h : subM S T) (hh : hit S M = true) : hit T M = true := by
  obtain ⟨i, h1, h2⟩ := hit_iff.mp hh
  exact hit_iff.mpr ⟨i, h i h1, h2⟩
def closedM (V : Nat → Nat) (wo T : Nat) : Prop := ∀ b, b < V 2 → useB V wo b = true → hit T (endsM V b) = true → subM (endsM V b) T
theorem jac_ge (V : Nat → Nat) (wo S : Nat) : ∀ n, subM S (jac V wo S n)
  | 0 => subM.rf S
  | n + 1 => by
    rw [jac]
    split
    · exact (jac_ge V wo S n).tr (subM_or _ _)
    · exact jac_ge V wo S n
theorem gsd_ge (V : Nat → Nat) (wo S : Nat) : ∀ n, subM S (gsd V wo S n)
  | 0 => subM.rf S
  | n + 1 => by
    rw [gsd]
    split
    · exact (gsd_ge V wo S n).tr (subM_or _ _)
    · exact gsd_ge V wo S n
theorem gsd_mono (V : Nat → Nat) (wo S : Nat) {a : Nat} : ∀ {n}, a ≤ n → subM (gsd V wo S a) (gsd V wo S n) := by
  intro n h
  induction h with
  | refl => exact subM.rf _
  | step _ ih =>
    rw [gsd]
    split
    · exact ih.tr (subM_or _ _)
    · exact ih
theorem jac_le {V : Nat → Nat} {wo S T : Nat} (hT : closedM V wo T) (h : subM S T) : ∀ n, n ≤ V 2 → subM (jac V wo S n) T
  | 0, _ => h
  | n + 1, hn => by
    rw [jac]
    split
    · rename_i hc
      rw [Bool.and_eq_true] at hc
      exact or_subM (jac_le hT h n (by omega)) (hT n (by omega) hc.1 (hit_mono h hc.2))
    · exact jac_le hT h n (by omega)
theorem gsd_le {V : Nat → Nat} {wo S T : Nat} (hT : closedM V wo T) (h : subM S T) : ∀ n, n ≤ V 2 → subM (gsd V wo S n) T
  | 0, _ => h
  | n + 1, hn => by
    have ih := gsd_le hT h n (by omega)
    rw [gsd]
    split
    · rename_i hc
      rw [Bool.and_eq_true] at hc
      exact or_subM ih (hT n (by omega) hc.1 (hit_mono ih hc.2))
    · exact ih
theorem jac_has {V : Nat → Nat} {wo S b : Nat} (hu : useB V wo b = true) (hh : hit S (endsM V b) = true) : ∀ n, b < n → subM (endsM V b) (jac V wo S n)
  | 0, h => absurd h (Nat.not_lt_zero _)
  | n + 1, h => by
    rcases Nat.lt_or_ge b n with h1 | h1
    · have ih := jac_has hu hh n h1
      rw [jac]
      split
      · exact ih.tr (subM_or _ _)
      · exact ih
    · obtain rfl : b = n := by omega
      rw [jac, hu, hh, if_pos (show (true && true) = true from rfl)]
      exact subM_or_r _ _
theorem jac_fix {V : Nat → Nat} {wo S : Nat} (h : jac V wo S (V 2) = S) : closedM V wo S := fun b hb hu hh => by
  have := jac_has hu hh (V 2) hb
  rw [h] at this
  exact this
theorem gsd_fix {V : Nat → Nat} {wo S : Nat} (h : gsd V wo S (V 2) = S) : closedM V wo S := fun b hb hu hh => by
  have hb1 : gsd V wo S b = S := subM.anti (by have := gsd_mono V wo S (a := b) (n := V 2) (by omega); rw [h] at this; exact this) (gsd_ge V wo S b)
  have h1 : subM (endsM V b) (gsd V wo S (b + 1)) := by
    rw [gsd, hb1, hu, hh, if_pos (show (true && true) = true from rfl)]
    exact subM_or_r _ _
  have h2 := gsd_mono V wo S (a := b + 1) (n := V 2) (by omega)
  rw [h] at h2
  exact h1.tr h2
/-! counting -/
def cntM (S : Nat) : Nat → Nat
  | 0 => 0
  | n + 1 => cntM S n + (if S.testBit n = true then 1 else 0)
theorem cnt_le (S : Nat) : ∀ n, cntM S n ≤ n
  | 0 => Nat.le_refl _
  | n + 1 => by
    have := cnt_le S n
    rw [cntM]
    split <;> omega
theorem cnt_mono {S T : Nat} (h : subM S T) : ∀ n, cntM S n ≤ cntM T n
  | 0 => Nat.le_refl _
  | n + 1 => by
    have ih := cnt_mono h n
    rw [cntM, cntM]
    by_cases hb : S.testBit n = true
    · rw [if_pos hb, if_pos (h n hb)]; omega
    · rw [if_neg hb]; omega
theorem cnt_lt {S T i : Nat} (h : subM S T) (h1 : S.testBit i = false) (h2 : T.testBit i = true) : ∀ n, i < n → cntM S n < cntM T n
  | 0, hn => absurd hn (Nat.not_lt_zero _)
  | n + 1, hn => by
    rw [cntM, cntM]
    rcases Nat.lt_or_ge i n with hi | hi
    · have ih := cnt_lt h h1 h2 n hi
      by_cases hb : S.testBit n = true
      · rw [if_pos hb, if_pos (h n hb)]; omega
      · rw [if_neg hb]; omega
    · obtain rfl : i = n := by omega
      have := cnt_mono h i
      rw [h1, h2, if_pos rfl]
      simp
      omega
theorem strict_bit {S T : Nat} (h : subM S T) (hne : T ≠ S) : ∃ i, S.testBit i = false ∧ T.testBit i = true := by
  by_cases hx : ∃ i, S.testBit i = false ∧ T.testBit i = true
  · exact hx
  · exfalso
    apply hne
    refine subM.anti (fun i hi => ?_) h
    cases hS : S.testBit i with
    | true => rfl
    | false => exact absurd ⟨i, hS, hi⟩ hx
theorem lt_bit {T i n : Nat} (h : T < 2 ^ n) (hb : T.testBit i = true) : i < n := by
  rcases Nat.lt_or_ge i n with h1 | h1
  · exact h1
  · have := Nat.testBit_lt_two_pow (Nat.lt_of_lt_of_le h (Nat.pow_le_pow_right (by decide) h1))
    rw [this] at hb; cases hb
/-- the ends are islands -/
def endsOK (V : Nat → Nat) : Prop := ∀ b, b < V 2 → V (72 + 8 * b + 0) < 8 ∧ V (72 + 8 * b + 1) < 8
theorem ends_lt {V : Nat → Nat} (h : endsOK V) {b : Nat} (hb : b < V 2) : endsM V b < 2 ^ 8 :=
  Nat.or_lt_two_pow (Nat.pow_lt_pow_right (by decide) (h b hb).1) (Nat.pow_lt_pow_right (by decide) (h b hb).2)
theorem jac_lt {V : Nat → Nat} (h : endsOK V) {wo S : Nat} (hS : S < 2 ^ 8) : ∀ n, n ≤ V 2 → jac V wo S n < 2 ^ 8
  | 0, _ => hS
  | n + 1, hn => by
    have ih := jac_lt h (wo := wo) hS n (by omega)
    rw [jac]
    split
    · exact Nat.or_lt_two_pow ih (ends_lt h (by omega))
    · exact ih
theorem gsd_lt {V : Nat → Nat} (h : endsOK V) {wo S : Nat} (hS : S < 2 ^ 8) : ∀ n, n ≤ V 2 → gsd V wo S n < 2 ^ 8
  | 0, _ => hS
  | n + 1, hn => by
    have ih := gsd_lt h (wo := wo) hS n (by omega)
    rw [gsd]
    split
    · exact Nat.or_lt_two_pow ih (ends_lt h (by omega))
    · exact ih
theorem itJ_lt {V : Nat → Nat} (h : endsOK V) {wo S : Nat} (hS : S < 2 ^ 8) : ∀ n, itJ V wo S n < 2 ^ 8
  | 0 => hS
  | n + 1 => jac_lt h (itJ_lt h hS n) _ (Nat.le_refl _)
theorem itJ_ge (V : Nat → Nat) (wo S : Nat) : ∀ n, subM S (itJ V wo S n)
  | 0 => subM.rf S
  | n + 1 => (itJ_ge V wo S n).tr (jac_ge V wo _ _)
theorem itJ_le {V : Nat → Nat} {wo S T : Nat} (hT : closedM V wo T) (h : subM S T) : ∀ n, subM (itJ V wo S n) T
  | 0 => h
  | n + 1 => jac_le hT (itJ_le hT h n) _ (Nat.le_refl _)
/-- either it is closed, or it has grown n times -/
theorem itJ_grow {V : Nat → Nat} (h : endsOK V) {wo S : Nat} (hS : S < 2 ^ 8) : ∀ n, itJ V wo S (n + 1) = itJ V wo S n ∨ cntM S 8 + n < cntM (itJ V wo S (n + 1)) 8
  | 0 => by
    by_cases he : itJ V wo S 1 = S
    · exact Or.inl he
    · right
      obtain ⟨i, h1, h2⟩ := strict_bit (jac_ge V wo S (V 2)) he
      exact cnt_lt (jac_ge V wo S (V 2)) h1 h2 8 (lt_bit (jac_lt h hS _ (Nat.le_refl _)) h2)
  | n + 1 => by
    rcases itJ_grow h (wo := wo) hS n with ih | ih
    · left
      show jac V wo (itJ V wo S (n + 1)) (V 2) = _
      rw [ih]
      exact ih
    · by_cases he : itJ V wo S (n + 1 + 1) = itJ V wo S (n + 1)
      · exact Or.inl he
      · right
        have hlt := itJ_lt h (wo := wo) hS (n + 1)
        obtain ⟨i, h1, h2⟩ := strict_bit (jac_ge V wo (itJ V wo S (n + 1)) (V 2)) he
        have := cnt_lt (jac_ge V wo (itJ V wo S (n + 1)) (V 2)) h1 h2 8 (lt_bit (jac_lt h hlt _ (Nat.le_refl _)) h2)
        have h3 : itJ V wo S (n + 1 + 1) = jac V wo (itJ V wo S (n + 1)) (V 2) := rfl
        rw [h3]
        omega
theorem reach_closed {V : Nat → Nat} (h : endsOK V) {i wo : Nat} (hi : i < 8) : closedM V wo (reachV V i wo) := by
  apply jac_fix
  have hS : 2 ^ i < 2 ^ 8 := Nat.pow_lt_pow_right (by decide) hi
  rcases itJ_grow h (wo := wo) hS 8 with h1 | h1
  · exact h1
  · exfalso
    have h2 := cnt_le (itJ V wo (2 ^ i) (8 + 1)) 8
    omega
theorem reach_ge (V : Nat → Nat) (i wo : Nat) : subM (2 ^ i) (reachV V i wo) := itJ_ge V wo _ 8
theorem reach_le {V : Nat → Nat} {i wo T : Nat} (hT : closedM V wo T) (h : subM (2 ^ i) T) : subM (reachV V i wo) T := itJ_le hT h 8
theorem reach_lt {V : Nat → Nat} (h : endsOK V) {i wo : Nat} (hi : i < 8) : reachV V i wo < 2 ^ 8 := itJ_lt h (Nat.pow_lt_pow_right (by decide) hi) 8
/-- what the growing rounds come to is the same -/
theorem gsd_is {V : Nat → Nat} (h : endsOK V) {i wo S : Nat} (hi : i < 8) (h1 : subM (2 ^ i) S) (h2 : subM S (reachV V i wo)) (hf : gsd V wo S (V 2) = S) : S = reachV V i wo :=
  subM.anti h2 (reach_le (gsd_fix hf) h1)
/-- without a bridge no more is reached -/
theorem reach_wo {V : Nat → Nat} (h : endsOK V) {i wo b : Nat} (hi : i < 8) (hw : ∀ c, c < V 2 → c ≠ wo) : subM (reachV V i b) (reachV V i wo) := by
  refine reach_le (fun c hc hu hh => reach_closed h hi c hc ?_ hh) (reach_ge V i wo)
  unfold useB at hu ⊢
  rw [Bool.and_eq_true] at hu
  rw [hu.1]
  cases hb : Nat.beq c wo with
  | true => exact absurd (Nat.eq_of_beq_eq_true hb) (hw c hc)
  | false => rfl
theorem sub_le {S T : Nat} (h : subM S T) : S ≤ T := by
  have : S ||| T = T := by
    apply Nat.eq_of_testBit_eq
    intro i
    rw [Nat.testBit_or]
    cases hS : S.testBit i with
    | false => rfl
    | true => rw [h i hS]; rfl
  rw [← this]
  exact Nat.left_le_or
end
section
/-! the reference's reads -/
def W1 (V : Nat → Nat) : Prop := 1 ≤ V 1 ∧ V 1 ≤ 8 ∧ V 2 ≤ 14 ∧ V 15 ≤ 8
def W2 (V : Nat → Nat) : Prop := V 3 ≤ 4 ∧ 1 ≤ V 4 ∧ V 4 ≤ 100 ∧ V 5 ≤ 99 ∧ V 6 ≤ 1 ∧ V 7 ≤ 30 ∧ V 8 ≤ 99 ∧ V 9 ≤ 1 ∧ V 10 ≤ 99
def W3 (V : Nat → Nat) : Prop := ∀ b, b < V 2 → V (72 + 8 * b + 0) < V 1 ∧ V (72 + 8 * b + 1) < V 1 ∧ 1 ≤ V (72 + 8 * b + 2) ∧ V (72 + 8 * b + 2) ≤ 9 ∧ V (72 + 8 * b + 3) ≤ 100 ∧ V (72 + 8 * b + 4) ≤ 1
def W4 (V : Nat → Nat) : Prop := ∀ i, i < V 1 → V (32 + 5 * i + 0) ≤ 99 ∧ V (32 + 5 * i + 1) ≤ V 0 ∧ V (32 + 5 * i + 3) ≤ V 0
def W5 (m : Nat) (V : Nat → Nat) : Prop := V 0 ≤ m ∧ m ≤ 100000 ∧ V 11 ≤ 999999 + 99 * V 0
def WF (m : Nat) (V : Nat → Nat) : Prop := W1 V ∧ W2 V ∧ W3 V ∧ W4 V ∧ W5 m V
def bI (b : Bool) : Int32 := match b with
  | true => nI 1
  | false => nI 0
def pntd (V : Nat → Nat) (b : Nat) : Bool := Nat.beq (V (72 + 8 * b + 4)) 1
theorem fb0 : fN .boolean (nI 0) = true := by decide
theorem fb1 : fN .boolean (nI 1) = true := by decide
theorem fbI (b : Bool) : fN .boolean (bI b) = true := by cases b <;> decide
theorem bI_0 (b : Bool) : bI b = nI 0 ↔ b = false := by cases b <;> simp [bI] <;> decide
theorem beq_iff' {a b : Nat} : Nat.beq a b = true ↔ a = b := ⟨Nat.eq_of_beq_eq_true, fun h => by rw [h]; exact Nat.beq_refl b⟩
section REF
variable {E : AEnv} {σ : ASt} {V : Nat → Nat} {m : Nat} {Q : Option Value → ASt → Prop} {K : Int32 → ASt → Prop} {KV : ASt → Prop}
theorem WF.ends (h : WF m V) : endsOK V := fun b hb => by
  have h3 := h.2.2.1 b hb
  have h1 := h.1
  unfold W1 at h1
  omega
theorem ixB {b w : Nat} : (nI 72 + nI 8 * nI b) + nI w = nI (72 + 8 * b + w) := by rw [pk_mul, nI_add, nI_add]
theorem ixI {i w : Nat} : (nI 32 + nI 5 * nI i) + nI w = nI (32 + 5 * i + w) := by rw [pk_mul, nI_add, nI_add]
theorem r_of (H : MI σ) {b w : Nat} (hb : b < 14) (hw : w < 8) (hK : K (nI (V (72 + 8 * b + w))) (mS σ V)) : cI E 97 [.ref 179, .int (nI b), .int (nI w)] (mS σ V) K := by
  refine sg97_0 ⟨shM H, _, rM0 H, 184, shV H, ?_, ?_⟩
  · rw [ixB]; exact vi (by omega) (by omega)
  · rw [ixB, cl _ (by omega), mS_get (by omega)]; exact hK
theorem r_lays (H : MI σ) {b w x : Nat} (hb : b < 14) (hw : w < 8) (hK : KV (mS σ (upN V (72 + 8 * b + w) x))) : cV E 98 [.ref 179, .int (nI b), .int (nI w), .int (nI x)] (mS σ V) KV := by
  refine sg98_0 ⟨shM H, _, rM0 H, 184, shV H, ?_, ?_⟩
  · rw [ixB]; exact vi (by omega) (by omega)
  · rw [ixB, cl _ (by omega)]
    exact nw_e (mS_put (by omega)) hK
theorem r_adds (H : MI σ) {b w x : Nat} (hb : b < 14) (hw : w < 8) (hK : KV (mS σ (upN V (72 + 8 * b + w) (V (72 + 8 * b + w) + x)))) : cV E 99 [.ref 179, .int (nI b), .int (nI w), .int (nI x)] (mS σ V) KV := by
  refine sg99_0 ⟨shM H, _, rM0 H, 184, shV H, ?_, 184, shV H, ?_, ?_⟩
  · rw [ixB]; exact vi (by omega) (by omega)
  · rw [ixB]; exact vi (by omega) (by omega)
  · rw [ixB, cl _ (by omega), mS_get (by omega), nI_add]
    exact nw_e (mS_put (by omega)) hK
theorem r_ofI (H : MI σ) {i w : Nat} (hi : i < 8) (hw : w < 5) (hK : K (nI (V (32 + 5 * i + w))) (mS σ V)) : cI E 100 [.ref 179, .int (nI i), .int (nI w)] (mS σ V) K := by
  refine sg100_0 ⟨shM H, _, rM0 H, 184, shV H, ?_, ?_⟩
  · rw [ixI]; exact vi (by omega) (by omega)
  · rw [ixI, cl _ (by omega), mS_get (by omega)]; exact hK
theorem r_laysI (H : MI σ) {i w x : Nat} (hi : i < 8) (hw : w < 5) (hK : KV (mS σ (upN V (32 + 5 * i + w) x))) : cV E 101 [.ref 179, .int (nI i), .int (nI w), .int (nI x)] (mS σ V) KV := by
  refine sg101_0 ⟨shM H, _, rM0 H, 184, shV H, ?_, ?_⟩
  · rw [ixI]; exact vi (by omega) (by omega)
  · rw [ixI, cl _ (by omega)]
    exact nw_e (mS_put (by omega)) hK
theorem r_addsI (H : MI σ) {i w : Nat} (hi : i < 8) (hw : w < 5) (hK : KV (mS σ (upN V (32 + 5 * i + w) (V (32 + 5 * i + w) + 1)))) : cV E 102 [.ref 179, .int (nI i), .int (nI w)] (mS σ V) KV := by
  refine sg102_0 ⟨shM H, _, rM0 H, 184, shV H, ?_, 184, shV H, ?_, ?_⟩
  · rw [ixI]; exact vi (by omega) (by omega)
  · rw [ixI]; exact vi (by omega) (by omega)
  · rw [ixI, cl _ (by omega), mS_get (by omega), nI_add]
    exact nw_e (mS_put (by omega)) hK
theorem r_isP (H : MI σ) {b : Nat} (hb : b < 14) (hp : V (72 + 8 * b + 4) < 2 ^ 31) (hK : K (bI (pntd V b)) (mS σ V)) : cI E 103 [.ref 179, .int (nI b)] (mS σ V) K := by
  refine sg103_0 ⟨shM H, r_of H hb (by decide) ⟨fun h => ⟨fb0, ?_⟩, fun h => ⟨fb1, ?_⟩⟩⟩
  · have e : pntd V b = false := by
      cases hq : pntd V b with
      | false => rfl
      | true => exact absurd (congrArg nI (beq_iff'.mp hq)) h
    rw [e] at hK
    exact hK
  · have e : pntd V b = true := beq_iff'.mpr ((nI_eq hp (by decide)).mp (Classical.not_not.mp h))
    rw [e] at hK
    exact hK
theorem r_isO (H : MI σ) {b : Nat} (hb : b < 14) (hp : V (72 + 8 * b + 4) < 2 ^ 31) (hc : V (72 + 8 * b + 3) < 2 ^ 31) (hK : K (bI (opn V b)) (mS σ V)) : cI E 104 [.ref 179, .int (nI b)] (mS σ V) K := by
  refine sg104_0 ⟨shM H, r_of H hb (by decide) ⟨fun h => ⟨fb0, ?_⟩, fun h => ⟨shM H, r_of H hb (by decide) ⟨fun h2 => ⟨fb0, ?_⟩, fun h2 => ⟨fb1, ?_⟩⟩⟩⟩⟩
  · have e : opn V b = false := by
      cases hq : Nat.beq (V (72 + 8 * b + 4)) 0 with
      | false => unfold opn; rw [hq]; rfl
      | true => exact absurd (congrArg nI (beq_iff'.mp hq)) h
    rw [e] at hK
    exact hK
  · have e : opn V b = false := by
      have h3 := (nI_leI hc (by decide)).mp h2
      unfold opn
      have h4 : V (72 + 8 * b + 3) = 0 := by omega
      rw [h4]
      cases Nat.beq (V (72 + 8 * b + 4)) 0 <;> rfl
    rw [e] at hK
    exact hK
  · have e : opn V b = true := by
      have h3 : ¬ V (72 + 8 * b + 3) ≤ 0 := fun z => h2 ((nI_leI hc (by decide)).mpr z)
      have h4 : V (72 + 8 * b + 4) = 0 := (nI_eq hp (by decide)).mp (Classical.not_not.mp h)
      unfold opn
      rw [beq_iff'.mpr h4, show Nat.blt 0 (V (72 + 8 * b + 3)) = true from by simp only [Nat.blt_eq]; omega]
      rfl
    rw [e] at hK
    exact hK
def stOf (V : Nat → Nat) (b : Nat) : Nat := if pntd V b = true then 1 else if 0 < V (72 + 8 * b + 3) then 0 else 2
theorem r_stO (H : MI σ) {b : Nat} (hb : b < 14) (hp : V (72 + 8 * b + 4) < 2 ^ 31) (hc : V (72 + 8 * b + 3) < 2 ^ 31) (hK : K (nI (stOf V b)) (mS σ V)) : cI E 105 [.ref 179, .int (nI b)] (mS σ V) K := by
  refine sg105_0 ⟨shM H, r_isP H hb hp ⟨fun h => ⟨shM H, r_of H hb (by decide) ⟨fun h2 => ?_, fun h2 => ?_⟩⟩, fun h => ?_⟩⟩
  · have h3 := (nI_leI hc (by decide)).mp h2
    have e : stOf V b = 2 := by
      unfold stOf
      rw [if_neg (by rw [(bI_0 _).mp h]; decide), if_neg (by omega)]
    rw [e] at hK
    exact hK
  · have h3 : ¬ V (72 + 8 * b + 3) ≤ 0 := fun z => h2 ((nI_leI hc (by decide)).mpr z)
    have e : stOf V b = 0 := by
      unfold stOf
      rw [if_neg (by rw [(bI_0 _).mp h]; decide), if_pos (by omega)]
    rw [e] at hK
    exact hK
  · have e : stOf V b = 1 := by
      unfold stOf
      rw [if_pos]
      cases hq : pntd V b with
      | true => rfl
      | false => exact absurd ((bI_0 _).mpr hq) h
    rw [e] at hK
    exact hK
/-- in(v, 0, n - 1) of any int -/
def inRg (x : Int32) (lo hi : Int32) : Bool := !(decide (x < lo)) && !(decide (hi < x))
theorem r_in {s : ASt} {x lo hi : Int32} (hK : K (bI (inRg x lo hi)) s) : cI E 92 [.int x, .int lo, .int hi] s K := by
  refine sg92_0 ⟨fun h => ⟨fb0, ?_⟩, fun h => ⟨fun h2 => ⟨fb0, ?_⟩, fun h2 => ⟨fb1, ?_⟩⟩⟩
  · have e : inRg x lo hi = false := by unfold inRg; simp [h]
    rw [e] at hK; exact hK
  · have e : inRg x lo hi = false := by unfold inRg; simp [h2]
    rw [e] at hK; exact hK
  · have e : inRg x lo hi = true := by unfold inRg; simp only [h, h2]; rfl
    rw [e] at hK; exact hK
theorem inRg_iff {x : Int32} {n : Nat} (hn : n < 2 ^ 31) : inRg x (nI 0) (nI n - nI 1) = true ↔ ∃ j, j < n ∧ x = nI j := by
  unfold inRg
  simp only [Bool.and_eq_true, Bool.not_eq_true', decide_eq_false_iff_not]
  constructor
  · rintro ⟨h1, h2⟩
    obtain ⟨j, hj, rfl⟩ := nI_of h1
    refine ⟨j, ?_, rfl⟩
    rcases Nat.eq_zero_or_pos n with h0 | h0
    · exfalso
      apply h2
      subst h0
      rw [Int32.lt_iff_toInt_lt, nI_toInt hj]
      have : (nI 0 - nI 1).toInt = -1 := by decide
      omega
    · rw [pk_sub (by omega), nI_ltI (by omega) hj] at h2
      omega
  · rintro ⟨j, hj, rfl⟩
    refine ⟨nI_pos (by omega), ?_⟩
    rw [pk_sub (by omega), nI_ltI (by omega) (by omega)]
    omega
theorem r_isI (H : MI σ) {x : Int32} (hK : K (bI (inRg x (nI 0) (nI (V 1) - nI 1))) (mS σ V)) : cI E 95 [.ref 179, .int x] (mS σ V) K := by
  refine sg95_0 ⟨shM H, _, rM0 H, 184, shV H, vi (by decide) (by decide), ?_⟩
  rw [mS_get (by decide)]
  exact r_in ⟨fbI _, hK⟩
theorem r_isB (H : MI σ) {x : Int32} (hK : K (bI (inRg x (nI 0) (nI (V 2) - nI 1))) (mS σ V)) : cI E 96 [.ref 179, .int x] (mS σ V) K := by
  refine sg96_0 ⟨shM H, _, rM0 H, 184, shV H, vi (by decide) (by decide), ?_⟩
  rw [mS_get (by decide)]
  exact r_in ⟨fbI _, hK⟩
end REF
end
section
/-! the reference: who is reached, reasons, the best -/
section REF2
variable {E : AEnv} {σ : ASt} {V : Nat → Nat} {m : Nat} {Q : Option Value → ASt → Prop} {K : Int32 → ASt → Prop} {KV : ASt → Prop}
/-- x stands for the bridge wo (or for none) -/
def woI (x : Int32) (wo : Nat) : Prop := ∀ b, b < 14 → (nI b = x ↔ b = wo)
theorem woI_b {b : Nat} (hb : b < 14) : woI (nI b) b := fun c hc => nI_eq (by omega) (by omega)
theorem woI_n : woI (-1000004 : Int32) 99 := fun b hb => ⟨fun h => by
  exfalso
  have h1 := congrArg Int32.toInt h
  rw [nI_toInt (by omega)] at h1
  have h2 : (-1000004 : Int32).toInt = -1000004 := by decide
  omega, fun h => by omega⟩
theorem woI_m : woI (-1 : Int32) 99 := fun b hb => ⟨fun h => by
  exfalso
  have h1 := congrArg Int32.toInt h
  rw [nI_toInt (by omega)] at h1
  have h2 : (-1 : Int32).toInt = -1 := by decide
  omega, fun h => by omega⟩
theorem WF.b (h : WF m V) {b : Nat} (hb : b < V 2) : V (72 + 8 * b + 0) < 8 ∧ V (72 + 8 * b + 1) < 8 ∧ V (72 + 8 * b + 4) < 2 ^ 31 ∧ V (72 + 8 * b + 3) < 2 ^ 31 := by
  have h3 := h.2.2.1 b hb
  have h1 := h.1
  unfold W1 at h1
  omega
theorem ends_nI (h : WF m V) {b : Nat} (hb : b < V 2) : nI 1 <<< (nI (V (72 + 8 * b + 0)) &&& 31) ||| nI 1 <<< (nI (V (72 + 8 * b + 1)) &&& 31) = nI (endsM V b) := by
  have h1 := h.b hb
  have a1 : 2 ^ V (72 + 8 * b + 0) < 2 ^ 31 := Nat.pow_lt_pow_right (by decide) (by omega)
  have a2 : 2 ^ V (72 + 8 * b + 1) < 2 ^ 31 := Nat.pow_lt_pow_right (by decide) (by omega)
  rw [nI_shl (by omega), nI_shl (by omega), nI_or a1 a2]
  rfl
/-- one growing round, from bridge k on -/
theorem r_round (H : MI σ) (hw : WF m V) {i x a4 : Int32} {wo S : Nat} (hx : woI x wo) (hS : S < 2 ^ 8) (hK : wp E 106 7 [.ref 179, .int i, .int x, .int (nI (gsd V wo S (V 2))), .int a4] [] (mS σ V) Q) :
    ∀ d k : Nat, k + d = V 2 → wp E 106 19 [.ref 179, .int i, .int x, .int (nI (gsd V wo S k)), .int a4, .int (nI k)] [] (mS σ V) Q := by
  have h1 := hw.1
  unfold W1 at h1
  intro d
  induction d with
  | zero =>
    intro k hk
    obtain rfl : k = V 2 := by omega
    refine sg106_19 ⟨shM H, _, rM0 H, 184, shV H, vi (by decide) (by decide), fun _ => hK, fun h => absurd ?_ h⟩
    rw [mS_get (by decide)]
    exact nI_le (Nat.le_refl _) (by omega)
  | succ d ih =>
    intro k hk
    have hk2 : k < V 2 := by omega
    have hb := hw.b hk2
    have hg : gsd V wo S k < 2 ^ 8 := gsd_lt hw.ends hS k (by omega)
    have he := ends_lt hw.ends hk2
    have hor : ∀ T, T < 2 ^ 8 → nI T ||| nI 0 = nI T := fun T hT => by rw [nI_or (by omega) (by decide), Nat.or_zero]
    have next : wp E 106 19 [.ref 179, .int i, .int x, .int (nI (gsd V wo S (k + 1))), .int a4, .int (nI k + nI 1)] [] (mS σ V) Q := by
      rw [nI_add]; exact ih (k + 1) (by omega)
    refine sg106_19 ⟨shM H, _, rM0 H, 184, shV H, vi (by decide) (by decide), fun h => absurd h ?_, fun _ => ⟨shM H, r_of H (by omega) (by decide) ⟨shM H, r_of H (by omega) (by decide) ⟨fun h => ?_, fun h => ⟨shM H, r_isO H (by omega) hb.2.2.1 hb.2.2.2 ⟨fun h2 => ?_, fun h2 => ⟨fun h3 => ?_, fun h3 => ?_⟩⟩⟩⟩⟩⟩⟩
    · rw [mS_get (by decide)]
      exact nI_ge hk2 (by omega)
    · rw [hor _ hg]
      have e : gsd V wo S (k + 1) = gsd V wo S k := by
        rw [gsd, if_neg]
        unfold useB
        rw [beq_iff'.mpr ((hx k (by omega)).mp h)]
        simp
      rw [e] at next; exact next
    · rw [hor _ hg]
      have e : gsd V wo S (k + 1) = gsd V wo S k := by
        rw [gsd, if_neg]
        unfold useB
        rw [(bI_0 _).mp h2]
        simp
      rw [e] at next; exact next
    · rw [hor _ hg]
      rw [ends_nI hw hk2, nI_and (by omega) (by omega)] at h3
      have h4 : gsd V wo S k &&& endsM V k = 0 := (nI_eq (Nat.lt_of_le_of_lt Nat.and_le_left (by omega)) (by decide)).mp h3
      have e : gsd V wo S (k + 1) = gsd V wo S k := by
        rw [gsd, if_neg]
        unfold hit
        rw [h4]
        simp
      rw [e] at next; exact next
    · rw [ends_nI hw hk2, nI_and (by omega) (by omega)] at h3
      rw [ends_nI hw hk2, nI_or (by omega) (by omega)]
      have h4 : gsd V wo S k &&& endsM V k ≠ 0 := fun z => h3 (congrArg nI z)
      have e : gsd V wo S (k + 1) = gsd V wo S k ||| endsM V k := by
        rw [gsd, if_pos]
        unfold useB hit
        have e1 : opn V k = true := by
          cases hq : opn V k with
          | true => rfl
          | false => exact absurd ((bI_0 _).mpr hq) h2
        have e2 : Nat.beq k wo = false := by
          cases hq : Nat.beq k wo with
          | false => rfl
          | true => exact absurd ((hx k (by omega)).mpr (beq_iff'.mp hq)) h
        have e3 : Nat.beq (gsd V wo S k &&& endsM V k) 0 = false := by
          cases hq : Nat.beq (gsd V wo S k &&& endsM V k) 0 with
          | false => rfl
          | true => exact absurd (beq_iff'.mp hq) h4
        rw [e1, e2, e3]; rfl
      rw [e] at next; exact next
theorem r_loop (H : MI σ) (hw : WF m V) {i : Nat} {x : Int32} {wo : Nat} (hi : i < 8) (hx : woI x wo) (hK : Q (some (.int (nI (reachV V i wo)))) (mS σ V)) :
    ∀ (f S : Nat) (a4 : Int32), 256 ≤ f + S → S < 2 ^ 8 → subM (2 ^ i) S → subM S (reachV V i wo) → (a4 = nI S → gsd V wo S (V 2) = S) → wp E 106 7 [.ref 179, .int (nI i), .int x, .int (nI S), .int a4] [] (mS σ V) Q := by
  intro f
  induction f with
  | zero => intro S a4 hf hS; omega
  | succ f ih =>
    intro S a4 hf hS h1 h2 h3
    refine sg106_7 ⟨fun h => ?_, fun h => ?_⟩
    · rw [gsd_is hw.ends hi h1 h2 (h3 h)]
      exact hK
    · have hlt := gsd_lt hw.ends (wo := wo) hS (V 2) (Nat.le_refl _)
      have hge := gsd_ge V wo S (V 2)
      refine r_round H hw hx hS ?_ (V 2) 0 (by omega)
      by_cases he : gsd V wo S (V 2) = S
      · rw [he]
        refine sg106_7 ⟨fun _ => ?_, fun z => absurd rfl z⟩
        rw [gsd_is hw.ends hi h1 h2 he]
        exact hK
      · have hlt2 : S < gsd V wo S (V 2) := Nat.lt_of_le_of_ne (sub_le hge) (fun z => he z.symm)
        refine ih _ _ (by omega) hlt (h1.tr hge) (gsd_le (reach_closed hw.ends hi) h2 _ (Nat.le_refl _)) (fun z => ?_)
        exact absurd ((nI_eq (by omega) (by omega)).mp z).symm he
theorem r_reach (H : MI σ) (hw : WF m V) {i : Nat} {x : Int32} {wo : Nat} (hi : i < 8) (hx : woI x wo) (hK : K (nI (reachV V i wo)) (mS σ V)) : cI E 106 [.ref 179, .int (nI i), .int x] (mS σ V) K := by
  refine sg106_0 ?_
  rw [nI_shl (by omega)]
  have hp : 2 ^ i < 2 ^ 8 := Nat.pow_lt_pow_right (by decide) hi
  refine r_loop H hw hi hx hK 256 (2 ^ i) (nI 0) (Nat.le_add_right 256 _) hp (subM.rf _) (reach_ge V i wo) (fun z => ?_)
  have := (nI_eq (by decide) (by omega)).mp z
  have hpos : 0 < 2 ^ i := Nat.two_pow_pos i
  omega
/-- islands that are cut off without b -/
def cutV (V : Nat → Nat) (b : Nat) : Nat := reachV V 0 99 ^^^ (reachV V 0 99 &&& reachV V 0 b)
theorem r_cut (H : MI σ) (hw : WF m V) {b : Nat} (hb : b < 14) (hK : K (nI (cutV V b)) (mS σ V)) : cI E 107 [.ref 179, .int (nI b)] (mS σ V) K := by
  refine sg107_0 ⟨shM H, r_reach H hw (by decide) woI_n ⟨shM H, r_reach H hw (by decide) (woI_b hb) ?_⟩⟩
  have h1 := reach_lt hw.ends (i := 0) (wo := 99) (by decide)
  have h2 := reach_lt hw.ends (i := 0) (wo := b) (by decide)
  rw [nI_andn (by omega) (by omega)]
  exact hK
theorem cutV_lt (hw : WF m V) (b : Nat) : cutV V b < 2 ^ 8 := by
  have h1 := reach_lt hw.ends (i := 0) (wo := 99) (by decide)
  exact Nat.xor_lt_two_pow h1 (Nat.lt_of_le_of_lt Nat.and_le_left h1)
/-- how many are painted -/
def pcN (V : Nat → Nat) : Nat → Nat
  | 0 => 0
  | n + 1 => pcN V n + V (72 + 8 * n + 4)
def pcV (V : Nat → Nat) : Nat := pcN V (V 2)
theorem pcN_le (hw : WF m V) : ∀ n, n ≤ V 2 → pcN V n ≤ n
  | 0, _ => Nat.le_refl _
  | n + 1, h => by
    have ih := pcN_le hw n (by omega)
    have h3 := hw.2.2.1 n (by omega)
    rw [pcN]
    omega
theorem pcV_le (hw : WF m V) : pcV V ≤ 14 := by
  have := pcN_le hw (V 2) (Nat.le_refl _)
  have h1 := hw.1
  unfold W1 at h1
  unfold pcV
  omega
theorem r_pcL (H : MI σ) (hw : WF m V) (hK : Q (some (.int (nI (pcV V)))) (mS σ V)) : ∀ d k : Nat, k + d = V 2 → wp E 108 4 [.ref 179, .int (nI (pcN V k)), .int (nI k)] [] (mS σ V) Q := by
  have h1 := hw.1
  unfold W1 at h1
  intro d
  induction d with
  | zero =>
    intro k hk
    obtain rfl : k = V 2 := by omega
    refine sg108_4 ⟨shM H, _, rM0 H, 184, shV H, vi (by decide) (by decide), fun _ => hK, fun h => absurd ?_ h⟩
    rw [mS_get (by decide)]
    exact nI_le (Nat.le_refl _) (by omega)
  | succ d ih =>
    intro k hk
    refine sg108_4 ⟨shM H, _, rM0 H, 184, shV H, vi (by decide) (by decide), fun h => absurd h ?_, fun _ => ⟨shM H, r_of H (by omega) (by decide) ?_⟩⟩
    · rw [mS_get (by decide)]
      exact nI_ge (by omega) (by omega)
    · rw [nI_add, nI_add]
      exact ih (k + 1) (by omega)
theorem r_pc (H : MI σ) (hw : WF m V) (hK : K (nI (pcV V)) (mS σ V)) : cI E 108 [.ref 179] (mS σ V) K := sg108_0 (r_pcL H hw hK (V 2) 0 (by omega))
def rsn (V : Nat → Nat) (b : Nat) : Nat := if pntd V b = true then 1 else if V (72 + 8 * b + 3) = 100 then 2 else if V 3 ≤ pcV V then 3 else if cutV V b = 0 then 0 else 4
theorem r_rsn (H : MI σ) (hw : WF m V) {b : Nat} (hb : b < V 2) (hK : K (nI (rsn V b)) (mS σ V)) : cI E 109 [.ref 179, .int (nI b)] (mS σ V) K := by
  have h1 := hw.1
  unfold W1 at h1
  have h2 := hw.2.1
  unfold W2 at h2
  have hbb := hw.b hb
  have hc := cutV_lt hw b
  have hp := pcV_le hw
  refine sg109_0 ⟨shM H, r_isP H (by omega) hbb.2.2.1 ⟨fun h => ⟨shM H, r_of H (by omega) (by decide) ⟨fun h3 => ⟨shM H, r_pc H hw ⟨shM H, _, rM0 H, 184, shV H, vi (by decide) (by decide), fun h4 => ⟨shM H, r_cut H hw (by omega) ⟨fun h5 => ?_, fun h5 => ?_⟩⟩, fun h4 => ?_⟩⟩, fun h3 => ?_⟩⟩, fun h => ?_⟩⟩
  · rw [mS_get (by decide), nI_ltI (by omega) (by omega)] at h4
    have e : rsn V b = 0 := by
      unfold rsn
      rw [if_neg (by rw [(bI_0 _).mp h]; decide), if_neg (fun z => h3 (congrArg nI z)), if_neg (by omega), if_pos ((nI_eq (by omega) (by decide)).mp h5)]
    rw [e] at hK; exact hK
  · rw [mS_get (by decide), nI_ltI (by omega) (by omega)] at h4
    have e : rsn V b = 4 := by
      unfold rsn
      rw [if_neg (by rw [(bI_0 _).mp h]; decide), if_neg (fun z => h3 (congrArg nI z)), if_neg (by omega), if_neg (fun z => h5 (congrArg nI z))]
    rw [e] at hK; exact hK
  · rw [mS_get (by decide), nI_ltI (by omega) (by omega)] at h4
    have e : rsn V b = 3 := by
      unfold rsn
      rw [if_neg (by rw [(bI_0 _).mp h]; decide), if_neg (fun z => h3 (congrArg nI z)), if_pos (by omega)]
    rw [e] at hK; exact hK
  · have e : rsn V b = 2 := by
      unfold rsn
      rw [if_neg (by rw [(bI_0 _).mp h]; decide), if_pos ((nI_eq hbb.2.2.2 (by decide)).mp (Classical.not_not.mp h3))]
    rw [e] at hK; exact hK
  · have e : rsn V b = 1 := by
      unfold rsn
      rw [if_pos]
      cases hq : pntd V b with
      | true => rfl
      | false => exact absurd ((bI_0 _).mpr hq) h
    rw [e] at hK; exact hK
/-- the best among the first n: a bridge, or 99 -/
def bsN (V : Nat → Nat) : Nat → Nat
  | 0 => 99
  | n + 1 => if V (72 + 8 * n + 3) ≤ V 10 ∧ rsn V n = 0 ∧ (bsN V n = 99 ∨ V (72 + 8 * n + 3) < V (72 + 8 * bsN V n + 3)) then n else bsN V n
def bsV (V : Nat → Nat) : Nat := bsN V (V 2)
/-- as the int that tells it -/
def bsI (b : Nat) : Int32 := if b = 99 then (-1000004 : Int32) else nI b
theorem bsN_lt (V : Nat → Nat) : ∀ n, bsN V n = 99 ∨ bsN V n < n
  | 0 => Or.inl rfl
  | n + 1 => by
    rw [bsN]
    split
    · right; omega
    · rcases bsN_lt V n with h | h
      · exact Or.inl h
      · right; omega
theorem bsI_neg {b : Nat} (hb : b = 99 ∨ b < 14) : bsI b < nI 0 ↔ b = 99 := by
  rcases hb with rfl | hb
  · exact ⟨fun _ => rfl, fun _ => by decide⟩
  · unfold bsI
    rw [if_neg (by omega), nI_ltI (by omega) (by decide)]
    omega
theorem rsn_lt (V : Nat → Nat) (b : Nat) : rsn V b < 5 := by
  unfold rsn
  repeat' split
  all_goals decide
theorem r_bsL (H : MI σ) (hw : WF m V) (hK : Q (some (.int (bsI (bsV V)))) (mS σ V)) : ∀ d k : Nat, k + d = V 2 → wp E 110 5 [.ref 179, .int (bsI (bsN V k)), .int (nI k)] [] (mS σ V) Q := by
  have h1 := hw.1
  unfold W1 at h1
  have h2 := hw.2.1
  unfold W2 at h2
  intro d
  induction d with
  | zero =>
    intro k hk
    obtain rfl : k = V 2 := by omega
    refine sg110_5 ⟨shM H, _, rM0 H, 184, shV H, vi (by decide) (by decide), fun _ => hK, fun h => absurd ?_ h⟩
    rw [mS_get (by decide)]
    exact nI_le (Nat.le_refl _) (by omega)
  | succ d ih =>
    intro k hk
    have hk2 : k < V 2 := by omega
    have hbb := hw.b hk2
    have hlt := bsN_lt V k
    have hr5 := rsn_lt V k
    have next : wp E 110 5 [.ref 179, .int (bsI (bsN V (k + 1))), .int (nI k + nI 1)] [] (mS σ V) Q := by
      rw [nI_add]; exact ih (k + 1) (by omega)
    have keep : bsN V (k + 1) = bsN V k → wp E 110 5 [.ref 179, .int (bsI (bsN V k)), .int (nI k + nI 1)] [] (mS σ V) Q := fun e => by rw [e] at next; exact next
    have take : bsN V (k + 1) = k → wp E 110 5 [.ref 179, .int (nI k), .int (nI k + nI 1)] [] (mS σ V) Q := fun e => by
      rw [e] at next
      unfold bsI at next
      rw [if_neg (by omega)] at next
      exact next
    refine sg110_5 ⟨shM H, _, rM0 H, 184, shV H, vi (by decide) (by decide), fun h => absurd h ?_, fun _ => ⟨shM H, r_of H (by omega) (by decide) ⟨shM H, _, rM0 H, 184, shV H, vi (by decide) (by decide), fun h3 => ⟨fun _ => keep ?_, fun z => absurd rfl z⟩, fun h3 => ⟨shM H, r_rsn H hw hk2 ⟨fun h4 => ⟨fun _ => keep ?_, fun z => absurd rfl z⟩, fun h4 => ⟨fun z => absurd z (by decide), fun _ => ⟨fun h5 => take ?_, fun h5 => ⟨shM H, r_of H (by omega) (by decide) ⟨shM H, ?_⟩⟩⟩⟩⟩⟩⟩⟩⟩
    · rw [mS_get (by decide)]
      exact nI_ge hk2 (by omega)
    · rw [mS_get (by decide), nI_ltI (by omega) (by omega)] at h3
      rw [bsN, if_neg (by omega)]
    · have h4 : rsn V k ≠ 0 := fun z => h4 (congrArg nI z)
      rw [bsN, if_neg (fun z => h4 z.2.1)]
    · rw [mS_get (by decide), nI_ltI (by omega) (by omega)] at h3
      have h4 : rsn V k = 0 := (nI_eq (by omega) (by decide)).mp (Classical.not_not.mp h4)
      rw [bsN, if_pos ⟨by omega, h4, Or.inl ((bsI_neg (by omega)).mp h5)⟩]
    · rw [mS_get (by decide), nI_ltI (by omega) (by omega)] at h3
      have h4 : rsn V k = 0 := (nI_eq (by omega) (by decide)).mp (Classical.not_not.mp h4)
      have h99 : bsN V k ≠ 99 := fun z => h5 ((bsI_neg (by omega)).mpr z)
      have hb2 : bsN V k < k := by omega
      have hbb2 := hw.b (b := bsN V k) (by omega)
      have e : bsI (bsN V k) = nI (bsN V k) := if_neg h99
      rw [e] at keep ⊢
      refine r_of H (by omega) (by decide) ⟨fun h6 => keep ?_, fun h6 => take ?_⟩
      · rw [nI_leI hbb2.2.2.2 hbb.2.2.2] at h6
        rw [bsN, if_neg (by omega)]
      · rw [nI_leI hbb2.2.2.2 hbb.2.2.2] at h6
        rw [bsN, if_pos ⟨by omega, h4, Or.inr (by omega)⟩]
theorem r_bs (H : MI σ) (hw : WF m V) (hK : K (bsI (bsV V)) (mS σ V)) : cI E 110 [.ref 179] (mS σ V) K := sg110_0 (r_bsL H hw hK (V 2) 0 (by omega))
end REF2
end
section
/-! the reference's changes -/
section REF3
variable {E : AEnv} {σ : ASt} {V : Nat → Nat} {m : Nat} {Q : Option Value → ASt → Prop} {K : Int32 → ASt → Prop} {KV : ASt → Prop}
theorem ff : ¬ (false = true) := by decide
theorem nI_subT {a b : Nat} (ha : a < 2 ^ 31) (hb : b < 2 ^ 31) (h : nI 0 ≤ nI a - nI b) : b ≤ a := by
  rw [Int32.le_iff_toInt_le, nI_toInt (by decide), Int32.toInt_sub, nI_toInt ha, nI_toInt hb, Int.bmod_def] at h
  split at h <;> omega
def zI (V : Nat → Nat) (i : Nat) : Nat → (Nat → Nat)
  | 0 => V
  | n + 1 => upN (zI V i n) (32 + 5 * i + n) 0
theorem zI_o {i j : Nat} : ∀ n, (j < 32 + 5 * i ∨ 32 + 5 * i + n ≤ j) → zI V i n j = V j
  | 0, _ => rfl
  | n + 1, h => by rw [zI, upN_n (by omega)]; exact zI_o n (by omega)
theorem zI_z {i j : Nat} : ∀ n, 32 + 5 * i ≤ j → j < 32 + 5 * i + n → zI V i n j = 0
  | 0, _, _ => by omega
  | n + 1, h1, h2 => by
    rw [zI]
    by_cases hj : j = 32 + 5 * i + n
    · rw [hj, upN_s]
    · rw [upN_n hj]; exact zI_z n h1 (by omega)
def zB (V : Nat → Nat) (i : Nat) : Nat → (Nat → Nat)
  | 0 => V
  | n + 1 => upN (zB V i n) (72 + 8 * i + n) 0
theorem zB_o {i j : Nat} : ∀ n, (j < 72 + 8 * i ∨ 72 + 8 * i + n ≤ j) → zB V i n j = V j
  | 0, _ => rfl
  | n + 1, h => by rw [zB, upN_n (by omega)]; exact zB_o n (by omega)
theorem zB_z {i j : Nat} : ∀ n, 72 + 8 * i ≤ j → j < 72 + 8 * i + n → zB V i n j = 0
  | 0, _, _ => by omega
  | n + 1, h1, h2 => by
    rw [zB]
    by_cases hj : j = 72 + 8 * i + n
    · rw [hj, upN_s]
    · rw [upN_n hj]; exact zB_z n h1 (by omega)
def dIsl (V : Nat → Nat) (f : Nat) : Nat → Nat := upN (upN (zI V (V 1) 5) (32 + 5 * V 1 + 0) f) 1 (V 1 + 1)
def dBrg (V : Nat → Nat) (o t w : Nat) : Nat → Nat := upN (upN (upN (upN (upN (zB V (V 2) 8) (72 + 8 * V 2 + 0) o) (72 + 8 * V 2 + 1) t) (72 + 8 * V 2 + 2) w) (72 + 8 * V 2 + 3) 100) 2 (V 2 + 1)
def dSnd (V : Nat → Nat) (b : Nat) : Nat → Nat := upN (upN V (72 + 8 * b + 4) 1) (72 + 8 * b + 5) (V (72 + 8 * b + 5) + 1)
def dRec (V : Nat → Nat) (b : Nat) : Nat → Nat := upN V (72 + 8 * b + 4) 0
def dPay (V : Nat → Nat) (c : Nat) : Nat → Nat := upN (upN V 11 (V 11 + c)) 14 (V 14 + c)
theorem r_goIL (H : MI σ) (h1 : V 1 < 8) {f : Nat} (hK : Q (some (.int (nI (V 1)))) (mS σ (dIsl V f))) :
    ∀ d k : Nat, k + d = 5 → wp E 111 9 [.ref 179, .int (nI f), .int (nI (V 1)), .int (nI k)] [] (mS σ (zI V (V 1) k)) Q := by
  intro d
  induction d with
  | zero =>
    intro k hk
    obtain rfl : k = 5 := by omega
    refine sg111_9 ⟨fun _ => ⟨shM H, r_laysI H h1 (by decide) ⟨shM H, _, rM0 H, 184, shV H, vi (by decide) (by decide), 184, shV H, vi (by decide) (by decide), ?_⟩⟩, fun h => absurd (nI_le (Nat.le_refl _) (by decide)) h⟩
    rw [mS_get (by decide), nI_add, upN_n (by omega), zI_o 5 (by omega)]
    exact nw_e (mS_put (by decide)) hK
  | succ d ih =>
    intro k hk
    refine sg111_9 ⟨fun h => absurd h (nI_ge (by omega) (by omega)), fun _ => ⟨shM H, r_laysI H h1 (by omega) ?_⟩⟩
    rw [nI_add]
    exact ih (k + 1) (by omega)
theorem r_goI (H : MI σ) (h1 : V 1 < 8) {f : Nat} (hK : K (nI (V 1)) (mS σ (dIsl V f))) : cI E 111 [.ref 179, .int (nI f)] (mS σ V) K := by
  refine sg111_0 ⟨shM H, _, rM0 H, 184, shV H, vi (by decide) (by decide), ?_⟩
  rw [mS_get (by decide)]
  exact r_goIL H h1 hK 5 0 (by omega)
theorem r_goBL (H : MI σ) (h1 : V 2 < 14) {o t w : Nat} (hK : Q (some (.int (nI (V 2)))) (mS σ (dBrg V o t w))) :
    ∀ d k : Nat, k + d = 8 → wp E 112 11 [.ref 179, .int (nI o), .int (nI t), .int (nI w), .int (nI (V 2)), .int (nI k)] [] (mS σ (zB V (V 2) k)) Q := by
  intro d
  induction d with
  | zero =>
    intro k hk
    obtain rfl : k = 8 := by omega
    refine sg112_11 ⟨fun _ => ⟨shM H, r_lays H h1 (by decide) ⟨shM H, r_lays H h1 (by decide) ⟨shM H, r_lays H h1 (by decide) ⟨shM H, r_lays H h1 (by decide) ⟨shM H, _, rM0 H, 184, shV H, vi (by decide) (by decide), 184, shV H, vi (by decide) (by decide), ?_⟩⟩⟩⟩⟩, fun h => absurd (nI_le (Nat.le_refl _) (by decide)) h⟩
    rw [mS_get (by decide), nI_add, upN_n (by omega), upN_n (by omega), upN_n (by omega), upN_n (by omega), zB_o 8 (by omega)]
    exact nw_e (mS_put (by decide)) hK
  | succ d ih =>
    intro k hk
    refine sg112_11 ⟨fun h => absurd h (nI_ge (by omega) (by omega)), fun _ => ⟨shM H, r_lays H h1 (by omega) ?_⟩⟩
    rw [nI_add]
    exact ih (k + 1) (by omega)
theorem r_goB (H : MI σ) (h1 : V 2 < 14) {o t w : Nat} (hK : K (nI (V 2)) (mS σ (dBrg V o t w))) : cI E 112 [.ref 179, .int (nI o), .int (nI t), .int (nI w)] (mS σ V) K := by
  refine sg112_0 ⟨shM H, _, rM0 H, 184, shV H, vi (by decide) (by decide), ?_⟩
  rw [mS_get (by decide)]
  exact r_goBL H h1 hK 8 0 (by omega)
theorem r_goS (H : MI σ) (hw : WF m V) {b : Nat} (hb : b < 14) (hK : K (nI (cutV V b)) (mS σ (dSnd V b))) : cI E 113 [.ref 179, .int (nI b)] (mS σ V) K := by
  refine sg113_0 ⟨shM H, r_cut H hw hb ⟨shM H, r_lays H hb (by decide) ⟨shM H, r_adds H hb (by decide) ?_⟩⟩⟩
  rw [upN_n (by omega)]
  exact hK
theorem r_goR (H : MI σ) {b : Nat} (hb : b < 14) (hK : K (nI (V (72 + 8 * b + 3))) (mS σ (dRec V b))) : cI E 114 [.ref 179, .int (nI b)] (mS σ V) K := by
  refine sg114_0 ⟨shM H, r_lays H hb (by decide) ⟨shM H, r_of H hb (by decide) ?_⟩⟩
  rw [upN_n (by omega)]
  exact hK
theorem r_goP (H : MI σ) {c : Nat} (hK : K (nI (V 11 + c)) (mS σ (dPay V c))) : cI E 115 [.ref 179, .int (nI c)] (mS σ V) K := by
  refine sg115_0 ⟨shM H, _, rM0 H, 184, shV H, vi (by decide) (by decide), 184, shV H, vi (by decide) (by decide), ?_⟩
  rw [mS_get (by decide), nI_add]
  refine nw_e (mS_put (by decide)) ⟨shM H, _, rM0 H, 184, shV H, vi (by decide) (by decide), 184, shV H, vi (by decide) (by decide), ?_⟩
  rw [mS_get (by decide), nI_add, upN_n (by decide)]
  refine nw_e (mS_put (by decide)) ⟨shM H, _, rM0 H, 184, shV H, vi (by decide) (by decide), ?_⟩
  rw [mS_get (by decide), upN_n (by decide), upN_s]
  exact hK
/-- one day of one crew -/
def dPnt (V : Nat → Nat) (b : Nat) : Nat → Nat :=
  if V 5 ≤ V 11 then
    let W := upN (upN (upN (upN V 11 (V 11 - V 5)) 12 (V 12 + V 5)) (72 + 8 * b + 7) (V (72 + 8 * b + 7) + V 5)) (72 + 8 * b + 3) (V (72 + 8 * b + 3) + V 4)
    if V (72 + 8 * b + 3) + V 4 < 100 then W else upN (upN W (72 + 8 * b + 3) 100) (72 + 8 * b + 4) 0
  else V
theorem r_pnt (H : MI σ) (hw : WF m V) {b : Nat} (hb : b < V 2) (hK : KV (mS σ (dPnt V b))) : cV E 116 [.ref 179, .int (nI b)] (mS σ V) KV := by
  have h1 := hw.1
  unfold W1 at h1
  have h2 := hw.2.1
  unfold W2 at h2
  have h5 := hw.2.2.2.2
  unfold W5 at h5
  have h3 := hw.2.2.1 b hb
  refine sg116_0 ⟨shM H, _, rM0 H, 184, shV H, vi (by decide) (by decide), shM H, _, rM0 H, 184, shV H, vi (by decide) (by decide), fun h => ⟨shM H, _, rM0 H, 184, shV H, vi (by decide) (by decide), 184, shV H, vi (by decide) (by decide), ?_⟩, fun h => ?_⟩
  · rw [mS_get (by decide), mS_get (by decide), nI_leI (by omega) (by omega)] at h
    rw [mS_get (by decide), mS_get (by decide), pk_sub h]
    refine nw_e (mS_put (by decide)) ⟨shM H, _, rM0 H, 184, shV H, vi (by decide) (by decide), 184, shV H, vi (by decide) (by decide), ?_⟩
    rw [mS_get (by decide), nI_add, upN_n (by decide)]
    refine nw_e (mS_put (by decide)) ⟨shM H, r_adds H (by omega) (by decide) ⟨shM H, _, rM0 H, 184, shV H, vi (by decide) (by decide), ?_⟩⟩
    rw [mS_get (by decide)]
    simp (disch := omega) only [upN_n, upN_s]
    refine ⟨shM H, r_adds H (by omega) (by decide) ⟨shM H, r_of H (by omega) (by decide) ?_⟩⟩
    simp (disch := omega) only [upN_n, upN_s]
    have e := nI_ltI (a := V (72 + 8 * b + 3) + V 4) (b := 100) (by omega) (by decide)
    unfold dPnt at hK
    rw [if_pos h] at hK
    dsimp only at hK
    refine ⟨fun h6 => ?_, fun h6 => ⟨shM H, r_lays H (by omega) (by decide) ⟨shM H, r_lays H (by omega) (by decide) ?_⟩⟩⟩
    · rw [if_pos (e.mp h6)] at hK
      exact hK
    · rw [if_neg (fun z => h6 (e.mpr z))] at hK
      exact hK
  · rw [mS_get (by decide), mS_get (by decide), nI_leI (by omega) (by omega)] at h
    unfold dPnt at hK
    rw [if_neg h] at hK
    exact hK
def dWea (V : Nat → Nat) (b : Nat) : Nat → Nat := upN V (72 + 8 * b + 3) (V (72 + 8 * b + 3) - V (72 + 8 * b + 2))
theorem r_wea (H : MI σ) (hw : WF m V) {b : Nat} (hb : b < V 2) (hK : KV (mS σ (dWea V b))) : cV E 117 [.ref 179, .int (nI b)] (mS σ V) KV := by
  have h1 := hw.1
  unfold W1 at h1
  have h3 := hw.2.2.1 b hb
  unfold dWea at hK
  refine sg117_0 ⟨shM H, r_of H (by omega) (by decide) ⟨shM H, r_of H (by omega) (by decide) ⟨fun h => ?_, fun h => ?_⟩⟩⟩
  · have h4 := nI_subT (by omega) (by omega) h
    rw [pk_sub h4]
    exact ⟨shM H, r_lays H (by omega) (by decide) hK⟩
  · have h4 : ¬ V (72 + 8 * b + 2) ≤ V (72 + 8 * b + 3) := fun z => h (by rw [pk_sub z]; exact nI_le (Nat.zero_le _) (by omega))
    rw [show V (72 + 8 * b + 3) - V (72 + 8 * b + 2) = 0 by omega] at hK
    exact ⟨shM H, r_lays H (by omega) (by decide) hK⟩
/-- one day of one island: its vector, its complaint -/
def dWai (V : Nat → Nat) (i : Nat) (r : Bool) : Nat → Nat :=
  if r = true then upN V (32 + 5 * i + 1) 0
  else if V 6 = 1 ∧ V (32 + 5 * i + 0) ≤ V 11 then upN (upN (upN (upN V 11 (V 11 - V (32 + 5 * i + 0))) 13 (V 13 + V (32 + 5 * i + 0))) (32 + 5 * i + 4) (V (32 + 5 * i + 4) + 1)) (32 + 5 * i + 1) 0
  else
    let W := upN (upN V (32 + 5 * i + 1) (V (32 + 5 * i + 1) + 1)) (32 + 5 * i + 3) (if V (32 + 5 * i + 1) + 1 ≤ V (32 + 5 * i + 3) then V (32 + 5 * i + 3) else V (32 + 5 * i + 1) + 1)
    if V 7 < V (32 + 5 * i + 1) + 1 then upN W (32 + 5 * i + 2) (V (32 + 5 * i + 2) + 1) else W
def cWai (V : Nat → Nat) (i : Nat) (r : Bool) : Nat :=
  if r = true then 0 else if V 6 = 1 ∧ V (32 + 5 * i + 0) ≤ V 11 then 0 else if V 7 < V (32 + 5 * i + 1) + 1 then 1 else 0
end REF3
end
section
/-! what a step keeps; the day -/
section REF4
variable {E : AEnv} {σ : ASt} {V : Nat → Nat} {m : Nat} {Q : Option Value → ASt → Prop} {K : Int32 → ASt → Prop} {KV : ASt → Prop}
theorem dPnt_o {b j : Nat} (h1 : j ≠ 11) (h2 : j ≠ 12) (h : j < 72 + 8 * b + 3 ∨ 72 + 8 * b + 8 ≤ j) : dPnt V b j = V j := by
  unfold dPnt
  dsimp only
  split
  · split
    · simp (disch := omega) only [upN_n, upN_s]
    · simp (disch := omega) only [upN_n, upN_s]
  · rfl
theorem dWea_o {b j : Nat} (h : j ≠ 72 + 8 * b + 3) : dWea V b j = V j := upN_n h
theorem dSnd_o {b j : Nat} (h : j < 72 + 8 * b + 4 ∨ 72 + 8 * b + 6 ≤ j) : dSnd V b j = V j := by
  unfold dSnd
  simp (disch := omega) only [upN_n, upN_s]
theorem dWai_o {i j : Nat} {r : Bool} (h1 : j ≠ 11) (h2 : j ≠ 13) (h : j < 32 + 5 * i + 1 ∨ 32 + 5 * i + 5 ≤ j) : dWai V i r j = V j := by
  unfold dWai
  dsimp only
  split
  · simp (disch := omega) only [upN_n, upN_s]
  · split
    · simp (disch := omega) only [upN_n, upN_s]
    · split
      · simp (disch := omega) only [upN_n, upN_s]
      · simp (disch := omega) only [upN_n, upN_s]
theorem dPnt_11 {b : Nat} : dPnt V b 11 ≤ V 11 := by
  unfold dPnt
  dsimp only
  split
  · split
    · simp (disch := omega) only [upN_n, upN_s]; omega
    · simp (disch := omega) only [upN_n, upN_s]; omega
  · exact Nat.le_refl _
theorem dWai_11 {i : Nat} {r : Bool} : dWai V i r 11 ≤ V 11 := by
  unfold dWai
  dsimp only
  split
  · simp (disch := omega) only [upN_n, upN_s]; omega
  · split
    · simp (disch := omega) only [upN_n, upN_s]; omega
    · split
      · simp (disch := omega) only [upN_n, upN_s]; omega
      · simp (disch := omega) only [upN_n, upN_s]; omega
theorem dPnt_3 {b : Nat} (h : V (72 + 8 * b + 3) ≤ 100) : dPnt V b (72 + 8 * b + 3) ≤ 100 := by
  unfold dPnt
  dsimp only
  split
  · split
    · simp (disch := omega) only [upN_n, upN_s]; omega
    · simp (disch := omega) only [upN_n, upN_s]; omega
  · exact h
theorem dPnt_4 {b : Nat} (h : V (72 + 8 * b + 4) ≤ 1) : dPnt V b (72 + 8 * b + 4) ≤ 1 := by
  unfold dPnt
  dsimp only
  split
  · split
    · simp (disch := omega) only [upN_n, upN_s]; exact h
    · simp (disch := omega) only [upN_n, upN_s]; omega
  · exact h
theorem dWai_1 {i : Nat} {r : Bool} : dWai V i r (32 + 5 * i + 1) ≤ V (32 + 5 * i + 1) + 1 := by
  unfold dWai
  dsimp only
  split
  · simp (disch := omega) only [upN_n, upN_s]; omega
  · split
    · simp (disch := omega) only [upN_n, upN_s]; omega
    · split
      · simp (disch := omega) only [upN_n, upN_s]; omega
      · simp (disch := omega) only [upN_n, upN_s]; omega
theorem dWai_3 {i : Nat} {r : Bool} : dWai V i r (32 + 5 * i + 3) ≤ V (32 + 5 * i + 3) ∨ dWai V i r (32 + 5 * i + 3) ≤ V (32 + 5 * i + 1) + 1 := by
  unfold dWai
  dsimp only
  split
  · simp (disch := omega) only [upN_n, upN_s]; omega
  · split
    · simp (disch := omega) only [upN_n, upN_s]; omega
    · split
      · simp (disch := omega) only [upN_n, upN_s]; split <;> omega
      · simp (disch := omega) only [upN_n, upN_s]; split <;> omega
/-- the same places, the purse not greater, bridge b right -/
theorem WF.brg {W : Nat → Nat} (hw : WF m V) {b : Nat} (h0 : ∀ j, j < 72 → j ≠ 11 → j ≠ 12 → W j = V j) (h11 : W 11 ≤ V 11) (hb : ∀ j, j < 72 + 8 * b + 3 ∨ 72 + 8 * b + 8 ≤ j → 72 ≤ j → W j = V j) (h3 : b < V 2 → W (72 + 8 * b + 3) ≤ 100) (h4 : b < V 2 → W (72 + 8 * b + 4) ≤ 1) : WF m W := by
  obtain ⟨a1, a2, a3, a4, a5⟩ := hw
  unfold W1 at a1
  have e0 := h0 0 (by decide) (by decide) (by decide)
  have e1 := h0 1 (by decide) (by decide) (by decide)
  have e2 := h0 2 (by decide) (by decide) (by decide)
  refine ⟨?_, ?_, ?_, ?_, ?_⟩
  · unfold W1
    rw [e1, e2, h0 15 (by decide) (by decide) (by decide)]
    exact a1
  · unfold W2 at a2 ⊢
    rw [h0 3 (by decide) (by decide) (by decide), h0 4 (by decide) (by decide) (by decide), h0 5 (by decide) (by decide) (by decide), h0 6 (by decide) (by decide) (by decide), h0 7 (by decide) (by decide) (by decide), h0 8 (by decide) (by decide) (by decide), h0 9 (by decide) (by decide) (by decide), h0 10 (by decide) (by decide) (by decide)]
    exact a2
  · intro c hc
    rw [e2] at hc
    have := a3 c hc
    rw [e1, hb (72 + 8 * c + 0) (by omega) (by omega), hb (72 + 8 * c + 1) (by omega) (by omega), hb (72 + 8 * c + 2) (by omega) (by omega)]
    by_cases hcb : c = b
    · subst hcb
      have := h3 hc
      have := h4 hc
      omega
    · rw [hb (72 + 8 * c + 3) (by omega) (by omega), hb (72 + 8 * c + 4) (by omega) (by omega)]
      exact this
  · intro i hi
    rw [e1] at hi
    rw [e0, h0 (32 + 5 * i + 0) (by omega) (by omega) (by omega), h0 (32 + 5 * i + 1) (by omega) (by omega) (by omega), h0 (32 + 5 * i + 3) (by omega) (by omega) (by omega)]
    exact a4 i hi
  · unfold W5 at a5 ⊢
    rw [e0]
    omega
theorem WF.pnt (hw : WF m V) {b : Nat} (hb : b < V 2) : WF m (dPnt V b) := by
  have h3 := hw.2.2.1 b hb
  exact hw.brg (b := b) (fun j h1 h2 h3 => dPnt_o h2 h3 (by omega)) dPnt_11 (fun j h1 h2 => dPnt_o (by omega) (by omega) h1) (fun _ => dPnt_3 (by omega)) (fun _ => dPnt_4 (by omega))
theorem WF.wea (hw : WF m V) {b : Nat} (hb : b < V 2) : WF m (dWea V b) := by
  have h3 := hw.2.2.1 b hb
  refine hw.brg (b := b) (fun j h1 h2 h3 => dWea_o (by omega)) (Nat.le_of_eq (dWea_o (by omega))) (fun j h1 h2 => dWea_o (by omega)) (fun _ => ?_) (fun _ => ?_)
  · unfold dWea; simp (disch := omega) only [upN_n, upN_s]; omega
  · unfold dWea; simp (disch := omega) only [upN_n, upN_s]; omega
theorem WF.snd (hw : WF m V) {b : Nat} (hb : b < V 2) : WF m (dSnd V b) := by
  have h3 := hw.2.2.1 b hb
  refine hw.brg (b := b) (fun j h1 h2 h3 => dSnd_o (by omega)) (Nat.le_of_eq (dSnd_o (by omega))) (fun j h1 h2 => dSnd_o (by omega)) (fun _ => ?_) (fun _ => ?_)
  · unfold dSnd; simp (disch := omega) only [upN_n, upN_s]; omega
  · unfold dSnd; simp (disch := omega) only [upN_n, upN_s]; omega
theorem WF.rec (hw : WF m V) {b : Nat} (hb : b < V 2) : WF m (dRec V b) := by
  have h3 := hw.2.2.1 b hb
  refine hw.brg (b := b) (fun j h1 h2 h3 => upN_n (by omega)) (Nat.le_of_eq (upN_n (by omega))) (fun j h1 h2 => upN_n (by omega)) (fun _ => ?_) (fun _ => ?_)
  · unfold dRec; simp (disch := omega) only [upN_n, upN_s]; omega
  · unfold dRec; simp (disch := omega) only [upN_n, upN_s]; omega
theorem WF.clo (hw : WF m V) {b x : Nat} (hb : b < V 2) : WF m (upN V (72 + 8 * b + 6) x) := by
  have h3 := hw.2.2.1 b hb
  refine hw.brg (b := b) (fun j h1 h2 h3 => upN_n (by omega)) (Nat.le_of_eq (upN_n (by omega))) (fun j h1 h2 => upN_n (by omega)) (fun _ => ?_) (fun _ => ?_)
  · simp (disch := omega) only [upN_n, upN_s]; omega
  · simp (disch := omega) only [upN_n, upN_s]; omega
/-- while islands wait: those from k on have not yet -/
def W4k (k : Nat) (V : Nat → Nat) : Prop := ∀ i, i < V 1 → V (32 + 5 * i + 0) ≤ 99 ∧ V (32 + 5 * i + 1) ≤ V 0 + 1 ∧ V (32 + 5 * i + 3) ≤ V 0 + 1 ∧ (k ≤ i → V (32 + 5 * i + 1) ≤ V 0 ∧ V (32 + 5 * i + 3) ≤ V 0)
def WL (m k : Nat) (V : Nat → Nat) : Prop := W1 V ∧ W2 V ∧ W3 V ∧ W4k k V ∧ W5 m V
theorem WF.wl (hw : WF m V) (k : Nat) : WL m k V := ⟨hw.1, hw.2.1, hw.2.2.1, fun i hi => by
  have := hw.2.2.2.1 i hi
  omega, hw.2.2.2.2⟩
theorem WL.wai {i : Nat} (hw : WL m i V) (hi : i < V 1) (r : Bool) : WL m (i + 1) (dWai V i r) := by
  obtain ⟨a1, a2, a3, a4, a5⟩ := hw
  unfold W1 at a1
  have o : ∀ j, j < 32 → j ≠ 11 → j ≠ 13 → dWai V i r j = V j := fun j h1 h2 h3 => dWai_o h2 h3 (by omega)
  have p : ∀ j, 72 ≤ j → dWai V i r j = V j := fun j h1 => dWai_o (by omega) (by omega) (by omega)
  refine ⟨?_, ?_, ?_, ?_, ?_⟩
  · unfold W1
    rw [o 1 (by decide) (by decide) (by decide), o 2 (by decide) (by decide) (by decide), o 15 (by decide) (by decide) (by decide)]
    exact a1
  · unfold W2 at a2 ⊢
    rw [o 3 (by decide) (by decide) (by decide), o 4 (by decide) (by decide) (by decide), o 5 (by decide) (by decide) (by decide), o 6 (by decide) (by decide) (by decide), o 7 (by decide) (by decide) (by decide), o 8 (by decide) (by decide) (by decide), o 9 (by decide) (by decide) (by decide), o 10 (by decide) (by decide) (by decide)]
    exact a2
  · intro c hc
    rw [o 2 (by decide) (by decide) (by decide)] at hc
    rw [o 1 (by decide) (by decide) (by decide), p _ (by omega), p _ (by omega), p _ (by omega), p _ (by omega), p _ (by omega)]
    exact a3 c hc
  · intro c hc
    rw [o 1 (by decide) (by decide) (by decide)] at hc
    rw [o 0 (by decide) (by decide) (by decide), dWai_o (by omega) (by omega) (by omega)]
    have h6 := a4 c hc
    by_cases hci : c = i
    · subst hci
      have h1 := dWai_1 (V := V) (i := c) (r := r)
      have h3 := dWai_3 (V := V) (i := c) (r := r)
      omega
    · rw [dWai_o (by omega) (by omega) (by omega), dWai_o (by omega) (by omega) (by omega)]
      omega
  · unfold W5 at a5 ⊢
    rw [o 0 (by decide) (by decide) (by decide)]
    have := dWai_11 (V := V) (i := i) (r := r)
    omega
theorem r_wai (H : MI σ) {i : Nat} {r : Bool} (hw : WL m i V) (hi : i < V 1) (hK : K (nI (cWai V i r)) (mS σ (dWai V i r))) : cI E 118 [.ref 179, .int (nI i), .int (bI r)] (mS σ V) K := by
  have h1 := hw.1
  unfold W1 at h1
  have h2 := hw.2.1
  unfold W2 at h2
  have h5 := hw.2.2.2.2
  unfold W5 at h5
  have h4 := hw.2.2.2.1 i hi
  have hi8 : i < 8 := by omega
  unfold dWai cWai at hK
  dsimp only at hK
  refine sg118_0 ⟨shM H, r_ofI H hi8 (by decide) ⟨fun h => ⟨shM H, _, rM0 H, 184, shV H, vi (by decide) (by decide), fun h6 => ?_, fun h6 => ⟨shM H, _, rM0 H, 184, shV H, vi (by decide) (by decide), fun h7 => ?_, fun h7 => ?_⟩⟩, fun h => ?_⟩⟩
  rotate_left 2
  · rw [(bI_0 _).mp h] at hK
    rw [mS_get (by decide)] at h6 h7
    rw [nI_ltI (by omega) (by omega)] at h7
    have h6 : V 6 = 1 := (nI_eq (by omega) (by decide)).mp (Classical.not_not.mp h6)
    rw [if_neg ff, if_neg ff, if_pos ⟨h6, by omega⟩, if_pos ⟨h6, by omega⟩] at hK
    refine ⟨shM H, _, rM0 H, 184, shV H, vi (by decide) (by decide), 184, shV H, vi (by decide) (by decide), ?_⟩
    rw [mS_get (by decide), pk_sub (by omega)]
    refine nw_e (mS_put (by decide)) ⟨shM H, _, rM0 H, 184, shV H, vi (by decide) (by decide), 184, shV H, vi (by decide) (by decide), ?_⟩
    rw [mS_get (by decide), nI_add, upN_n (by decide)]
    refine nw_e (mS_put (by decide)) ⟨shM H, r_addsI H hi8 (by decide) ⟨shM H, r_laysI H hi8 (by decide) ?_⟩⟩
    rw [upN_n (by omega), upN_n (by omega)]
    exact hK
  · have e : r = true := by
      cases hq : r with
      | true => rfl
      | false => exact absurd ((bI_0 _).mpr hq) h
    rw [if_pos e, if_pos e] at hK
    exact ⟨shM H, r_laysI H hi8 (by decide) hK⟩
  · have hno : ¬ (V 6 = 1 ∧ V (32 + 5 * i + 0) ≤ V 11) := fun z => by
      rw [mS_get (by decide)] at h6
      exact h6 (congrArg nI z.1)
    rw [(bI_0 _).mp h] at hK
    rw [if_neg ff, if_neg ff, if_neg hno, if_neg hno] at hK
    refine ⟨shM H, r_addsI H hi8 (by decide) ⟨shM H, r_ofI H hi8 (by decide) ⟨shM H, r_ofI H hi8 (by decide) ?_⟩⟩⟩
    rw [upN_s, upN_n (by omega)]
    have e8 := nI_leI (a := V (32 + 5 * i + 1) + 1) (b := V (32 + 5 * i + 3)) (by omega) (by omega)
    have e9 := nI_ltI (a := V 7) (b := V (32 + 5 * i + 1) + 1) (by omega) (by omega)
    refine ⟨fun h8 => ⟨shM H, r_ofI H hi8 (by decide) ⟨shM H, ?_⟩⟩, fun h8 => ⟨shM H, ?_⟩⟩
    · rw [if_pos (e8.mp h8)] at hK
      rw [upN_n (by omega)]
      refine r_laysI H hi8 (by decide) ⟨shM H, _, rM0 H, 184, shV H, vi (by decide) (by decide), ?_⟩
      rw [mS_get (by decide), upN_n (by omega), upN_n (by omega)]
      refine ⟨fun h9 => ⟨shM H, r_addsI H hi8 (by decide) ?_⟩, fun h9 => ?_⟩
      · rw [if_pos (e9.mp h9), if_pos (e9.mp h9)] at hK
        rw [upN_n (by omega), upN_n (by omega)]
        exact hK
      · rw [if_neg (fun z => h9 (e9.mpr z)), if_neg (fun z => h9 (e9.mpr z))] at hK
        exact hK
    · rw [if_neg (fun z => h8 (e8.mpr z))] at hK
      refine r_laysI H hi8 (by decide) ⟨shM H, _, rM0 H, 184, shV H, vi (by decide) (by decide), ?_⟩
      rw [mS_get (by decide), upN_n (by omega), upN_n (by omega)]
      refine ⟨fun h9 => ⟨shM H, r_addsI H hi8 (by decide) ?_⟩, fun h9 => ?_⟩
      · rw [if_pos (e9.mp h9), if_pos (e9.mp h9)] at hK
        rw [upN_n (by omega), upN_n (by omega)]
        exact hK
      · rw [if_neg (fun z => h9 (e9.mpr z)), if_neg (fun z => h9 (e9.mpr z))] at hK
        exact hK
  · have hno : ¬ (V 6 = 1 ∧ V (32 + 5 * i + 0) ≤ V 11) := fun z => by
      rw [mS_get (by decide), nI_ltI (by omega) (by omega)] at h7
      omega
    rw [(bI_0 _).mp h] at hK
    rw [if_neg ff, if_neg ff, if_neg hno, if_neg hno] at hK
    refine ⟨shM H, r_addsI H hi8 (by decide) ⟨shM H, r_ofI H hi8 (by decide) ⟨shM H, r_ofI H hi8 (by decide) ?_⟩⟩⟩
    rw [upN_s, upN_n (by omega)]
    have e8 := nI_leI (a := V (32 + 5 * i + 1) + 1) (b := V (32 + 5 * i + 3)) (by omega) (by omega)
    have e9 := nI_ltI (a := V 7) (b := V (32 + 5 * i + 1) + 1) (by omega) (by omega)
    refine ⟨fun h8 => ⟨shM H, r_ofI H hi8 (by decide) ⟨shM H, ?_⟩⟩, fun h8 => ⟨shM H, ?_⟩⟩
    · rw [if_pos (e8.mp h8)] at hK
      rw [upN_n (by omega)]
      refine r_laysI H hi8 (by decide) ⟨shM H, _, rM0 H, 184, shV H, vi (by decide) (by decide), ?_⟩
      rw [mS_get (by decide), upN_n (by omega), upN_n (by omega)]
      refine ⟨fun h9 => ⟨shM H, r_addsI H hi8 (by decide) ?_⟩, fun h9 => ?_⟩
      · rw [if_pos (e9.mp h9), if_pos (e9.mp h9)] at hK
        rw [upN_n (by omega), upN_n (by omega)]
        exact hK
      · rw [if_neg (fun z => h9 (e9.mpr z)), if_neg (fun z => h9 (e9.mpr z))] at hK
        exact hK
    · rw [if_neg (fun z => h8 (e8.mpr z))] at hK
      refine r_laysI H hi8 (by decide) ⟨shM H, _, rM0 H, 184, shV H, vi (by decide) (by decide), ?_⟩
      rw [mS_get (by decide), upN_n (by omega), upN_n (by omega)]
      refine ⟨fun h9 => ⟨shM H, r_addsI H hi8 (by decide) ?_⟩, fun h9 => ?_⟩
      · rw [if_pos (e9.mp h9), if_pos (e9.mp h9)] at hK
        rw [upN_n (by omega), upN_n (by omega)]
        exact hK
      · rw [if_neg (fun z => h9 (e9.mpr z)), if_neg (fun z => h9 (e9.mpr z))] at hK
        exact hK
/-- all crews paint -/
def dPA (V : Nat → Nat) : Nat → (Nat → Nat)
  | 0 => V
  | n + 1 => if pntd (dPA V n) n = true then dPnt (dPA V n) n else dPA V n
theorem dPA_o {j : Nat} : ∀ n, j ≠ 11 → j ≠ 12 → (j < 72 ∨ 72 + 8 * n ≤ j) → dPA V n j = V j
  | 0, _, _, _ => rfl
  | n + 1, h1, h2, h3 => by
    rw [dPA]
    split
    · rw [dPnt_o h1 h2 (by omega)]; exact dPA_o n h1 h2 (by omega)
    · exact dPA_o n h1 h2 (by omega)
theorem WF.pa (hw : WF m V) : ∀ n, n ≤ V 2 → WF m (dPA V n)
  | 0, _ => hw
  | n + 1, h => by
    rw [dPA]
    have ih := hw.pa n (by omega)
    split
    · exact ih.pnt (by rw [dPA_o n (by decide) (by decide) (by omega)]; omega)
    · exact ih
/-- those that were open wear; those that are closed count a day -/
def dWA1 (o : Nat → Bool) (W : Nat → Nat) (n : Nat) : Nat → Nat := if o n = true then dWea W n else W
def dWA (o : Nat → Bool) (V : Nat → Nat) : Nat → (Nat → Nat)
  | 0 => V
  | n + 1 => upN (dWA1 o (dWA o V n) n) (72 + 8 * n + 6) (dWA1 o (dWA o V n) n (72 + 8 * n + 6) + (if opn (dWA1 o (dWA o V n) n) n = true then 0 else 1))
theorem dWA1_o {o : Nat → Bool} {n j : Nat} (h : j ≠ 72 + 8 * n + 3) : dWA1 o V n j = V j := by
  unfold dWA1
  split
  · exact dWea_o h
  · rfl
theorem dWA_o {o : Nat → Bool} {j : Nat} : ∀ n, (j < 72 ∨ 72 + 8 * n ≤ j) → dWA o V n j = V j
  | 0, _ => rfl
  | n + 1, h => by
    rw [dWA, upN_n (by omega), dWA1_o (by omega)]
    exact dWA_o n (by omega)
theorem WF.wa1 (hw : WF m V) {o : Nat → Bool} {n : Nat} (h : n < V 2) : WF m (dWA1 o V n) := by
  unfold dWA1
  split
  · exact hw.wea h
  · exact hw
theorem WF.wa (hw : WF m V) (o : Nat → Bool) : ∀ n, n ≤ V 2 → WF m (dWA o V n)
  | 0, _ => hw
  | n + 1, h => by
    rw [dWA]
    have ih := hw.wa o n (by omega)
    have e : dWA o V n 2 = V 2 := dWA_o n (by omega)
    exact (ih.wa1 (by omega)).clo (by rw [dWA1_o (by omega)]; omega)
def bt (R i : Nat) : Bool := Nat.beq (R / 2 ^ i % 2) 1
theorem bt_i {R i : Nat} (hR : R < 2 ^ 31) (hi : i < 32) : (nI R >>> (nI i &&& 31)) &&& nI 1 = bI (bt R i) := by
  have h1 : R / 2 ^ i < 2 ^ 31 := Nat.lt_of_le_of_lt (Nat.div_le_self _ _) hR
  rw [nI_shr hR hi, nI_and h1 (by decide), Nat.and_one_is_mod]
  unfold bt bI
  have h2 : R / 2 ^ i % 2 < 2 := Nat.mod_lt _ (by decide)
  rcases Nat.lt_or_ge (R / 2 ^ i % 2) 1 with h3 | h3
  · rw [show R / 2 ^ i % 2 = 0 by omega]
  · rw [show R / 2 ^ i % 2 = 1 by omega]
/-- the islands from 1 on wait, or don't -/
def dIA (V : Nat → Nat) (R : Nat) : Nat → (Nat → Nat)
  | 0 => V
  | n + 1 => if n = 0 then V else dWai (dIA V R n) n (bt R n)
def cIA (V : Nat → Nat) (R : Nat) : Nat → Nat
  | 0 => 0
  | n + 1 => if n = 0 then 0 else cIA V R n + cWai (dIA V R n) n (bt R n)
theorem cIA_le {R : Nat} : ∀ n, cIA V R n ≤ n
  | 0 => Nat.le_refl _
  | n + 1 => by
    rw [cIA]
    have ih := cIA_le (R := R) n
    have : cWai (dIA V R n) n (bt R n) ≤ 1 := by unfold cWai; repeat' split
                                                 all_goals omega
    split <;> omega
theorem dIA_o {R j : Nat} : ∀ n, j ≠ 11 → j ≠ 13 → (j < 32 ∨ 32 + 5 * n ≤ j) → dIA V R n j = V j
  | 0, _, _, _ => rfl
  | n + 1, h1, h2, h3 => by
    rw [dIA]
    split
    · rfl
    · rw [dWai_o h1 h2 (by omega)]; exact dIA_o n h1 h2 (by omega)
theorem WF.ia (hw : WF m V) (R : Nat) : ∀ n, n ≤ V 1 → WL m n (dIA V R n)
  | 0, _ => hw.wl 0
  | n + 1, h => by
    rw [dIA]
    split
    · exact hw.wl _
    · exact (hw.ia R n (by omega)).wai (by rw [dIA_o n (by decide) (by decide) (by omega)]; omega) _
/-- the book -/
def shN (V : Nat → Nat) : Nat → (Nat → Nat)
  | 0 => V
  | n + 1 => upN (shN V n) (31 - n) (shN V n (29 - n))
theorem shN_o {j : Nat} : ∀ n, n ≤ 14 → (j < 32 - n ∨ 32 ≤ j) → shN V n j = V j
  | 0, _, _ => rfl
  | n + 1, h, h2 => by rw [shN, upN_n (by omega)]; exact shN_o n (by omega) (by omega)
theorem shN_v {j : Nat} : ∀ n, n ≤ 14 → 32 - n ≤ j → j < 32 → shN V n j = V (j - 2)
  | 0, _, h1, h2 => by omega
  | n + 1, h, h1, h2 => by
    rw [shN]
    by_cases hj : j = 31 - n
    · subst hj
      rw [upN_s, shN_o n (by omega) (by omega)]
      exact congrArg V (by omega)
    · rw [upN_n hj]; exact shN_v n (by omega) (by omega) h2
def dNot (V : Nat → Nat) (c : Nat) : Nat → Nat := upN (upN (upN (shN V 14) 16 (V 0)) 17 c) 15 (if 8 ≤ V 15 then V 15 else V 15 + 1)
theorem dNot_o {c j : Nat} (h : j < 15 ∨ 32 ≤ j) : dNot V c j = V j := by
  unfold dNot
  simp (disch := omega) only [upN_n, upN_s]
  exact shN_o 14 (by omega) (by omega)
end REF4
end
section
/-! the reference's day -/
theorem bI_1 {b : Bool} (h : ¬ bI b = nI 0) : b = true := by
  cases b with
  | true => rfl
  | false => exact absurd rfl h
section REF5
variable {E : AEnv} {σ : ASt} {V : Nat → Nat} {m : Nat} {Q : Option Value → ASt → Prop} {K : Int32 → ASt → Prop} {KV : ASt → Prop}
theorem nI_dec {k : Nat} (h : 1 ≤ k) : nI k + (-1 : Int32) = nI (k - 1) := by
  have h1 : k = k - 1 + 1 := by omega
  rw [h1, ← nI_add, Int32.add_assoc, show nI 1 + (-1 : Int32) = 0 from by decide, Int32.add_zero]
  rfl
theorem r_bokL (H : MI σ) (h15 : V 15 ≤ 8) {c : Nat} (hK : Q none (mS σ (dNot V c))) : ∀ d n : Nat, n + d = 14 → wp E 119 3 [.ref 179, .int (nI c), .int (nI (31 - n))] [] (mS σ (shN V n)) Q := by
  intro d
  induction d with
  | zero =>
    intro n hn
    obtain rfl : n = 14 := by omega
    refine sg119_3 ⟨fun _ => ⟨shM H, _, rM0 H, shM H, _, rM0 H, 184, shV H, vi (by decide) (by decide), 184, shV H, vi (by decide) (by decide), ?_⟩, fun h => absurd (nI_le (by decide) (by decide)) h⟩
    rw [mS_get (by decide), shN_o 14 (by decide) (by decide)]
    refine nw_e (mS_put (by decide)) ⟨shM H, _, rM0 H, 184, shV H, vi (by decide) (by decide), ?_⟩
    refine nw_e (mS_put (by decide)) ⟨shM H, _, rM0 H, 184, shV H, vi (by decide) (by decide), shM H, _, rM0 H, 184, shV H, vi (by decide) (by decide), ?_⟩
    rw [mS_get (by decide), nI_add, nI_add]
    simp (disch := omega) only [upN_n, upN_s]
    rw [shN_o 14 (by decide) (by decide)]
    unfold dNot at hK
    refine ⟨fun h => ⟨184, shV H, vi (by decide) (by decide), nw_e (mS_put (by decide)) ?_⟩, fun h => ⟨184, shV H, vi (by decide) (by decide), nw_e (mS_put (by decide)) ?_⟩⟩
    · rw [nI_leI (by decide) (by omega)] at h
      rw [if_pos h] at hK
      exact hK
    · rw [nI_leI (by decide) (by omega)] at h
      rw [if_neg h] at hK
      exact hK
  | succ d ih =>
    intro n hn
    refine sg119_3 ⟨fun h => absurd h (nI_ge (by omega) (by omega)), fun _ => ?_⟩
    rw [pk_sub (by omega), show 31 - n - 2 = 29 - n by omega, cl _ (by omega), cl _ (by omega), nI_dec (by omega)]
    refine ⟨shM H, _, rM0 H, shM H, _, rM0 H, 184, shV H, vi (by omega) (by decide), 184, shV H, vi (by omega) (by decide), ?_⟩
    rw [mS_get (by omega)]
    refine nw_e (mS_put (by omega)) ?_
    rw [show 31 - n - 1 = 31 - (n + 1) by omega]
    exact ih (n + 1) (by omega)
theorem r_bok (H : MI σ) (h15 : V 15 ≤ 8) {c : Nat} (hK : KV (mS σ (dNot V c))) : cV E 119 [.ref 179, .int (nI c)] (mS σ V) KV := sg119_0 (r_bokL H h15 hK 14 0 (by omega))
def s5 (σ : ASt) (f : Nat → Int32) : ASt := (σ.1, (fun q => if q = 185 then f else σ.2.1 q), σ.2.2)
theorem s5_get {f : Nat → Int32} {k : Nat} : gI (mS (s5 σ f) V) 185 k = f k := by
  rw [mS_ne (by decide)]
  show (if 185 = 185 then f else σ.2.1 185) k = f k
  rw [if_pos rfl]
theorem s5_put {f : Nat → Int32} {k : Nat} {x : Int32} : wrI (mS (s5 σ f) V) 185 k x = mS (s5 σ (upd f k x)) V := by
  rw [mS_wr (by decide)]
  congr 1
  unfold wrI s5
  dsimp only
  congr 2
  funext q
  by_cases hq : q = 185
  · rw [if_pos hq, if_pos hq, if_pos rfl]
  · rw [if_neg hq, if_neg hq, if_neg hq]
theorem s5_s5 {f g : Nat → Int32} : s5 (s5 σ f) g = s5 σ g := by
  unfold s5
  dsimp only
  congr 2
  funext q
  by_cases hq : q = 185
  · rw [if_pos hq, if_pos hq]
  · rw [if_neg hq, if_neg hq, if_neg hq]
theorem s5_self : s5 σ (σ.2.1 185) = σ := by
  obtain ⟨a, b, c⟩ := σ
  unfold s5
  dsimp only
  congr 2
  funext q
  by_cases hq : q = 185
  · rw [if_pos hq, hq]
  · rw [if_neg hq]
theorem nar_bI (b : Bool) : vp_nar .boolean (bI b) = bI b := by cases b <;> decide
theorem sh5 (H : MI σ) : sh σ 185 12 14 := H.sh rfl
theorem rM7 (H : MI σ) : rf σ 179 7 185 := H.rf (by decide +kernel)
theorem r_ed1 (H : MI σ) (hw : WF m V) (hK : ∀ f : Nat → Int32, (∀ j, j < V 2 → f j = bI (opn V j)) → wp E 120 31 [.ref 179, .int (nI 0)] [] (mS (s5 σ f) V) Q) :
    ∀ (d k : Nat) (f : Nat → Int32), k + d = V 2 → (∀ j, j < k → f j = bI (opn V j)) → wp E 120 2 [.ref 179, .int (nI k)] [] (mS (s5 σ f) V) Q := by
  have h1 := hw.1
  unfold W1 at h1
  intro d
  induction d with
  | zero =>
    intro k f hk hf
    obtain rfl : k = V 2 := by omega
    refine sg120_2 ⟨shM H, _, rM0 H, 184, shV H, vi (by decide) (by decide), fun _ => hK f hf, fun h => absurd ?_ h⟩
    rw [mS_get (by decide)]
    exact nI_le (Nat.le_refl _) (by omega)
  | succ d ih =>
    intro k f hk hf
    have hb := hw.b (b := k) (by omega)
    refine sg120_2 ⟨shM H, _, rM0 H, 184, shV H, vi (by decide) (by decide), fun h => absurd h ?_, fun _ => ⟨shM H, _, rM7 H, shM H, r_isO (σ := s5 σ f) H (by omega) hb.2.2.1 hb.2.2.2 ⟨14, sh5 H, vi (by omega) (by omega), ?_⟩⟩⟩
    · rw [mS_get (by decide)]
      exact nI_ge (by omega) (by omega)
    · rw [nar_bI, cl _ (by omega), nI_add]
      refine nw_e s5_put (ih (k + 1) _ (by omega) fun j hj => ?_)
      unfold upd
      by_cases hjk : j = k
      · rw [if_pos hjk, hjk]
      · rw [if_neg hjk]; exact hf j (by omega)
theorem r_ed2 (H : MI σ) (hw : WF m V) (hK : wp E 120 62 [.ref 179, .int (nI 0)] [] (mS σ (dPA V (V 2))) Q) :
    ∀ d k : Nat, k + d = V 2 → wp E 120 31 [.ref 179, .int (nI k)] [] (mS σ (dPA V k)) Q := by
  have h1 := hw.1
  unfold W1 at h1
  intro d
  induction d with
  | zero =>
    intro k hk
    obtain rfl : k = V 2 := by omega
    refine sg120_31 ⟨shM H, _, rM0 H, 184, shV H, vi (by decide) (by decide), fun _ => hK, fun h => absurd ?_ h⟩
    rw [mS_get (by decide), dPA_o _ (by decide) (by decide) (by omega)]
    exact nI_le (Nat.le_refl _) (by omega)
  | succ d ih =>
    intro k hk
    have hw2 := hw.pa k (by omega)
    have e2 : dPA V k 2 = V 2 := dPA_o _ (by decide) (by decide) (by omega)
    have hb := hw2.b (b := k) (by omega)
    have nx := ih (k + 1) (by omega)
    rw [dPA] at nx
    refine sg120_31 ⟨shM H, _, rM0 H, 184, shV H, vi (by decide) (by decide), fun h => absurd h ?_, fun _ => ⟨shM H, r_isP H (by omega) hb.2.2.1 ⟨fun h => ?_, fun h => ⟨shM H, r_pnt H hw2 (by omega) ?_⟩⟩⟩⟩
    · rw [mS_get (by decide), e2]
      exact nI_ge (by omega) (by omega)
    · rw [if_neg (by rw [(bI_0 _).mp h]; decide)] at nx
      rw [nI_add]
      exact nx
    · rw [if_pos (bI_1 h)] at nx
      rw [nI_add]
      exact nx
theorem r_ed3 (H : MI σ) {o : Nat → Bool} {f : Nat → Int32} (hf : ∀ j, j < V 2 → f j = bI (o j)) (hw : WF m V) (hK : wp E 120 124 [.ref 179, .int (nI (reachV (dWA o V (V 2)) 0 99)), .int (nI 0), .int (nI 1)] [] (mS (s5 σ f) (dWA o V (V 2))) Q) :
    ∀ d k : Nat, k + d = V 2 → wp E 120 62 [.ref 179, .int (nI k)] [] (mS (s5 σ f) (dWA o V k)) Q := by
  have h1 := hw.1
  unfold W1 at h1
  have H' : MI (s5 σ f) := H
  intro d
  induction d with
  | zero =>
    intro k hk
    obtain rfl : k = V 2 := by omega
    refine sg120_62 ⟨shM H, _, rM0 H, 184, shV H, vi (by decide) (by decide), fun _ => ⟨shM H, r_reach H' (hw.wa o _ (Nat.le_refl _)) (by decide) woI_n hK⟩, fun h => absurd ?_ h⟩
    rw [mS_get (by decide), dWA_o _ (by omega)]
    exact nI_le (Nat.le_refl _) (by omega)
  | succ d ih =>
    intro k hk
    have hw2 := hw.wa o k (by omega)
    have e2 : dWA o V k 2 = V 2 := dWA_o _ (by omega)
    have nx := ih (k + 1) (by omega)
    rw [dWA] at nx
    have fin : ∀ W, WF m W → W = dWA1 o (dWA o V k) k → k < W 2 → (sh (mS (s5 σ f) W) 179 6 15 ∧ cI E 104 [.ref 179, .int (nI k)] (mS (s5 σ f) W) (fun x8 s7 =>
      (x8 = (nI 0) → sh s7 179 6 15 ∧ cV E 99 [.ref 179, .int (nI k), .int (nI 6), .int (nI 1)] s7 (fun s9 => wp E 120 62 [.ref 179, .int (nI k + (nI 1))] [] s9 Q)) ∧
      (¬ x8 = (nI 0) → sh s7 179 6 15 ∧ cV E 99 [.ref 179, .int (nI k), .int (nI 6), .int (nI 0)] s7 (fun s10 => wp E 120 62 [.ref 179, .int (nI k + (nI 1))] [] s10 Q)))) := by
      intro W hW eW hkW
      have hb := hW.b hkW
      rw [← eW] at nx
      refine ⟨shM H, r_isO H' (by omega) hb.2.2.1 hb.2.2.2 ⟨fun h => ⟨shM H, r_adds H' (by omega) (by decide) ?_⟩, fun h => ⟨shM H, r_adds H' (by omega) (by decide) ?_⟩⟩⟩
      · rw [if_neg (by rw [(bI_0 _).mp h]; decide)] at nx
        rw [nI_add]
        exact nx
      · rw [if_pos (bI_1 h)] at nx
        rw [nI_add]
        exact nx
    refine sg120_62 ⟨shM H, _, rM0 H, 184, shV H, vi (by decide) (by decide), fun h => absurd h ?_, fun _ => ⟨shM H, _, rM7 H, 14, sh5 H, vi (by omega) (by omega), fun h => ?_, fun h => ⟨shM H, r_wea H' hw2 (by omega) ?_⟩⟩⟩
    · rw [mS_get (by decide), e2]
      exact nI_ge (by omega) (by omega)
    · rw [cl _ (by omega), s5_get, hf k (by omega)] at h
      refine fin _ hw2 ?_ (by omega)
      unfold dWA1
      rw [if_neg (by rw [(bI_0 _).mp h]; decide)]
    · rw [cl _ (by omega), s5_get, hf k (by omega)] at h
      refine fin _ (hw2.wea (by omega)) ?_ (by rw [dWea_o (by omega)]; omega)
      unfold dWA1
      rw [if_pos (bI_1 h)]
/-- the crews that go by themselves -/
def aut : Nat → (Nat → Nat) → (Nat → Nat)
  | 0, W => W
  | n + 1, W => if bsV W = 99 then W else aut n (dSnd W (bsV W))
theorem bsN_ok (V : Nat → Nat) : ∀ n, bsN V n ≠ 99 → rsn V (bsN V n) = 0
  | 0, h => absurd rfl h
  | n + 1, h => by
    rw [bsN] at h ⊢
    split
    · rename_i h2
      exact h2.2.1
    · rename_i h2
      rw [if_neg h2] at h
      exact bsN_ok V n h
theorem bs_free {W : Nat → Nat} (h : bsV W ≠ 99) : pcV W < W 3 := by
  have h1 := bsN_ok W _ h
  unfold rsn at h1
  split at h1
  · omega
  · split at h1
    · omega
    · split at h1
      · omega
      · omega
theorem bs_crew {W : Nat → Nat} (hW : WF m W) (h : bsV W ≠ 99) : W (72 + 8 * bsV W + 4) = 0 := by
  have h1 := bsN_ok W _ h
  have hl : bsV W = 99 ∨ bsV W < W 2 := bsN_lt W (W 2)
  have hb := hW.2.2.1 (bsV W) (by omega)
  unfold rsn at h1
  split at h1
  · omega
  · rename_i h2
    have h3 : W (72 + 8 * bsV W + 4) ≠ 1 := fun z => h2 (beq_iff'.mpr z)
    omega
theorem pcN_snd {W : Nat → Nat} {b : Nat} (h : W (72 + 8 * b + 4) = 0) : ∀ n, pcN (dSnd W b) n = pcN W n + (if b < n then 1 else 0)
  | 0 => rfl
  | n + 1 => by
    rw [pcN, pcN, pcN_snd h n]
    by_cases hb : n = b
    · subst hb
      have e : dSnd W n (72 + 8 * n + 4) = 1 := by unfold dSnd; simp (disch := omega) only [upN_n, upN_s]
      rw [e, h, if_neg (by omega), if_pos (by omega)]
    · rw [dSnd_o (by omega)]
      by_cases hb2 : b < n
      · rw [if_pos hb2, if_pos (by omega)]; omega
      · rw [if_neg hb2, if_neg (by omega)]; omega
theorem pc_snd {W : Nat → Nat} (hW : WF m W) {b : Nat} (hb : b < W 2) (h : W (72 + 8 * b + 4) = 0) : pcV (dSnd W b) = pcV W + 1 := by
  unfold pcV
  rw [dSnd_o (by omega), pcN_snd h, if_pos hb]
theorem r_ed5 (H : MI σ) {a1 c : Int32} : ∀ (n : Nat) (W : Nat → Nat), WF m W → W 3 ≤ pcV W + n → Q (some (.int c)) (mS σ (aut n W)) → wp E 120 236 [.ref 179, .int a1, .int c, .int (bsI (bsV W))] [] (mS σ W) Q := by
  intro n
  induction n with
  | zero =>
    intro W hW hn hQ
    have hr := hW.1
    unfold W1 at hr
    have hl := bsN_lt W (W 2)
    have e : bsV W = 99 := Classical.byContradiction fun h => by
      have := bs_free h
      omega
    refine sg120_236 ⟨fun _ => hQ, fun h => absurd ((bsI_neg (Or.inl e)).mpr e) h⟩
  | succ n ih =>
    intro W hW hn hQ
    have hr := hW.1
    unfold W1 at hr
    have hl : bsV W = 99 ∨ bsV W < W 2 := bsN_lt W (W 2)
    have h99 := bsI_neg (b := bsV W) (by omega)
    rw [aut] at hQ
    refine sg120_236 ⟨fun h => ?_, fun h => ?_⟩
    · rw [if_pos (h99.mp h)] at hQ
      exact hQ
    · have h9 : bsV W ≠ 99 := fun z => h (h99.mpr z)
      rw [if_neg h9] at hQ
      have e : bsI (bsV W) = nI (bsV W) := if_neg h9
      have hb : bsV W < W 2 := by omega
      rw [e]
      have hS := hW.snd hb
      refine ⟨shM H, r_goS H hW (by omega) ⟨shM H, r_bs H hS ?_⟩⟩
      refine ih _ hS ?_ hQ
      rw [pc_snd hW hb (bs_crew hW h9), dSnd_o (by omega)]
      omega
end REF5
end
section
/-! the reference's day, to its end -/
section REF6
variable {E : AEnv} {σ : ASt} {V : Nat → Nat} {m : Nat} {Q : Option Value → ASt → Prop} {K : Int32 → ASt → Prop} {KV : ASt → Prop}
def dEnd (N : Nat → Nat) : Nat → Nat := upN (upN (upN N 0 (N 0 + 1)) 11 (N 11 + N 8)) 14 (N 14 + N 8)
def dFin (N : Nat → Nat) : Nat → Nat := if N 9 = 1 then aut 4 (dEnd N) else dEnd N
def dBok (I : Nat → Nat) (c : Nat) : Nat → Nat := if c = 0 then I else dNot I c
def dW3 (V : Nat → Nat) : Nat → Nat := dWA (opn V) (dPA V (V 2)) (V 2)
def dDay (V : Nat → Nat) : Nat → Nat := dFin (dBok (dIA (dW3 V) (reachV (dW3 V) 0 99) (V 1)) (cIA (dW3 V) (reachV (dW3 V) 0 99) (V 1)))
def cDay (V : Nat → Nat) : Nat := cIA (dW3 V) (reachV (dW3 V) 0 99) (V 1)
theorem WL.not {k c : Nat} (hw : WL m k V) : WL m k (dNot V c) := by
  obtain ⟨a1, a2, a3, a4, a5⟩ := hw
  unfold W1 at a1
  have p : ∀ j, 32 ≤ j → dNot V c j = V j := fun j h => dNot_o (by omega)
  refine ⟨?_, ?_, ?_, ?_, ?_⟩
  · unfold W1
    rw [dNot_o (by omega), dNot_o (by omega)]
    unfold dNot
    rw [upN_s]
    split <;> omega
  · unfold W2 at a2 ⊢
    rw [dNot_o (j := 3) (by omega), dNot_o (j := 4) (by omega), dNot_o (j := 5) (by omega), dNot_o (j := 6) (by omega), dNot_o (j := 7) (by omega), dNot_o (j := 8) (by omega), dNot_o (j := 9) (by omega), dNot_o (j := 10) (by omega)]
    exact a2
  · intro b hb
    rw [dNot_o (by omega)] at hb
    rw [dNot_o (j := 1) (by omega), p _ (by omega), p _ (by omega), p _ (by omega), p _ (by omega), p _ (by omega)]
    exact a3 b hb
  · intro i hi
    rw [dNot_o (by omega)] at hi
    rw [dNot_o (j := 0) (by omega), p _ (by omega), p _ (by omega), p _ (by omega)]
    exact a4 i hi
  · unfold W5 at a5 ⊢
    rw [dNot_o (j := 0) (by omega), dNot_o (j := 11) (by omega)]
    exact a5
theorem WL.bok {k c : Nat} (hw : WL m k V) : WL m k (dBok V c) := by
  unfold dBok
  split
  · exact hw
  · exact hw.not
theorem WL.fin {k : Nat} (hw : WL m k V) (hm : m < 100000) : WF (m + 1) (dEnd V) := by
  obtain ⟨a1, a2, a3, a4, a5⟩ := hw
  unfold W1 at a1
  unfold W2 at a2
  unfold W5 at a5
  have o : ∀ j, j ≠ 0 → j ≠ 11 → j ≠ 14 → dEnd V j = V j := fun j h1 h2 h3 => by
    unfold dEnd
    simp (disch := omega) only [upN_n, upN_s]
  have e0 : dEnd V 0 = V 0 + 1 := by unfold dEnd; simp (disch := omega) only [upN_n, upN_s]
  have e11 : dEnd V 11 = V 11 + V 8 := by unfold dEnd; simp (disch := omega) only [upN_n, upN_s]
  refine ⟨?_, ?_, ?_, ?_, ?_⟩
  · unfold W1
    rw [o 1 (by decide) (by decide) (by decide), o 2 (by decide) (by decide) (by decide), o 15 (by decide) (by decide) (by decide)]
    exact a1
  · unfold W2
    rw [o 3 (by decide) (by decide) (by decide), o 4 (by decide) (by decide) (by decide), o 5 (by decide) (by decide) (by decide), o 6 (by decide) (by decide) (by decide), o 7 (by decide) (by decide) (by decide), o 8 (by decide) (by decide) (by decide), o 9 (by decide) (by decide) (by decide), o 10 (by decide) (by decide) (by decide)]
    exact a2
  · intro c hc
    rw [o 2 (by decide) (by decide) (by decide)] at hc
    rw [o 1 (by decide) (by decide) (by decide), o _ (by omega) (by omega) (by omega), o _ (by omega) (by omega) (by omega), o _ (by omega) (by omega) (by omega), o _ (by omega) (by omega) (by omega), o _ (by omega) (by omega) (by omega)]
    exact a3 c hc
  · intro i hi
    rw [o 1 (by decide) (by decide) (by decide)] at hi
    rw [e0, o _ (by omega) (by omega) (by omega), o _ (by omega) (by omega) (by omega), o _ (by omega) (by omega) (by omega)]
    have := a4 i hi
    omega
  · unfold W5
    rw [e0, e11]
    omega
theorem WF.autn : ∀ (n : Nat) (V : Nat → Nat), WF m V → WF m (aut n V)
  | 0, _, hw => hw
  | n + 1, V, hw => by
    have hl : bsV V = 99 ∨ bsV V < V 2 := bsN_lt V (V 2)
    rw [aut]
    split
    · exact hw
    · exact WF.autn n _ (hw.snd (by omega))
theorem WF.w3 (hw : WF m V) : WF m (dW3 V) := by
  unfold dW3
  have e : dPA V (V 2) 2 = V 2 := dPA_o _ (by decide) (by decide) (by omega)
  exact (hw.pa _ (Nat.le_refl _)).wa _ _ (by omega)
theorem dW3_o {j : Nat} (h : j < 72) (h1 : j ≠ 11) (h2 : j ≠ 12) : dW3 V j = V j := by
  unfold dW3
  rw [dWA_o _ (by omega), dPA_o _ h1 h2 (by omega)]
theorem WF.bk (hw : WF m V) : WL m (V 1) (dBok (dIA (dW3 V) (reachV (dW3 V) 0 99) (V 1)) (cDay V)) := by
  have e : dW3 V 1 = V 1 := dW3_o (by decide) (by decide) (by decide)
  exact (hw.w3.ia _ _ (by omega)).bok
theorem WF.day (hw : WF m V) (hm : m < 100000) : WF (m + 1) (dDay V) := by
  have h := hw.bk.fin hm
  unfold dDay dFin
  split
  · exact WF.autn 4 _ h
  · exact h
theorem aut_o {j : Nat} (hj : j < 72) : ∀ (n : Nat) (V : Nat → Nat), aut n V j = V j
  | 0, _ => rfl
  | n + 1, V => by
    rw [aut]
    split
    · rfl
    · rw [aut_o hj n, dSnd_o (by omega)]
theorem cDay_le (hw : WF m V) : cDay V ≤ 8 := by
  have h1 := hw.1
  unfold W1 at h1
  have := cIA_le (V := dW3 V) (R := reachV (dW3 V) 0 99) (V 1)
  unfold cDay
  omega
theorem r_ed4 (H : MI σ) (hw : WF m V) (hm : m < 100000) (hK : Q (some (.int (nI (cDay V)))) (mS σ (dDay V))) :
    ∀ d k : Nat, 1 ≤ k → k + d = V 1 → wp E 120 124 [.ref 179, .int (nI (reachV (dW3 V) 0 99)), .int (nI (cIA (dW3 V) (reachV (dW3 V) 0 99) k)), .int (nI k)] [] (mS σ (dIA (dW3 V) (reachV (dW3 V) 0 99) k)) Q := by
  have h1 := hw.1
  unfold W1 at h1
  have hW := hw.w3
  have e1 : dW3 V 1 = V 1 := dW3_o (by decide) (by decide) (by decide)
  have hR : reachV (dW3 V) 0 99 < 2 ^ 8 := reach_lt hW.ends (by decide)
  have eI : ∀ n, dIA (dW3 V) (reachV (dW3 V) 0 99) n 1 = V 1 := fun n => by rw [dIA_o n (by decide) (by decide) (by omega), e1]
  intro d
  induction d with
  | zero =>
    intro k hk0 hk
    obtain rfl : k = V 1 := by omega
    have hc := cDay_le hw
    have hL := hW.ia (reachV (dW3 V) 0 99) (V 1) (by omega)
    have hB := hw.bk
    have tl : ∀ N, WL m (V 1) N → N = dBok (dIA (dW3 V) (reachV (dW3 V) 0 99) (V 1)) (cDay V) → (nI (N 9) ≠ nI 1 → wp E 120 236 [.ref 179, .int (nI (reachV (dW3 V) 0 99)), .int (nI (cDay V)), .int (-1000004 : Int32)] [] (mS σ (dEnd N)) Q) ∧ (¬ nI (N 9) ≠ nI 1 → sh (mS σ (dEnd N)) 179 6 15 ∧ cI E 110 [.ref 179] (mS σ (dEnd N)) (fun x22 s21 => wp E 120 236 [.ref 179, .int (nI (reachV (dW3 V) 0 99)), .int (nI (cDay V)), .int x22] [] s21 Q)) := by
      intro N hN eN
      have hF := hN.fin hm
      have h2 := hN.2.1
      unfold W2 at h2
      have hK' : Q (some (.int (nI (cDay V)))) (mS σ (dFin N)) := by rw [eN]; exact hK
      unfold dFin at hK'
      refine ⟨fun h => ?_, fun h => ⟨shM H, r_bs H hF ?_⟩⟩
      · rw [if_neg (fun z => h (congrArg nI z))] at hK'
        exact sg120_236 ⟨fun _ => hK', fun z => absurd (by decide) z⟩
      · rw [if_pos ((nI_eq (by omega) (by decide)).mp (Classical.not_not.mp h))] at hK'
        have e3 : dEnd N 3 = N 3 := by unfold dEnd; simp (disch := omega) only [upN_n, upN_s]
        exact r_ed5 H 4 _ hF (by omega) hK'
    refine sg120_124 ⟨shM H, _, rM0 H, 184, shV H, vi (by decide) (by decide), fun _ => ⟨fun h => ?_, fun h => ⟨shM H, r_bok H hL.1.2.2.2 ?_⟩⟩, fun h => absurd ?_ h⟩
    · have hN := hB
      have hc0 : cDay V = 0 := by
        have := (nI_leI (a := cDay V) (b := 0) (by omega) (by decide)).mp h
        omega
      have eN : dBok (dIA (dW3 V) (reachV (dW3 V) 0 99) (V 1)) (cDay V) = dIA (dW3 V) (reachV (dW3 V) 0 99) (V 1) := by unfold dBok; rw [if_pos hc0]
      rw [eN] at hN tl
      refine ⟨shM H, _, rM0 H, 184, shV H, vi (by decide) (by decide), 184, shV H, vi (by decide) (by decide), ?_⟩
      rw [mS_get (by decide), nI_add]
      refine nw_e (mS_put (by decide)) ⟨shM H, _, rM0 H, 184, shV H, vi (by decide) (by decide), shM H, _, rM0 H, 184, shV H, vi (by decide) (by decide), 184, shV H, vi (by decide) (by decide), ?_⟩
      rw [mS_get (by decide), mS_get (by decide), nI_add]
      simp (disch := omega) only [upN_n, upN_s]
      refine nw_e (mS_put (by decide)) ⟨shM H, _, rM0 H, 184, shV H, vi (by decide) (by decide), shM H, _, rM0 H, 184, shV H, vi (by decide) (by decide), 184, shV H, vi (by decide) (by decide), ?_⟩
      rw [mS_get (by decide), mS_get (by decide), nI_add]
      simp (disch := omega) only [upN_n, upN_s]
      refine nw_e (mS_put (by decide)) ⟨shM H, _, rM0 H, 184, shV H, vi (by decide) (by decide), ?_⟩
      rw [mS_get (by decide)]
      simp (disch := omega) only [upN_n, upN_s]
      exact tl _ hN rfl
    · have hN := hB
      have hc0 : cDay V ≠ 0 := fun z => h ((nI_leI (a := cDay V) (b := 0) (by omega) (by decide)).mpr (by omega))
      have eN : dBok (dIA (dW3 V) (reachV (dW3 V) 0 99) (V 1)) (cDay V) = dNot (dIA (dW3 V) (reachV (dW3 V) 0 99) (V 1)) (cDay V) := by unfold dBok; rw [if_neg hc0]
      rw [eN] at hN tl
      refine ⟨shM H, _, rM0 H, 184, shV H, vi (by decide) (by decide), 184, shV H, vi (by decide) (by decide), ?_⟩
      rw [mS_get (by decide), nI_add]
      refine nw_e (mS_put (by decide)) ⟨shM H, _, rM0 H, 184, shV H, vi (by decide) (by decide), shM H, _, rM0 H, 184, shV H, vi (by decide) (by decide), 184, shV H, vi (by decide) (by decide), ?_⟩
      rw [mS_get (by decide), mS_get (by decide), nI_add]
      simp (disch := omega) only [upN_n, upN_s]
      refine nw_e (mS_put (by decide)) ⟨shM H, _, rM0 H, 184, shV H, vi (by decide) (by decide), shM H, _, rM0 H, 184, shV H, vi (by decide) (by decide), 184, shV H, vi (by decide) (by decide), ?_⟩
      rw [mS_get (by decide), mS_get (by decide), nI_add]
      simp (disch := omega) only [upN_n, upN_s]
      refine nw_e (mS_put (by decide)) ⟨shM H, _, rM0 H, 184, shV H, vi (by decide) (by decide), ?_⟩
      rw [mS_get (by decide)]
      simp (disch := omega) only [upN_n, upN_s]
      exact tl _ hN rfl
    · rw [mS_get (by decide), eI]
      exact nI_le (Nat.le_refl _) (by omega)
  | succ d ih =>
    intro k hk0 hk
    have nx := ih (k + 1) (by omega) (by omega)
    rw [dIA, cIA, if_neg (by omega), if_neg (by omega)] at nx
    have hL := hW.ia (reachV (dW3 V) 0 99) k (by omega)
    have hb := bt_i (R := reachV (dW3 V) 0 99) (i := k) (by omega) (by omega)
    refine sg120_124 ⟨shM H, _, rM0 H, 184, shV H, vi (by decide) (by decide), fun h => absurd h ?_, fun _ => ⟨fun h => ⟨shM H, ?_⟩, fun h => ⟨shM H, ?_⟩⟩⟩
    · rw [mS_get (by decide), eI]
      exact nI_ge (by omega) (by omega)
    · have hb0 : bt (reachV (dW3 V) 0 99) k = false := by
        cases hq : bt (reachV (dW3 V) 0 99) k with
        | false => rfl
        | true => rw [hq] at hb; exact absurd hb h
      rw [hb0] at nx
      refine r_wai (r := false) H hL (by rw [eI]; omega) ?_
      rw [nI_add, nI_add]
      exact nx
    · have hb1 : bt (reachV (dW3 V) 0 99) k = true := by
        cases hq : bt (reachV (dW3 V) 0 99) k with
        | true => rfl
        | false => rw [hq] at hb; exact absurd (hb.symm.trans (Classical.not_not.mp h)) (by decide)
      rw [hb1] at nx
      refine r_wai (r := true) H hL (by rw [eI]; omega) ?_
      rw [nI_add, nI_add]
      exact nx
theorem r_day (H : MI σ) (hw : WF m V) (hm : m < 100000) (hK : ∀ f, K (nI (cDay V)) (mS (s5 σ f) (dDay V))) : cI E 120 [.ref 179] (mS σ V) K := by
  have h1 := hw.1
  unfold W1 at h1
  refine sg120_0 ?_
  rw [← s5_self (σ := σ)]
  refine r_ed1 H hw (fun f hf => ?_) (V 2) 0 _ (by omega) (fun j hj => absurd hj (Nat.not_lt_zero _))
  have H' : MI (s5 σ f) := H
  have e2 : dPA V (V 2) 2 = V 2 := dPA_o _ (by decide) (by decide) (by omega)
  refine r_ed2 H' hw ?_ (V 2) 0 (by omega)
  have hf' : ∀ j, j < dPA V (V 2) 2 → f j = bI (opn V j) := fun j hj => hf j (by omega)
  have h3 := r_ed3 (E := E) (Q := QI K) H hf' (hw.pa _ (Nat.le_refl _)) (by
    rw [e2]
    exact r_ed4 H' hw hm (hK f) (V 1 - 1) 1 (by omega) (by omega)) (V 2) 0 (by omega)
  exact h3
/-- many days -/
def dDays : Nat → (Nat → Nat) → (Nat → Nat)
  | 0, V => V
  | n + 1, V => dDays n (dDay V)
def cDays : Nat → (Nat → Nat) → Nat
  | 0, _ => 0
  | n + 1, V => cDay V + cDays n (dDay V)
theorem r_dysL (H : MI σ) {n : Nat} (hn : n < 2 ^ 31) : ∀ (d k c m : Nat) (V : Nat → Nat) (f : Nat → Int32), k + d = n → WF m V → m + d ≤ 100000 → (∀ f, Q (some (.int (nI (c + cDays d V)))) (mS (s5 σ f) (dDays d V))) →
    wp E 121 4 [.ref 179, .int (nI n), .int (nI c), .int (nI k)] [] (mS (s5 σ f) V) Q := by
  intro d
  induction d with
  | zero =>
    intro k c m V f hk hw hm hK
    exact sg121_4 ⟨fun _ => hK f, fun h => absurd (nI_le (by omega) (by omega)) h⟩
  | succ d ih =>
    intro k c m V f hk hw hm hK
    have H' : MI (s5 σ f) := H
    refine sg121_4 ⟨fun h => absurd h (nI_ge (by omega) (by omega)), fun _ => ⟨shM H, r_day H' hw (by omega) fun g => ?_⟩⟩
    rw [s5_s5, nI_add, nI_add]
    refine ih (k + 1) (c + cDay V) (m + 1) (dDay V) g (by omega) (hw.day (by omega)) (by omega) fun f' => ?_
    have := hK f'
    rw [cDays, ← Nat.add_assoc] at this
    exact this
theorem r_dys (H : MI σ) {n : Nat} (hw : WF m V) (hm : m + n ≤ 100000) (hK : ∀ f, K (nI (cDays n V)) (mS (s5 σ f) (dDays n V))) : cI E 121 [.ref 179, .int (nI n)] (mS σ V) K := by
  refine sg121_0 ?_
  rw [← s5_self (σ := σ)]
  refine r_dysL H (by omega) n 0 0 m V _ (by omega) hw hm fun f => ?_
  rw [Nat.zero_add]
  exact hK f
theorem WF.dysn : ∀ (n m : Nat) (V : Nat → Nat), WF m V → m + n ≤ 100000 → WF (m + n) (dDays n V)
  | 0, _, _, hw, _ => hw
  | n + 1, m, V, hw, hm => by
    rw [dDays, show m + (n + 1) = m + 1 + n by omega]
    exact WF.dysn n (m + 1) _ (hw.day (by omega)) (by omega)
end REF6
end
section
/-! the reference's errors -/
section REF7
variable {E : AEnv} {σ : ASt} {V : Nat → Nat} {m : Nat} {Q : Option Value → ASt → Prop} {K : Int32 → ASt → Prop} {KV : ASt → Prop}
theorem bI_2 {b : Bool} (h : ¬ bI b ≠ nI 0) : b = false := (bI_0 _).mp (Classical.not_not.mp h)
theorem bI_3 {b : Bool} (h : bI b = nI 0) : ¬ b = true := by rw [(bI_0 _).mp h]; decide
def toN (x : Int32) : Nat := x.toNatClampNeg
theorem toN_nI {j : Nat} (h : j < 2 ^ 31) : toN (nI j) = j := cl j h
theorem inRg_nn {x : Int32} {a b : Nat} (ha : a < 2 ^ 31) (hb : b < 2 ^ 31) : inRg x (nI a) (nI b) = true ↔ ∃ j, a ≤ j ∧ j ≤ b ∧ x = nI j := by
  unfold inRg
  simp only [Bool.and_eq_true, Bool.not_eq_true', decide_eq_false_iff_not]
  constructor
  · rintro ⟨h1, h2⟩
    have h3 : ¬ x < nI 0 := fun z => h1 (by
      rw [Int32.lt_iff_toInt_lt] at z ⊢
      rw [nI_toInt ha]
      rw [nI_toInt (by decide)] at z
      omega)
    obtain ⟨j, hj, rfl⟩ := nI_of h3
    rw [nI_ltI hj ha] at h1
    rw [nI_ltI hb hj] at h2
    exact ⟨j, by omega, by omega, rfl⟩
  · rintro ⟨j, h1, h2, rfl⟩
    rw [nI_ltI (by omega) ha, nI_ltI hb (by omega)]
    omega
def inIs (V : Nat → Nat) (x : Int32) : Bool := inRg x (nI 0) (nI (V 1) - nI 1)
def inBr (V : Nat → Nat) (x : Int32) : Bool := inRg x (nI 0) (nI (V 2) - nI 1)
theorem inIs_i (hw : WF m V) {x : Int32} : inIs V x = true ↔ ∃ j, j < V 1 ∧ x = nI j := inRg_iff (by have h1 := hw.1; unfold W1 at h1; omega)
theorem inBr_i (hw : WF m V) {x : Int32} : inBr V x = true ↔ ∃ j, j < V 2 ∧ x = nI j := inRg_iff (by have h1 := hw.1; unfold W1 at h1; omega)
theorem inIs_n (hw : WF m V) {x : Int32} (h : inIs V x = true) : toN x < V 1 ∧ x = nI (toN x) := by
  have h1 := hw.1
  unfold W1 at h1
  obtain ⟨j, hj, rfl⟩ := (inIs_i hw).mp h
  rw [toN_nI (by omega)]
  exact ⟨hj, rfl⟩
theorem inBr_n (hw : WF m V) {x : Int32} (h : inBr V x = true) : toN x < V 2 ∧ x = nI (toN x) := by
  have h1 := hw.1
  unfold W1 at h1
  obtain ⟨j, hj, rfl⟩ := (inBr_i hw).mp h
  rw [toN_nI (by omega)]
  exact ⟨hj, rfl⟩
theorem inRg_n {x : Int32} {a b : Nat} (ha : a < 2 ^ 31) (hb : b < 2 ^ 31) (h : inRg x (nI a) (nI b) = true) : a ≤ toN x ∧ toN x ≤ b ∧ x = nI (toN x) := by
  obtain ⟨j, h1, h2, rfl⟩ := (inRg_nn ha hb).mp h
  rw [toN_nI (by omega)]
  exact ⟨h1, h2, rfl⟩
def eIsl (V : Nat → Nat) (x : Int32) : Int32 := if inRg x (nI 0) (nI 99) = true then (if V 1 = 8 then (-1000003 : Int32) else nI 0) else (-1000001 : Int32)
def eBrg (V : Nat → Nat) (x y w : Int32) : Int32 := if inIs V x = true ∧ inIs V y = true ∧ x ≠ y ∧ inRg w (nI 1) (nI 9) = true then (if V 2 = 14 then (-1000003 : Int32) else nI 0) else (-1000001 : Int32)
def eSnd (V : Nat → Nat) (x f : Int32) : Int32 := if inBr V x = true ∧ inRg f (nI 0) (nI 1) = true then (if rsn V (toN x) = 0 ∨ (rsn V (toN x) = 4 ∧ f = nI 1) then nI 0 else (-1000002 : Int32)) else (-1000001 : Int32)
def eRec (V : Nat → Nat) (x : Int32) : Int32 := if inBr V x = true then (if pntd V (toN x) = true then nI 0 else (-1000002 : Int32)) else (-1000001 : Int32)
def ePay (V : Nat → Nat) (x : Int32) : Int32 := if inRg x (nI 1) (nI 999) = true then (if V 11 + toN x ≤ 999999 then nI 0 else (-1000003 : Int32)) else (-1000001 : Int32)
def eDys (V : Nat → Nat) (x : Int32) : Int32 := if inRg x (nI 1) (nI 99) = true then (if V 0 + toN x ≤ 9999 then nI 0 else (-1000003 : Int32)) else (-1000001 : Int32)
theorem r_eI (H : MI σ) (hw : WF m V) {x : Int32} (hK : K (eIsl V x) (mS σ V)) : cI E 122 [.ref 179, .int x] (mS σ V) K := by
  have h1 := hw.1
  unfold W1 at h1
  unfold eIsl at hK
  refine sg122_0 (r_in ⟨fun h => ⟨shM H, _, rM0 H, 184, shV H, vi (by decide) (by decide), fun h2 => ?_, fun h2 => ?_⟩, fun h => ?_⟩)
  · rw [mS_get (by decide)] at h2
    rw [if_pos (bI_1 h), if_neg (fun z => h2 (congrArg nI z))] at hK
    exact hK
  · rw [mS_get (by decide)] at h2
    rw [if_pos (bI_1 h), if_pos ((nI_eq (by omega) (by decide)).mp (Classical.not_not.mp h2))] at hK
    exact hK
  · rw [if_neg (by rw [bI_2 h]; decide)] at hK
    exact hK
theorem r_eB (H : MI σ) (hw : WF m V) {x y w : Int32} (hK : K (eBrg V x y w) (mS σ V)) : cI E 123 [.ref 179, .int x, .int y, .int w] (mS σ V) K := by
  have h1 := hw.1
  unfold W1 at h1
  unfold eBrg at hK
  refine sg123_0 ⟨shM H, r_isI H ⟨fun h => ⟨fun z => absurd rfl z, fun _ => ?_⟩, fun h => ⟨shM H, r_isI H ⟨fun h2 => ⟨fun z => absurd rfl z, fun _ => ?_⟩, fun h2 => ⟨fun h3 => ⟨fun z => absurd rfl z, fun _ => ?_⟩, fun h3 => r_in ⟨fun h4 => ⟨fun z => absurd rfl z, fun _ => ?_⟩, fun h4 => ⟨fun _ => ⟨shM H, _, rM0 H, 184, shV H, vi (by decide) (by decide), fun h5 => ?_, fun h5 => ?_⟩, fun z => absurd (by decide) z⟩⟩⟩⟩⟩⟩⟩
  · rw [if_neg (fun z => bI_3 h z.1)] at hK
    exact hK
  · rw [if_neg (fun z => bI_3 h2 z.2.1)] at hK
    exact hK
  · rw [if_neg (fun z => z.2.2.1 h3)] at hK
    exact hK
  · rw [if_neg (fun z => bI_3 h4 z.2.2.2)] at hK
    exact hK
  · rw [mS_get (by decide)] at h5
    rw [if_pos ⟨bI_1 h, bI_1 h2, h3, bI_1 h4⟩, if_neg (fun z => h5 (congrArg nI z))] at hK
    exact hK
  · rw [mS_get (by decide)] at h5
    rw [if_pos ⟨bI_1 h, bI_1 h2, h3, bI_1 h4⟩, if_pos ((nI_eq (by omega) (by decide)).mp (Classical.not_not.mp h5))] at hK
    exact hK
theorem r_eS (H : MI σ) (hw : WF m V) {x f : Int32} (hK : K (eSnd V x f) (mS σ V)) : cI E 124 [.ref 179, .int x, .int f] (mS σ V) K := by
  unfold eSnd at hK
  refine sg124_0 ⟨shM H, r_isB H ⟨fun h => ?_, fun h => r_in ⟨fun h2 => ⟨shM H, ?_⟩, fun h2 => ?_⟩⟩⟩
  · rw [if_neg (fun z => bI_3 h z.1)] at hK
    exact hK
  · rw [if_pos ⟨bI_1 h, bI_1 h2⟩] at hK
    obtain ⟨hx, ex⟩ := inBr_n hw (bI_1 h)
    have h5 := rsn_lt V (toN x)
    have r0 := nI_eq (a := rsn V (toN x)) (b := 0) (by omega) (by decide)
    have r4 := nI_eq (a := rsn V (toN x)) (b := 4) (by omega) (by decide)
    rw [ex]
    refine r_rsn H hw hx ⟨fun h3 => ?_, fun h3 => ⟨fun h4 => ?_, fun h4 => ⟨fun h6 => ?_, fun h6 => ?_⟩⟩⟩
    · rw [if_pos (Or.inl (r0.mp h3))] at hK
      exact hK
    · rw [if_neg (fun z => z.elim (fun y => h3 (r0.mpr y)) (fun y => h4 (r4.mpr y.1)))] at hK
      exact hK
    · rw [if_neg (fun z => z.elim (fun y => h3 (r0.mpr y)) (fun y => h6 y.2))] at hK
      exact hK
    · rw [if_pos (Or.inr ⟨r4.mp (Classical.not_not.mp h4), Classical.not_not.mp h6⟩)] at hK
      exact hK
  · rw [if_neg (fun z => by have := z.2; rw [bI_2 h2] at this; exact absurd this (by decide))] at hK
    exact hK
theorem r_eR (H : MI σ) (hw : WF m V) {x : Int32} (hK : K (eRec V x) (mS σ V)) : cI E 125 [.ref 179, .int x] (mS σ V) K := by
  have h1 := hw.1
  unfold W1 at h1
  unfold eRec at hK
  refine sg125_0 ⟨shM H, r_isB H ⟨fun h => ⟨shM H, ?_⟩, fun h => ?_⟩⟩
  · rw [if_pos (show inBr V x = true from bI_1 h)] at hK
    obtain ⟨hx, ex⟩ := inBr_n hw (bI_1 h)
    have hb := hw.b hx
    rw [ex]
    refine r_isP H (by omega) hb.2.2.1 ⟨fun h2 => ?_, fun h2 => ?_⟩
    · rw [if_neg (bI_3 h2)] at hK
      exact hK
    · rw [if_pos (bI_1 h2)] at hK
      exact hK
  · rw [if_neg (fun z => by have := z; rw [show inBr V x = false from bI_2 h] at this; exact absurd this (by decide))] at hK
    exact hK
theorem r_eP (H : MI σ) (hw : WF m V) {x : Int32} (hK : K (ePay V x) (mS σ V)) : cI E 126 [.ref 179, .int x] (mS σ V) K := by
  have h5 := hw.2.2.2.2
  unfold W5 at h5
  unfold ePay at hK
  refine sg126_0 (r_in ⟨fun h => ⟨shM H, _, rM0 H, 184, shV H, vi (by decide) (by decide), ?_⟩, fun h => ?_⟩)
  · rw [if_pos (bI_1 h)] at hK
    obtain ⟨ha, hb, ex⟩ := inRg_n (by decide) (by decide) (bI_1 h)
    rw [mS_get (by decide)]
    rw [ex, nI_add]
    have e := nI_leI (a := V 11 + toN x) (b := 999999) (by omega) (by decide)
    refine ⟨fun h2 => ?_, fun h2 => ?_⟩
    · rw [if_pos (e.mp h2)] at hK
      exact hK
    · rw [if_neg (fun z => h2 (e.mpr z))] at hK
      exact hK
  · rw [if_neg (by rw [bI_2 h]; decide)] at hK
    exact hK
theorem r_eD (H : MI σ) (hw : WF m V) {x : Int32} (hK : K (eDys V x) (mS σ V)) : cI E 127 [.ref 179, .int x] (mS σ V) K := by
  have h5 := hw.2.2.2.2
  unfold W5 at h5
  unfold eDys at hK
  refine sg127_0 (r_in ⟨fun h => ⟨shM H, _, rM0 H, 184, shV H, vi (by decide) (by decide), ?_⟩, fun h => ?_⟩)
  · rw [if_pos (bI_1 h)] at hK
    obtain ⟨ha, hb, ex⟩ := inRg_n (by decide) (by decide) (bI_1 h)
    rw [mS_get (by decide)]
    rw [ex, nI_add]
    have e := nI_leI (a := V 0 + toN x) (b := 9999) (by omega) (by decide)
    refine ⟨fun h2 => ?_, fun h2 => ?_⟩
    · rw [if_pos (e.mp h2)] at hK
      exact hK
    · rw [if_neg (fun z => h2 (e.mpr z))] at hK
      exact hK
  · rw [if_neg (by rw [bI_2 h]; decide)] at hK
    exact hK
end REF7
end
section
/-! the reference's questions -/
section REF8
variable {E : AEnv} {σ : ASt} {V : Nat → Nat} {m : Nat} {Q : Option Value → ASt → Prop} {K : Int32 → ASt → Prop} {KV : ASt → Prop}
theorem nI_or0 {a : Nat} (h : a < 2 ^ 31) : nI a ||| nI 0 = nI a := by rw [nI_or h (by decide), Nat.or_zero]
theorem bt_0 {R i : Nat} (hR : R < 2 ^ 31) (hi : i < 32) : (nI R >>> (nI i &&& 31)) &&& nI 1 = nI 0 ↔ bt R i = false := by rw [bt_i hR hi]; exact bI_0 _
theorem bt_1 {R i : Nat} (hR : R < 2 ^ 31) (hi : i < 32) : (nI R >>> (nI i &&& 31)) &&& nI 1 = nI 1 ↔ bt R i = true := by
  rw [bt_i hR hi]
  cases bt R i <;> simp [bI] <;> decide
theorem bt_tb {R i : Nat} : bt R i = R.testBit i := by
  unfold bt
  rw [Nat.testBit_eq_decide_div_mod_eq, Bool.eq_iff_iff, beq_iff', decide_eq_true_iff]
/-- ended at head: the islands or bridges are through -/
theorem end_i {c k : Nat} (h : k = V c) (hc : c < 184) : gI (mS σ V) 180 c = nI k := by rw [mS_get hc, h]
def oaN (V : Nat → Nat) (i : Nat) : Nat → Nat
  | 0 => 0
  | n + 1 => oaN V i n + (if opn V n = true ∧ (V (72 + 8 * n + 0) = i ∨ V (72 + 8 * n + 1) = i) then 1 else 0)
theorem r_oaL (H : MI σ) (hw : WF m V) {i : Nat} (hi : i < 8) (hK : Q (some (.int (nI (oaN V i (V 2))))) (mS σ V)) : ∀ d k : Nat, k + d = V 2 → wp E 138 4 [.ref 179, .int (nI i), .int (nI (oaN V i k)), .int (nI k)] [] (mS σ V) Q := by
  have h1 := hw.1
  unfold W1 at h1
  intro d
  induction d with
  | zero =>
    intro k hk
    obtain rfl : k = V 2 := by omega
    refine sg138_4 ⟨shM H, _, rM0 H, 184, shV H, vi (by decide) (by decide), fun _ => hK, fun h => absurd ?_ h⟩
    rw [mS_get (by decide)]
    exact nI_le (Nat.le_refl _) (by omega)
  | succ d ih =>
    intro k hk
    have hb := hw.b (b := k) (by omega)
    have nx := ih (k + 1) (by omega)
    rw [oaN] at nx
    have e0 := nI_eq (a := V (72 + 8 * k + 0)) (b := i) (by omega) (by omega)
    have e1 := nI_eq (a := V (72 + 8 * k + 1)) (b := i) (by omega) (by omega)
    refine sg138_4 ⟨shM H, _, rM0 H, 184, shV H, vi (by decide) (by decide), fun h => absurd h ?_, fun _ => ⟨shM H, r_isO H (by omega) hb.2.2.1 hb.2.2.2 ⟨fun h => ?_, fun h => ⟨shM H, r_of H (by omega) (by decide) ⟨fun h2 => ?_, fun h2 => ⟨shM H, r_of H (by omega) (by decide) ⟨fun h3 => ?_, fun h3 => ?_⟩⟩⟩⟩⟩⟩⟩
    · rw [mS_get (by decide)]
      exact nI_ge (by omega) (by omega)
    · rw [if_neg (fun z => bI_3 h z.1)] at nx
      rw [nI_add, nI_add]; exact nx
    · rw [if_pos ⟨bI_1 h, Or.inl (e0.mp h2)⟩] at nx
      rw [nI_add, nI_add]; exact nx
    · rw [if_neg (fun z => z.2.elim (fun y => h2 (e0.mpr y)) (fun y => h3 (e1.mpr y)))] at nx
      rw [nI_add, nI_add]; exact nx
    · rw [if_pos ⟨bI_1 h, Or.inr (e1.mp (Classical.not_not.mp h3))⟩] at nx
      rw [nI_add, nI_add]; exact nx
theorem r_oa (H : MI σ) (hw : WF m V) {i : Nat} (hi : i < 8) (hK : K (nI (oaN V i (V 2))) (mS σ V)) : cI E 138 [.ref 179, .int (nI i)] (mS σ V) K := sg138_0 (r_oaL H hw hi hK (V 2) 0 (by omega))
/-- the fewest bridges, within d more rounds -/
def fwD (V : Nat → Nat) (i : Nat) : Nat → Nat → Nat → Int32
  | 0, S, k => if bt S i = true then nI k else (-1000004 : Int32)
  | d + 1, S, k => if bt S i = true then nI k else fwD V i d (jac V 99 S (V 2)) (k + 1)
theorem r_fwJ (H : MI σ) (hw : WF m V) {i S k3 : Nat} (hS : S < 2 ^ 8) (hK : wp E 139 4 [.ref 179, .int (nI i), .int (nI (jac V 99 S (V 2))), .int (nI k3 + nI 1)] [] (mS σ V) Q) :
    ∀ d k : Nat, k + d = V 2 → wp E 139 24 [.ref 179, .int (nI i), .int (nI S), .int (nI k3), .int (nI (jac V 99 S k)), .int (nI k)] [] (mS σ V) Q := by
  have h1 := hw.1
  unfold W1 at h1
  intro d
  induction d with
  | zero =>
    intro k hk
    obtain rfl : k = V 2 := by omega
    refine sg139_24 ⟨shM H, _, rM0 H, 184, shV H, vi (by decide) (by decide), fun _ => hK, fun h => absurd ?_ h⟩
    rw [mS_get (by decide)]
    exact nI_le (Nat.le_refl _) (by omega)
  | succ d ih =>
    intro k hk
    have hb := hw.b (b := k) (by omega)
    have nx := ih (k + 1) (by omega)
    have hj := jac_lt hw.ends (wo := 99) hS k (by omega)
    have he := ends_lt hw.ends (b := k) (by omega)
    refine sg139_24 ⟨shM H, _, rM0 H, 184, shV H, vi (by decide) (by decide), fun h => absurd h ?_, fun _ => ⟨shM H, r_of H (by omega) (by decide) ⟨shM H, r_of H (by omega) (by decide) ⟨shM H, r_isO H (by omega) hb.2.2.1 hb.2.2.2 ⟨fun h => ?_, fun h => ?_⟩⟩⟩⟩⟩
    · rw [mS_get (by decide)]
      exact nI_ge (by omega) (by omega)
    · have e : jac V 99 S (k + 1) = jac V 99 S k := by
        rw [jac, if_neg]
        unfold useB
        rw [(bI_0 _).mp h]
        simp
      rw [e] at nx
      rw [nI_or0 (by omega), nI_add]; exact nx
    · rw [ends_nI hw (by omega), nI_and (by omega) (by omega)]
      have e1 : useB V 99 k = true := by
        unfold useB
        rw [bI_1 h]
        have : Nat.beq k 99 = false := by
          cases hq : Nat.beq k 99 with
          | false => rfl
          | true => exact absurd (beq_iff'.mp hq) (by omega)
        rw [this]; rfl
      refine ⟨fun h3 => ?_, fun h3 => ?_⟩
      · have h4 : S &&& endsM V k = 0 := (nI_eq (Nat.lt_of_le_of_lt Nat.and_le_left (by omega)) (by decide)).mp h3
        have e : jac V 99 S (k + 1) = jac V 99 S k := by
          rw [jac, if_neg]
          unfold hit
          rw [h4]
          simp
        rw [e] at nx
        rw [nI_or0 (by omega), nI_add]; exact nx
      · have h4 : S &&& endsM V k ≠ 0 := fun z => h3 (congrArg nI z)
        have e : jac V 99 S (k + 1) = jac V 99 S k ||| endsM V k := by
          rw [jac, if_pos]
          have e3 : Nat.beq (S &&& endsM V k) 0 = false := by
            cases hq : Nat.beq (S &&& endsM V k) 0 with
            | false => rfl
            | true => exact absurd (beq_iff'.mp hq) h4
          unfold hit
          rw [e1, e3]; rfl
        rw [e] at nx
        rw [nI_or (by omega) (by omega), nI_add]; exact nx
theorem r_fwL (H : MI σ) (hw : WF m V) {i : Nat} (hi : i < 8) : ∀ d k S : Nat, k + d = 8 → S < 2 ^ 8 → Q (some (.int (fwD V i d S k))) (mS σ V) → wp E 139 4 [.ref 179, .int (nI i), .int (nI S), .int (nI k)] [] (mS σ V) Q := by
  intro d
  induction d with
  | zero =>
    intro k S hk hS hK
    have b0 := bt_0 (R := S) (i := i) (by omega) (by omega)
    have b1 := bt_1 (R := S) (i := i) (by omega) (by omega)
    rw [fwD] at hK
    refine sg139_4 ⟨fun h => ⟨fun h2 => ?_, fun h2 => ?_⟩, fun h => ⟨fun _ => ⟨fun h2 => ?_, fun h2 => ?_⟩, fun h2 => absurd (nI_le (by omega) (by omega)) h2⟩⟩
    · rw [if_neg (fun z => h2 (b1.mpr z))] at hK
      exact hK
    · rw [if_pos (b1.mp (Classical.not_not.mp h2))] at hK
      exact hK
    · rw [if_neg (fun z => h2 (b1.mpr z))] at hK
      exact hK
    · rw [if_pos (b1.mp (Classical.not_not.mp h2))] at hK
      exact hK
  | succ d ih =>
    intro k S hk hS hK
    have b0 := bt_0 (R := S) (i := i) (by omega) (by omega)
    have b1 := bt_1 (R := S) (i := i) (by omega) (by omega)
    rw [fwD] at hK
    refine sg139_4 ⟨fun h => ⟨fun h2 => ?_, fun h2 => ?_⟩, fun h => ⟨fun h2 => absurd h2 (nI_ge (by omega) (by omega)), fun _ => r_fwJ H hw hS ?_ (V 2) 0 (by omega)⟩⟩
    · cases hq : bt S i with
      | true => exact absurd (b1.mpr hq) h2
      | false => exact absurd (b0.mpr hq) h
    · rw [if_pos (b1.mp (Classical.not_not.mp h2))] at hK
      exact hK
    · rw [if_neg (by rw [b0.mp (Classical.not_not.mp h)]; decide)] at hK
      rw [nI_add]
      exact ih (k + 1) _ (by omega) (jac_lt hw.ends hS _ (Nat.le_refl _)) hK
theorem r_fw (H : MI σ) (hw : WF m V) {i : Nat} (hi : i < 8) (hK : K (fwD V i 8 1 0) (mS σ V)) : cI E 139 [.ref 179, .int (nI i)] (mS σ V) K := sg139_0 (r_fwL H hw hi 8 0 1 (by omega) (by decide) hK)
end REF8
end
section
/-! the reference's questions, 2 -/
section REF9
variable {E : AEnv} {σ : ASt} {V : Nat → Nat} {m : Nat} {Q : Option Value → ASt → Prop} {K : Int32 → ASt → Prop} {KV : ASt → Prop}
def qBrg (V : Nat → Nat) (x w : Int32) : Int32 :=
  if inBr V x = true then
    if w = nI 0 then nI (V (72 + 8 * toN x + 0))
    else if w = nI 1 then nI (V (72 + 8 * toN x + 1))
    else if w = nI 2 then nI (V (72 + 8 * toN x + 2))
    else if w = nI 3 then nI (V (72 + 8 * toN x + 3))
    else if w = nI 4 then nI (stOf V (toN x))
    else if w = nI 5 then nI (V (72 + 8 * toN x + 5))
    else if w = nI 6 then nI (V (72 + 8 * toN x + 6))
    else if w = nI 7 then nI (V (72 + 8 * toN x + 7))
    else if w = nI 8 then (if opn V (toN x) = true ∧ cutV V (toN x) ≠ 0 then nI 1 else nI 0)
    else (-1000001 : Int32)
  else (-1000001 : Int32)
theorem r_qBrg (H : MI σ) (hw : WF m V) {x w : Int32} (hK : K (qBrg V x w) (mS σ V)) : cI E 137 [.ref 179, .int x, .int w] (mS σ V) K := by
  have h1 := hw.1
  unfold W1 at h1
  unfold qBrg at hK
  refine sg137_0 ⟨shM H, r_isB H ⟨fun h => ?_, fun h => ?_⟩⟩
  · rw [if_pos (show inBr V x = true from bI_1 h)] at hK
    obtain ⟨hx, ex⟩ := inBr_n hw (bI_1 h)
    have hb := hw.b hx
    have hc := cutV_lt hw (toN x)
    have hc0 := nI_eq (a := cutV V (toN x)) (b := 0) (by omega) (by decide)
    rw [ex]
    refine ⟨fun g => ?_, fun g0 => ⟨fun g => ?_, fun g1 => ⟨fun g => ?_, fun g2 => ⟨fun g => ?_, fun g3 => ⟨fun g => ?_, fun g4 => ⟨fun g => ?_, fun g5 => ⟨fun g => ?_, fun g6 => ⟨fun g => ?_, fun g7 => ⟨fun g => ?_, fun g8 => ?_⟩⟩⟩⟩⟩⟩⟩⟩⟩
    · rw [if_pos g] at hK
      rw [g]; exact ⟨shM H, r_of H (by omega) (by decide) hK⟩
    · rw [if_neg g0, if_pos g] at hK
      rw [g]; exact ⟨shM H, r_of H (by omega) (by decide) hK⟩
    · rw [if_neg g0, if_neg g1, if_pos g] at hK
      rw [g]; exact ⟨shM H, r_of H (by omega) (by decide) hK⟩
    · rw [if_neg g0, if_neg g1, if_neg g2, if_pos g] at hK
      rw [g]; exact ⟨shM H, r_of H (by omega) (by decide) hK⟩
    · rw [if_neg g0, if_neg g1, if_neg g2, if_neg g3, if_pos g] at hK
      exact ⟨shM H, r_stO H (by omega) hb.2.2.1 hb.2.2.2 hK⟩
    · rw [if_neg g0, if_neg g1, if_neg g2, if_neg g3, if_neg g4, if_pos g] at hK
      rw [g]; exact ⟨shM H, r_of H (by omega) (by decide) hK⟩
    · rw [if_neg g0, if_neg g1, if_neg g2, if_neg g3, if_neg g4, if_neg g5, if_pos g] at hK
      rw [g]; exact ⟨shM H, r_of H (by omega) (by decide) hK⟩
    · rw [if_neg g0, if_neg g1, if_neg g2, if_neg g3, if_neg g4, if_neg g5, if_neg g6, if_pos g] at hK
      rw [g]; exact ⟨shM H, r_of H (by omega) (by decide) hK⟩
    · rw [if_neg g0, if_neg g1, if_neg g2, if_neg g3, if_neg g4, if_neg g5, if_neg g6, if_neg g7, if_pos g] at hK
      refine ⟨shM H, r_isO H (by omega) hb.2.2.1 hb.2.2.2 ⟨fun h2 => ?_, fun h2 => ⟨shM H, r_cut H hw (by omega) ⟨fun h3 => ?_, fun h3 => ?_⟩⟩⟩⟩
      · rw [if_neg (fun z => bI_3 h2 z.1)] at hK
        exact hK
      · rw [if_neg (fun z => z.2 (hc0.mp h3))] at hK
        exact hK
      · rw [if_pos ⟨bI_1 h2, fun z => h3 (hc0.mpr z)⟩] at hK
        exact hK
    · rw [if_neg g0, if_neg g1, if_neg g2, if_neg g3, if_neg g4, if_neg g5, if_neg g6, if_neg g7, if_neg g8] at hK
      exact hK
  · rw [if_neg (show ¬ inBr V x = true from by rw [show inBr V x = false from bI_2 h]; decide)] at hK
    exact hK
def qIsl (V : Nat → Nat) (x w : Int32) : Int32 :=
  if inIs V x = true then
    if w = nI 0 then bI (bt (reachV V 0 99) (toN x))
    else if w = nI 1 then nI (V (32 + 5 * toN x + 1))
    else if w = nI 2 then nI (V (32 + 5 * toN x + 0))
    else if w = nI 3 then nI (V (32 + 5 * toN x + 2))
    else if w = nI 4 then nI (V (32 + 5 * toN x + 3))
    else if w = nI 5 then nI (V (32 + 5 * toN x + 4))
    else if w = nI 6 then nI (oaN V (toN x) (V 2))
    else if w = nI 7 then fwD V (toN x) 8 1 0
    else (-1000001 : Int32)
  else (-1000001 : Int32)
theorem r_qIsl (H : MI σ) (hw : WF m V) {x w : Int32} (hK : K (qIsl V x w) (mS σ V)) : cI E 140 [.ref 179, .int x, .int w] (mS σ V) K := by
  have h1 := hw.1
  unfold W1 at h1
  unfold qIsl at hK
  refine sg140_0 ⟨shM H, r_isI H ⟨fun h => ?_, fun h => ?_⟩⟩
  · rw [if_pos (show inIs V x = true from bI_1 h)] at hK
    obtain ⟨hx, ex⟩ := inIs_n hw (bI_1 h)
    have hR := reach_lt hw.ends (i := 0) (wo := 99) (by decide)
    rw [ex]
    refine ⟨fun g => ?_, fun g0 => ⟨fun g => ?_, fun g1 => ⟨fun g => ?_, fun g2 => ⟨fun g => ?_, fun g3 => ⟨fun g => ?_, fun g4 => ⟨fun g => ?_, fun g5 => ⟨fun g => ?_, fun g6 => ⟨fun g => ?_, fun g7 => ?_⟩⟩⟩⟩⟩⟩⟩⟩
    · rw [if_pos g] at hK
      refine ⟨shM H, r_reach H hw (by decide) woI_n ?_⟩
      rw [bt_i (by omega) (by omega)]
      exact hK
    · rw [if_neg g0, if_pos g] at hK
      exact ⟨shM H, r_ofI H (by omega) (by decide) hK⟩
    · rw [if_neg g0, if_neg g1, if_pos g] at hK
      exact ⟨shM H, r_ofI H (by omega) (by decide) hK⟩
    · rw [if_neg g0, if_neg g1, if_neg g2, if_pos g] at hK
      exact ⟨shM H, r_ofI H (by omega) (by decide) hK⟩
    · rw [if_neg g0, if_neg g1, if_neg g2, if_neg g3, if_pos g] at hK
      exact ⟨shM H, r_ofI H (by omega) (by decide) hK⟩
    · rw [if_neg g0, if_neg g1, if_neg g2, if_neg g3, if_neg g4, if_pos g] at hK
      exact ⟨shM H, r_ofI H (by omega) (by decide) hK⟩
    · rw [if_neg g0, if_neg g1, if_neg g2, if_neg g3, if_neg g4, if_neg g5, if_pos g] at hK
      exact ⟨shM H, r_oa H hw (by omega) hK⟩
    · rw [if_neg g0, if_neg g1, if_neg g2, if_neg g3, if_neg g4, if_neg g5, if_neg g6, if_pos g] at hK
      exact ⟨shM H, r_fw H hw (by omega) hK⟩
    · rw [if_neg g0, if_neg g1, if_neg g2, if_neg g3, if_neg g4, if_neg g5, if_neg g6, if_neg g7] at hK
      exact hK
  · rw [if_neg (show ¬ inIs V x = true from by rw [show inIs V x = false from bI_2 h]; decide)] at hK
    exact hK
def qRea (V : Nat → Nat) (x : Int32) : Int32 := if inIs V x = true then nI (reachV V (toN x) 99) else (-1000001 : Int32)
theorem r_qRea (H : MI σ) (hw : WF m V) {x : Int32} (hK : K (qRea V x) (mS σ V)) : cI E 141 [.ref 179, .int x] (mS σ V) K := by
  have h1 := hw.1
  unfold W1 at h1
  unfold qRea at hK
  refine sg141_0 ⟨shM H, r_isI H ⟨fun h => ?_, fun h => ?_⟩⟩
  · rw [if_neg (show ¬ inIs V x = true from bI_3 h)] at hK
    exact hK
  · rw [if_pos (show inIs V x = true from bI_1 h)] at hK
    obtain ⟨hx, ex⟩ := inIs_n hw (bI_1 h)
    rw [ex]
    exact ⟨shM H, r_reach H hw (by omega) woI_n hK⟩
def qBok (V : Nat → Nat) (a w : Int32) : Int32 :=
  if a < nI 0 then (-1000001 : Int32) else if inRg w (nI 0) (nI 1) = true then (if V 15 ≤ toN a then (-1000004 : Int32) else nI (V (16 + 2 * toN a + toN w))) else (-1000001 : Int32)
theorem r_qBok (H : MI σ) (hw : WF m V) {a w : Int32} (hK : K (qBok V a w) (mS σ V)) : cI E 142 [.ref 179, .int a, .int w] (mS σ V) K := by
  have h1 := hw.1
  unfold W1 at h1
  unfold qBok at hK
  refine sg142_0 ⟨fun h => ?_, fun h => r_in ⟨fun h2 => ⟨shM H, _, rM0 H, 184, shV H, vi (by decide) (by decide), ?_⟩, fun h2 => ?_⟩⟩
  · rw [if_pos h] at hK
    exact hK
  · rw [if_neg h, if_pos (bI_1 h2)] at hK
    obtain ⟨_, hb, ew⟩ := inRg_n (by decide) (by decide) (bI_1 h2)
    obtain ⟨j, hj, rfl⟩ := nI_of h
    rw [toN_nI hj] at hK
    have e := nI_leI (a := V 15) (b := j) (by omega) hj
    rw [mS_get (by decide)]
    refine ⟨fun h3 => ?_, fun h3 => ⟨shM H, _, rM0 H, 184, shV H, ?_⟩⟩
    · rw [if_pos (e.mp h3)] at hK
      exact hK
    · have h4 : ¬ V 15 ≤ j := fun z => h3 (e.mpr z)
      rw [if_neg h4] at hK
      rw [ew, pk_mul, nI_add, nI_add, cl _ (by omega), mS_get (by omega)]
      exact ⟨vi (by omega) (by omega), hK⟩
  · rw [if_neg h, if_neg (by rw [bI_2 h2]; decide)] at hK
    exact hK
/-- the lowest member of a set of islands -/
def lowF (S : Nat) : Nat → Nat → Nat
  | 0, k => k
  | d + 1, k => if bt S k = true then k else lowF S d (k + 1)
def low (S : Nat) : Nat := lowF S 8 0
theorem r_lowL (H : MI σ) {S i : Nat} (hS : S < 2 ^ 8) (hi : i < 8) (hb : bt S i = true) : ∀ d k : Nat, k + d = 8 → k ≤ i → Q (some (.int (nI (lowF S d k)))) (mS σ V) → wp E 143 2 [.ref 179, .int (nI S), .int (nI k)] [] (mS σ V) Q := by
  intro d
  induction d with
  | zero => intro k hk hki; omega
  | succ d ih =>
    intro k hk hki hK
    have b0 := bt_0 (R := S) (i := k) (by omega) (by omega)
    rw [lowF] at hK
    refine sg143_2 ⟨fun h => ?_, fun h => ?_⟩
    · rw [if_pos (by cases hq : bt S k with
        | true => rfl
        | false => exact absurd (b0.mpr hq) h)] at hK
      exact hK
    · have hf := b0.mp (Classical.not_not.mp h)
      rw [if_neg (by rw [hf]; decide)] at hK
      rw [nI_add]
      have : k ≠ i := fun z => by rw [z, hb] at hf; exact absurd hf (by decide)
      exact ih (k + 1) (by omega) (by omega) hK
theorem r_low (H : MI σ) {S i : Nat} (hS : S < 2 ^ 8) (hi : i < 8) (hb : bt S i = true) (hK : K (nI (low S)) (mS σ V)) : cI E 143 [.ref 179, .int (nI S)] (mS σ V) K := sg143_0 (r_lowL H hS hi hb 8 0 (by omega) (by omega) hK)
theorem some_bit {S : Nat} (hS : S < 2 ^ 8) (h : S ≠ 0) : ∃ i, i < 8 ∧ bt S i = true := by
  obtain ⟨i, h1, h2⟩ := strict_bit (S := 0) (T := S) (fun i h => by simp at h) h
  exact ⟨i, lt_bit hS h2, by rw [bt_tb]; exact h2⟩
def qWhy (V : Nat → Nat) (x w : Int32) : Int32 :=
  if inBr V x = true ∧ inRg w (nI 0) (nI 1) = true then
    if w = nI 0 then nI (rsn V (toN x)) else if rsn V (toN x) = 4 then nI (low (cutV V (toN x))) else (-1000004 : Int32)
  else (-1000001 : Int32)
theorem rsn_4 {b : Nat} (h : rsn V b = 4) : cutV V b ≠ 0 := by
  unfold rsn at h
  intro z
  rw [if_pos z] at h
  repeat' split at h
  all_goals omega
theorem r_qWhy (H : MI σ) (hw : WF m V) {x w : Int32} (hK : K (qWhy V x w) (mS σ V)) : cI E 144 [.ref 179, .int x, .int w] (mS σ V) K := by
  have h1 := hw.1
  unfold W1 at h1
  unfold qWhy at hK
  refine sg144_0 ⟨shM H, r_isB H ⟨fun h => ?_, fun h => r_in ⟨fun h2 => ⟨shM H, ?_⟩, fun h2 => ?_⟩⟩⟩
  · rw [if_neg (fun z => bI_3 h z.1)] at hK
    exact hK
  · rw [if_pos ⟨bI_1 h, bI_1 h2⟩] at hK
    obtain ⟨hx, ex⟩ := inBr_n hw (bI_1 h)
    have h5 := rsn_lt V (toN x)
    have r4 := nI_eq (a := rsn V (toN x)) (b := 4) (by omega) (by decide)
    rw [ex]
    refine r_rsn H hw hx ⟨fun h3 => ⟨fun h4 => ?_, fun h4 => ?_⟩, fun h3 => ?_⟩
    · rw [if_neg h3, if_neg (fun z => h4 (r4.mpr z))] at hK
      exact hK
    · have e4 := r4.mp (Classical.not_not.mp h4)
      rw [if_neg h3, if_pos e4] at hK
      obtain ⟨i, hi, hb⟩ := some_bit (cutV_lt hw (toN x)) (rsn_4 e4)
      exact ⟨shM H, r_cut H hw (by omega) ⟨shM H, r_low H (cutV_lt hw _) hi hb hK⟩⟩
    · rw [if_pos (Classical.not_not.mp h3)] at hK
      exact hK
  · rw [if_neg (fun z => by have := z.2; rw [bI_2 h2] at this; exact absurd this (by decide))] at hK
    exact hK
theorem r_best (H : MI σ) (hw : WF m V) (hK : K (bsI (bsV V)) (mS σ V)) : cI E 145 [.ref 179] (mS σ V) K := sg145_0 ⟨shM H, r_bs H hw hK⟩
def qRus (V : Nat → Nat) (x : Int32) : Int32 :=
  if inBr V x = true then (if pntd V (toN x) = true then (-1000002 : Int32) else nI ((V (72 + 8 * toN x + 3) + V (72 + 8 * toN x + 2) - 1) / V (72 + 8 * toN x + 2))) else (-1000001 : Int32)
theorem r_qRus (H : MI σ) (hw : WF m V) {x : Int32} (hK : K (qRus V x) (mS σ V)) : cI E 146 [.ref 179, .int x] (mS σ V) K := by
  have h1 := hw.1
  unfold W1 at h1
  unfold qRus at hK
  refine sg146_0 ⟨shM H, r_isB H ⟨fun h => ⟨shM H, ?_⟩, fun h => ?_⟩⟩
  · rw [if_pos (show inBr V x = true from bI_1 h)] at hK
    obtain ⟨hx, ex⟩ := inBr_n hw (bI_1 h)
    have hb := hw.b hx
    have h3 := hw.2.2.1 _ hx
    rw [ex]
    refine r_isP H (by omega) hb.2.2.1 ⟨fun h2 => ⟨shM H, r_of H (by omega) (by decide) ⟨shM H, r_of H (by omega) (by decide) ⟨shM H, r_of H (by omega) (by decide) ?_⟩⟩⟩, fun h2 => ?_⟩
    · rw [if_neg (bI_3 h2)] at hK
      refine ⟨fun z => ?_, ?_⟩
      · have := (nI_eq (a := V (72 + 8 * toN x + 2)) (b := 0) (by omega) (by decide)).mp z
        omega
      · rw [nI_add, pk_sub (by omega), pk_div (by omega) (by omega) (by omega)]
        exact hK
    · rw [if_pos (bI_1 h2)] at hK
      exact hK
  · rw [if_neg (show ¬ inBr V x = true from by rw [show inBr V x = false from bI_2 h]; decide)] at hK
    exact hK
end REF9
end
section
/-! the reference's questions, 3 -/
section REF10
variable {E : AEnv} {σ : ASt} {V : Nat → Nat} {m : Nat} {Q : Option Value → ASt → Prop} {K : Int32 → ASt → Prop} {KV : ASt → Prop}
/-- the set of the bridges b for which p b -/
def setN (p : Nat → Bool) : Nat → Nat
  | 0 => 0
  | n + 1 => if p n = true then setN p n ||| 2 ^ n else setN p n
theorem setN_lt (p : Nat → Bool) : ∀ n, setN p n < 2 ^ n
  | 0 => Nat.one_pos
  | n + 1 => by
    have ih := setN_lt p n
    have hp : 2 ^ n < 2 ^ (n + 1) := Nat.pow_lt_pow_right (by decide) (by omega)
    rw [setN]
    split
    · exact Nat.or_lt_two_pow (by omega) hp
    · omega
theorem setN_lt' (p : Nat → Bool) {n : Nat} (h : n ≤ 14) : setN p n < 2 ^ 14 := Nat.lt_of_lt_of_le (setN_lt p n) (Nat.pow_le_pow_right (by decide) h)
theorem setN_b (p : Nat → Bool) {i : Nat} : ∀ n, (setN p n).testBit i = (decide (i < n) && p i)
  | 0 => by rw [setN]; simp
  | n + 1 => by
    have ih := setN_b p (i := i) n
    have e : (decide (i < n + 1)) = (decide (i < n) || decide (i = n)) := by
      rw [Bool.eq_iff_iff, Bool.or_eq_true, decide_eq_true_iff, decide_eq_true_iff, decide_eq_true_iff]; omega
    rw [setN, e]
    split
    · rename_i h
      rw [Nat.testBit_or, ih, Nat.testBit_two_pow]
      by_cases hi : i = n
      · subst hi; simp [h]
      · simp [hi, Ne.symm hi]
    · rename_i h
      rw [ih]
      by_cases hi : i = n
      · subst hi; simp [Bool.not_eq_true _ ▸ h]
      · simp [hi]
def isSt (V : Nat → Nat) (c b : Nat) : Bool := Nat.beq (stOf V b) c
theorem stOf_lt (V : Nat → Nat) (b : Nat) : stOf V b < 3 := by unfold stOf; repeat' split
                                                               all_goals omega
theorem r_stL (H : MI σ) (hw : WF m V) {c : Nat} (hc : c < 3) (hK : Q (some (.int (nI (setN (isSt V c) (V 2))))) (mS σ V)) : ∀ d k : Nat, k + d = V 2 → wp E 151 4 [.ref 179, .int (nI c), .int (nI (setN (isSt V c) k)), .int (nI k)] [] (mS σ V) Q := by
  have h1 := hw.1
  unfold W1 at h1
  intro d
  induction d with
  | zero =>
    intro k hk
    obtain rfl : k = V 2 := by omega
    refine sg151_4 ⟨shM H, _, rM0 H, 184, shV H, vi (by decide) (by decide), fun _ => hK, fun h => absurd ?_ h⟩
    rw [mS_get (by decide)]
    exact nI_le (Nat.le_refl _) (by omega)
  | succ d ih =>
    intro k hk
    have hb := hw.b (b := k) (by omega)
    have nx := ih (k + 1) (by omega)
    have hs := setN_lt' (isSt V c) (n := k) (by omega)
    have h3 := stOf_lt V k
    have hp : 2 ^ k < 2 ^ 14 := Nat.pow_lt_pow_right (by decide) (by omega)
    have e := nI_eq (a := stOf V k) (b := c) (by omega) (by omega)
    rw [setN] at nx
    refine sg151_4 ⟨shM H, _, rM0 H, 184, shV H, vi (by decide) (by decide), fun h => absurd h ?_, fun _ => ⟨shM H, r_stO H (by omega) hb.2.2.1 hb.2.2.2 ⟨fun h => ?_, fun h => ?_⟩⟩⟩
    · rw [mS_get (by decide)]
      exact nI_ge (by omega) (by omega)
    · rw [if_neg (show ¬ isSt V c k = true from fun z => h (e.mpr (beq_iff'.mp z)))] at nx
      rw [nI_or0 (by omega), nI_add]; exact nx
    · rw [if_pos (show isSt V c k = true from beq_iff'.mpr (e.mp (Classical.not_not.mp h)))] at nx
      rw [nI_shl (by omega), nI_or (by omega) (by omega), nI_add]; exact nx
theorem r_st (H : MI σ) (hw : WF m V) {c : Nat} (hc : c < 3) (hK : K (nI (setN (isSt V c) (V 2))) (mS σ V)) : cI E 151 [.ref 179, .int (nI c)] (mS σ V) K := sg151_0 (r_stL H hw hc hK (V 2) 0 (by omega))
def isNd (V : Nat → Nat) (b : Nat) : Bool := opn V b && !(Nat.beq (cutV V b) 0)
theorem r_ndL (H : MI σ) (hw : WF m V) (hK : Q (some (.int (nI (setN (isNd V) (V 2))))) (mS σ V)) : ∀ d k : Nat, k + d = V 2 → wp E 152 4 [.ref 179, .int (nI (setN (isNd V) k)), .int (nI k)] [] (mS σ V) Q := by
  have h1 := hw.1
  unfold W1 at h1
  intro d
  induction d with
  | zero =>
    intro k hk
    obtain rfl : k = V 2 := by omega
    refine sg152_4 ⟨shM H, _, rM0 H, 184, shV H, vi (by decide) (by decide), fun _ => hK, fun h => absurd ?_ h⟩
    rw [mS_get (by decide)]
    exact nI_le (Nat.le_refl _) (by omega)
  | succ d ih =>
    intro k hk
    have hb := hw.b (b := k) (by omega)
    have nx := ih (k + 1) (by omega)
    have hs := setN_lt' (isNd V) (n := k) (by omega)
    have hp : 2 ^ k < 2 ^ 14 := Nat.pow_lt_pow_right (by decide) (by omega)
    have hc := cutV_lt hw k
    have e := nI_eq (a := cutV V k) (b := 0) (by omega) (by decide)
    rw [setN] at nx
    refine sg152_4 ⟨shM H, _, rM0 H, 184, shV H, vi (by decide) (by decide), fun h => absurd h ?_, fun _ => ⟨shM H, r_isO H (by omega) hb.2.2.1 hb.2.2.2 ⟨fun h => ?_, fun h => ⟨shM H, r_cut H hw (by omega) ⟨fun h2 => ?_, fun h2 => ?_⟩⟩⟩⟩⟩
    · rw [mS_get (by decide)]
      exact nI_ge (by omega) (by omega)
    · rw [if_neg (by unfold isNd; rw [(bI_0 _).mp h]; exact ff)] at nx
      rw [nI_or0 (by omega), nI_add]; exact nx
    · rw [if_neg (by unfold isNd; rw [e.mp h2]; cases opn V k <;> exact ff)] at nx
      rw [nI_or0 (by omega), nI_add]; exact nx
    · rw [if_pos (by
        unfold isNd
        rw [bI_1 h]
        cases hq : Nat.beq (cutV V k) 0 with
        | false => rfl
        | true => exact absurd (e.mpr (beq_iff'.mp hq)) h2)] at nx
      rw [nI_shl (by omega), nI_or (by omega) (by omega), nI_add]; exact nx
theorem r_nd (H : MI σ) (hw : WF m V) (hK : K (nI (setN (isNd V) (V 2))) (mS σ V)) : cI E 152 [.ref 179] (mS σ V) K := sg152_0 (r_ndL H hw hK (V 2) 0 (by omega))
def grN (V : Nat → Nat) : Nat → Nat
  | 0 => 0
  | n + 1 => grN V n + (if low (reachV V n 99) = n then 1 else 0)
theorem lowF_le (S : Nat) : ∀ d k, lowF S d k ≤ k + d
  | 0, k => Nat.le_refl _
  | d + 1, k => by
    rw [lowF]
    have := lowF_le S d (k + 1)
    split <;> omega
theorem low_le (S : Nat) : low S ≤ 8 := lowF_le S 8 0
theorem reach_i (V : Nat → Nat) (i wo : Nat) : bt (reachV V i wo) i = true := by
  rw [bt_tb]
  exact reach_ge V i wo i (by rw [Nat.testBit_two_pow]; simp)
theorem r_grL (H : MI σ) (hw : WF m V) (hK : Q (some (.int (nI (grN V (V 1))))) (mS σ V)) : ∀ d k : Nat, k + d = V 1 → wp E 153 4 [.ref 179, .int (nI (grN V k)), .int (nI k)] [] (mS σ V) Q := by
  have h1 := hw.1
  unfold W1 at h1
  intro d
  induction d with
  | zero =>
    intro k hk
    obtain rfl : k = V 1 := by omega
    refine sg153_4 ⟨shM H, _, rM0 H, 184, shV H, vi (by decide) (by decide), fun _ => hK, fun h => absurd ?_ h⟩
    rw [mS_get (by decide)]
    exact nI_le (Nat.le_refl _) (by omega)
  | succ d ih =>
    intro k hk
    have nx := ih (k + 1) (by omega)
    have hR := reach_lt hw.ends (i := k) (wo := 99) (by omega)
    have hl := low_le (reachV V k 99)
    have e := nI_eq (a := low (reachV V k 99)) (b := k) (by omega) (by omega)
    rw [grN] at nx
    refine sg153_4 ⟨shM H, _, rM0 H, 184, shV H, vi (by decide) (by decide), fun h => absurd h ?_, fun _ => ⟨shM H, r_reach H hw (by omega) woI_n ⟨shM H, r_low H hR (by omega) (reach_i V k 99) ⟨fun h => ?_, fun h => ?_⟩⟩⟩⟩
    · rw [mS_get (by decide)]
      exact nI_ge (by omega) (by omega)
    · rw [if_neg (fun z => h (e.mpr z))] at nx
      rw [nI_add, nI_add]; exact nx
    · rw [if_pos (e.mp (Classical.not_not.mp h))] at nx
      rw [nI_add, nI_add]; exact nx
theorem r_gr (H : MI σ) (hw : WF m V) (hK : K (nI (grN V (V 1))) (mS σ V)) : cI E 153 [.ref 179] (mS σ V) K := sg153_0 (r_grL H hw hK (V 1) 0 (by omega))
def smN (V : Nat → Nat) (w : Nat) : Nat → Nat
  | 0 => 0
  | n + 1 => smN V w n + V (32 + 5 * n + w)
def mxN (V : Nat → Nat) (w : Nat) : Nat → Nat
  | 0 => 0
  | n + 1 => if V (32 + 5 * n + w) ≤ mxN V w n then mxN V w n else V (32 + 5 * n + w)
theorem r_smL (H : MI σ) (hw : WF m V) {w : Nat} (hwi : w < 5) (hK : Q (some (.int (nI (smN V w (V 1))))) (mS σ V)) : ∀ d k : Nat, k + d = V 1 → wp E 154 5 [.ref 179, .int (nI w), .int (nI 0), .int (nI (smN V w k)), .int (nI k)] [] (mS σ V) Q := by
  have h1 := hw.1
  unfold W1 at h1
  intro d
  induction d with
  | zero =>
    intro k hk
    obtain rfl : k = V 1 := by omega
    refine sg154_5 ⟨shM H, _, rM0 H, 184, shV H, vi (by decide) (by decide), fun _ => hK, fun h => absurd ?_ h⟩
    rw [mS_get (by decide)]
    exact nI_le (Nat.le_refl _) (by omega)
  | succ d ih =>
    intro k hk
    have nx := ih (k + 1) (by omega)
    rw [smN] at nx
    refine sg154_5 ⟨shM H, _, rM0 H, 184, shV H, vi (by decide) (by decide), fun h => absurd h ?_, fun _ => ⟨shM H, r_ofI H (by omega) hwi ⟨fun h => absurd rfl h, fun _ => ?_⟩⟩⟩
    · rw [mS_get (by decide)]
      exact nI_ge (by omega) (by omega)
    · rw [nI_add, nI_add]; exact nx
theorem r_sm (H : MI σ) (hw : WF m V) {w : Nat} (hwi : w < 5) (hK : K (nI (smN V w (V 1))) (mS σ V)) : cI E 154 [.ref 179, .int (nI w), .int (nI 0)] (mS σ V) K := sg154_0 (r_smL H hw hwi hK (V 1) 0 (by omega))
theorem mx_lt (hw : WF m V) : ∀ n, n ≤ V 1 → mxN V 3 n ≤ V 0
  | 0, _ => Nat.zero_le _
  | n + 1, h => by
    have ih := mx_lt hw n (by omega)
    have := hw.2.2.2.1 n (by omega)
    rw [mxN]
    split <;> omega
theorem r_mxL (H : MI σ) (hw : WF m V) (hK : Q (some (.int (nI (mxN V 3 (V 1))))) (mS σ V)) : ∀ d k : Nat, k + d = V 1 → wp E 154 5 [.ref 179, .int (nI 3), .int (nI 1), .int (nI (mxN V 3 k)), .int (nI k)] [] (mS σ V) Q := by
  have h1 := hw.1
  unfold W1 at h1
  have h5 := hw.2.2.2.2
  unfold W5 at h5
  intro d
  induction d with
  | zero =>
    intro k hk
    obtain rfl : k = V 1 := by omega
    refine sg154_5 ⟨shM H, _, rM0 H, 184, shV H, vi (by decide) (by decide), fun _ => hK, fun h => absurd ?_ h⟩
    rw [mS_get (by decide)]
    exact nI_le (Nat.le_refl _) (by omega)
  | succ d ih =>
    intro k hk
    have nx := ih (k + 1) (by omega)
    have hx := mx_lt hw k (by omega)
    have h4 := hw.2.2.2.1 k (by omega)
    have e := nI_leI (a := V (32 + 5 * k + 3)) (b := mxN V 3 k) (by omega) (by omega)
    rw [mxN] at nx
    refine sg154_5 ⟨shM H, _, rM0 H, 184, shV H, vi (by decide) (by decide), fun h => absurd h ?_, fun _ => ⟨shM H, r_ofI H (by omega) (by decide) ⟨fun _ => ⟨fun h => ?_, fun h => ?_⟩, fun h => absurd (by decide) h⟩⟩⟩
    · rw [mS_get (by decide)]
      exact nI_ge (by omega) (by omega)
    · rw [if_pos (e.mp h)] at nx
      rw [nI_add]; exact nx
    · rw [if_neg (fun z => h (e.mpr z))] at nx
      rw [nI_add]; exact nx
theorem r_mx (H : MI σ) (hw : WF m V) (hK : K (nI (mxN V 3 (V 1))) (mS σ V)) : cI E 154 [.ref 179, .int (nI 3), .int (nI 1)] (mS σ V) K := sg154_0 (r_mxL H hw hK (V 1) 0 (by omega))
end REF10
end
section
/-! the reference's whole state; its records -/
section REF11
variable {E : AEnv} {σ τ : ASt} {V : Nat → Nat} {m n t : Nat} {Hs : Nat → Nat → Nat} {Tx : Nat → Nat} {Q : Option Value → ASt → Prop} {K : Int32 → ASt → Prop} {KV : ASt → Prop}
/-- only the reference's own cells differ -/
def FrM (σ τ : ASt) : Prop := τ.1 = σ.1 ∧ τ.2.2 = σ.2.2 ∧ ∀ c, c < 179 → τ.2.1 c = σ.2.1 c
theorem FrM.id (σ : ASt) : FrM σ σ := ⟨rfl, rfl, fun _ _ => rfl⟩
theorem FrM.tr {ρ : ASt} (h1 : FrM σ τ) (h2 : FrM τ ρ) : FrM σ ρ := ⟨h2.1.trans h1.1, h2.2.1.trans h1.2.1, fun c hc => (h2.2.2 c hc).trans (h1.2.2 c hc)⟩
theorem FrM.mi (h : FrM σ τ) (H : MI σ) : MI τ := ⟨h.1.trans H.1, fun q hq => by
  have h2 := H.2 q hq
  show τ.2.2 q.1 q.2.1 = q.2.2 + 1
  rw [h.2.1]
  exact h2⟩
theorem FrM.wr {c k : Nat} {x : Int32} (h : 179 ≤ c) : FrM σ (wrI σ c k x) := ⟨rfl, rfl, fun d hd => by
  show (if d = c then upd (σ.2.1 c) k x else σ.2.1 d) = _
  rw [if_neg (by omega)]⟩
theorem FrM.m5 {f : Nat → Int32} {W : Nat → Nat} : FrM σ (mS (s5 σ f) W) := ⟨rfl, rfl, fun c hc => by
  show (if c = 180 then _ else if c = 185 then f else σ.2.1 c) = _
  rw [if_neg (by omega), if_neg (by omega)]⟩
theorem FrM.mm {W : Nat → Nat} : FrM σ (mS σ W) := ⟨rfl, rfl, fun c hc => by
  show (if c = 180 then _ else σ.2.1 c) = _
  rw [if_neg (by omega)]⟩
theorem wr_s {c k : Nat} {x : Int32} : gI (wrI σ c k x) c k = x := by
  show (if c = c then upd (σ.2.1 c) k x else σ.2.1 c) k = x
  rw [if_pos rfl]
  exact if_pos rfl
theorem wr_c {c d k j : Nat} {x : Int32} (h : d ≠ c) : gI (wrI σ c k x) d j = gI σ d j := by
  show (if d = c then upd (σ.2.1 c) k x else σ.2.1 d) j = _
  rw [if_neg h]
  rfl
theorem wr_k {c k j : Nat} {x : Int32} (h : j ≠ k) : gI (wrI σ c k x) c j = gI σ c j := by
  show (if c = c then upd (σ.2.1 c) k x else σ.2.1 c) j = _
  rw [if_pos rfl]
  exact if_neg h
/-- what the reference holds: the vector, the older ones, the text -/
def MD (σ : ASt) (V : Nat → Nat) (n : Nat) (Hs : Nat → Nat → Nat) (t : Nat) (Tx : Nat → Nat) : Prop :=
  (∀ k, k < 184 → gI σ 180 k = nI (V k)) ∧ gI σ 179 4 = nI n ∧ n ≤ 4 ∧ (∀ j, j < n → ∀ k, k < 184 → gI σ 183 (184 * j + k) = nI (Hs j k)) ∧ gI σ 179 6 = nI t ∧ t ≤ 60 ∧ ∀ j, j < t → gI σ 184 j = nI (Tx j)
theorem MD.m5 (h : MD σ V n Hs t Tx) {f : Nat → Int32} {W : Nat → Nat} : MD (mS (s5 σ f) W) W n Hs t Tx := by
  have o : ∀ c k, c ≠ 180 → c ≠ 185 → gI (mS (s5 σ f) W) c k = gI σ c k := fun c k h1 h2 => by
    rw [mS_ne h1]
    show (if c = 185 then f else σ.2.1 c) k = _
    rw [if_neg h2]
    rfl
  obtain ⟨h1, h2, h3, h4, h5, h6, h7⟩ := h
  refine ⟨fun k hk => mS_get hk, ?_, h3, ?_, ?_, h6, ?_⟩
  · rw [o _ _ (by decide) (by decide)]; exact h2
  · intro j hj k hk
    rw [o _ _ (by decide) (by decide)]; exact h4 j hj k hk
  · rw [o _ _ (by decide) (by decide)]; exact h5
  · intro j hj
    rw [o _ _ (by decide) (by decide)]; exact h7 j hj
theorem MD.mm (h : MD σ V n Hs t Tx) {W : Nat → Nat} : MD (mS σ W) W n Hs t Tx := by
  have := h.m5 (f := σ.2.1 185) (W := W)
  rw [s5_self] at this
  exact this
/-- n words copied -/
def cpN (σ : ASt) (a p c q : Nat) (n : Nat) : ASt := (σ.1, (fun x => if x = c then (fun k => if q ≤ k ∧ k < q + n then σ.2.1 a (p + (k - q)) else σ.2.1 c k) else σ.2.1 x), σ.2.2)
theorem cpN_0 {a p c q : Nat} : cpN σ a p c q 0 = σ := by
  obtain ⟨x, y, z⟩ := σ
  unfold cpN
  dsimp only
  congr 2
  funext x
  by_cases h : x = c
  · rw [if_pos h]
    funext k
    rw [if_neg (by omega), h]
  · rw [if_neg h]
theorem cpN_s {a p c q n : Nat} (hac : a ≠ c) : wrI (cpN σ a p c q n) c (q + n) (gI (cpN σ a p c q n) a (p + n)) = cpN σ a p c q (n + 1) := by
  have e : gI (cpN σ a p c q n) a (p + n) = σ.2.1 a (p + n) := by
    show (if a = c then _ else σ.2.1 a) (p + n) = _
    rw [if_neg hac]
  rw [e]
  unfold wrI cpN
  dsimp only
  congr 2
  funext x
  by_cases h : x = c
  · rw [if_pos h, if_pos h, if_pos rfl]
    funext k
    unfold upd
    by_cases hk : k = q + n
    · rw [if_pos hk, if_pos (by omega), hk, Nat.add_sub_cancel_left]
    · rw [if_neg hk]
      try dsimp only
      by_cases hr : q ≤ k ∧ k < q + n
      · rw [if_pos hr, if_pos (by omega)]
      · rw [if_neg hr, if_neg (by omega)]
  · rw [if_neg h, if_neg h, if_neg h]
theorem r_cpL {a p c q na nc : Nat} (hac : a ≠ c) (ha : sh σ a 10 na) (hc : sh σ c 10 nc) (hp : p + 184 ≤ na) (hq : q + 184 ≤ nc) (hna : na < 2 ^ 31) (hnc : nc < 2 ^ 31) (hK : Q none (cpN σ a p c q 184)) : ∀ d k : Nat, k + d = 184 → wp E 93 3 [.ref a, .int (nI p), .ref c, .int (nI q), .int (nI k)] [] (cpN σ a p c q k) Q := by
  intro d
  induction d with
  | zero =>
    intro k hk
    obtain rfl : k = 184 := by omega
    exact sg93_3 ⟨fun _ => hK, fun h => absurd (nI_le (Nat.le_refl _) (by decide)) h⟩
  | succ d ih =>
    intro k hk
    refine sg93_3 ⟨fun h => absurd h (nI_ge (by omega) (by omega)), fun _ => ?_⟩
    rw [nI_add, nI_add, nI_add, cl _ (by omega), cl _ (by omega)]
    exact ⟨na, ha, vi (by omega) hna, nc, hc, vi (by omega) hnc, nw_e (cpN_s hac) (ih (k + 1) (by omega))⟩
theorem r_cp {a p c q na nc : Nat} (hac : a ≠ c) (ha : sh σ a 10 na) (hc : sh σ c 10 nc) (hp : p + 184 ≤ na) (hq : q + 184 ≤ nc) (hna : na < 2 ^ 31) (hnc : nc < 2 ^ 31) (hK : KV (cpN σ a p c q 184)) : cV E 93 [.ref a, .int (nI p), .ref c, .int (nI q)] σ KV := by
  have h := r_cpL (E := E) (Q := QV KV) hac ha hc hp hq hna hnc hK 184 0 (by omega)
  rw [cpN_0] at h
  exact sg93_0 h
theorem cp_o {a p c q n x k : Nat} (h : x ≠ c) : gI (cpN σ a p c q n) x k = gI σ x k := by
  show (if x = c then _ else σ.2.1 x) k = _
  rw [if_neg h]
  rfl
theorem cp_in {a p c q n k : Nat} (h : k < n) : gI (cpN σ a p c q n) c (q + k) = gI σ a (p + k) := by
  show (if c = c then (fun k => if q ≤ k ∧ k < q + n then σ.2.1 a (p + (k - q)) else σ.2.1 c k) else σ.2.1 c) (q + k) = _
  rw [if_pos rfl]
  try dsimp only
  rw [if_pos (by omega), Nat.add_sub_cancel_left]
  rfl
theorem cp_out {a p c q n k : Nat} (h : k < q ∨ q + n ≤ k) : gI (cpN σ a p c q n) c k = gI σ c k := by
  show (if c = c then (fun k => if q ≤ k ∧ k < q + n then σ.2.1 a (p + (k - q)) else σ.2.1 c k) else σ.2.1 c) k = _
  rw [if_pos rfl]
  try dsimp only
  rw [if_neg (by omega)]
  rfl
theorem FrM.cp {a p c q n : Nat} (h : 179 ≤ c) : FrM σ (cpN σ a p c q n) := ⟨rfl, rfl, fun d hd => by
  show (if d = c then _ else σ.2.1 d) = _
  rw [if_neg (by omega)]⟩
def pushN (n : Nat) : Nat := if n < 4 then n + 1 else 4
def pushH (n : Nat) (Hs : Nat → Nat → Nat) (V : Nat → Nat) : Nat → Nat → Nat := fun j => if n < 4 then (if j = n then V else Hs j) else (if j = 3 then V else Hs (j + 1))
theorem rM3 (H : MI σ) : rf σ 179 3 183 := H.rf (by decide +kernel)
theorem rM1 (H : MI σ) : rf σ 179 1 181 := H.rf (by decide +kernel)
theorem rM2 (H : MI σ) : rf σ 179 2 182 := H.rf (by decide +kernel)
theorem rM5 (H : MI σ) : rf σ 179 5 184 := H.rf (by decide +kernel)
theorem sh181 (H : MI σ) : sh σ 181 10 184 := H.sh rfl
theorem sh182 (H : MI σ) : sh σ 182 10 184 := H.sh rfl
theorem sh183 (H : MI σ) : sh σ 183 10 736 := H.sh rfl
theorem sh184 (H : MI σ) : sh σ 184 10 60 := H.sh rfl
/-- the older ones moved by k words -/
def mvN (σ : ASt) (n : Nat) : ASt := (σ.1, (fun x => if x = 183 then (fun k => if k < n then σ.2.1 183 (k + 184) else σ.2.1 183 k) else σ.2.1 x), σ.2.2)
theorem mvN_0 : mvN σ 0 = σ := by
  obtain ⟨x, y, z⟩ := σ
  unfold mvN
  dsimp only
  congr 2
  funext x
  by_cases h : x = 183
  · rw [if_pos h, h]
    funext k
    rw [if_neg (by omega)]
  · rw [if_neg h]
theorem mv_in {n k : Nat} (h : k < n) : gI (mvN σ n) 183 k = gI σ 183 (k + 184) := by
  show (if 183 = 183 then (fun k => if k < n then σ.2.1 183 (k + 184) else σ.2.1 183 k) else σ.2.1 183) k = _
  rw [if_pos rfl]
  try dsimp only
  rw [if_pos h]
  rfl
theorem mv_out {n k : Nat} (h : n ≤ k) : gI (mvN σ n) 183 k = gI σ 183 k := by
  show (if 183 = 183 then (fun k => if k < n then σ.2.1 183 (k + 184) else σ.2.1 183 k) else σ.2.1 183) k = _
  rw [if_pos rfl]
  try dsimp only
  rw [if_neg (by omega)]
  rfl
theorem mv_o {n x k : Nat} (h : x ≠ 183) : gI (mvN σ n) x k = gI σ x k := by
  show (if x = 183 then _ else σ.2.1 x) k = _
  rw [if_neg h]
  rfl
theorem mvN_s {n : Nat} : wrI (mvN σ n) 183 n (gI (mvN σ n) 183 (n + 184)) = mvN σ (n + 1) := by
  rw [mv_out (by omega)]
  unfold wrI mvN
  dsimp only
  congr 2
  funext x
  by_cases h : x = 183
  · rw [if_pos h, if_pos h, if_pos rfl]
    funext k
    unfold upd
    by_cases hk : k = n
    · rw [if_pos hk, if_pos (by omega), hk]
      rfl
    · rw [if_neg hk]
      try dsimp only
      by_cases hr : k < n
      · rw [if_pos hr, if_pos (by omega)]
      · rw [if_neg hr, if_neg (by omega)]
  · rw [if_neg h, if_neg h, if_neg h]
theorem r_rec (H : MI σ) (h : MD σ V n Hs t Tx) (hK : ∀ τ, FrM σ τ → MD τ V (pushN n) (pushH n Hs V) t Tx → KV τ) : cV E 94 [.ref 179] σ KV := by
  obtain ⟨h1, h2, h3, h4, h5, h6, h7⟩ := h
  have e4 := nI_eq (a := n) (b := 4) (by omega) (by decide)
  refine sg94_0 ⟨shM H, fun g => ⟨shM H, _, rM0 H, shM H, _, rM3 H, shM H, ?_⟩, fun g => ?_⟩
  · rw [h2] at g ⊢
    have hn : n < 4 := by
      have : n ≠ 4 := fun z => g (e4.mpr z)
      omega
    rw [pk_mul]
    refine r_cp (by decide) (shV H) (sh183 H) (by omega) (by omega) (by decide) (by decide) ⟨shM H, shM H, nw_i ?_⟩
    refine hK _ ((FrM.cp (by decide)).tr (FrM.wr (by decide))) ⟨?_, ?_, ?_, ?_, ?_, h6, ?_⟩
    · intro k hk
      rw [wr_c (by decide), cp_o (by decide)]; exact h1 k hk
    · rw [wr_s, cp_o (by decide), h2, nI_add]
      unfold pushN
      rw [if_pos hn]
    · unfold pushN; split <;> omega
    · intro j hj k hk
      unfold pushN at hj
      rw [if_pos hn] at hj
      unfold pushH
      rw [if_pos hn, wr_c (by decide)]
      by_cases hjn : j = n
      · rw [if_pos hjn, hjn, cp_in hk, Nat.zero_add]; exact h1 k hk
      · rw [if_neg hjn, cp_out (by omega)]; exact h4 j (by omega) k hk
    · rw [wr_k (by decide), cp_o (by decide)]; exact h5
    · intro j hj
      rw [wr_c (by decide), cp_o (by decide)]; exact h7 j hj
  · rw [h2] at g
    have hn : n = 4 := e4.mp (Classical.not_not.mp g)
    subst hn
    have lp : ∀ d k : Nat, k + d = 552 → wp E 94 10 [.ref 179, .int (nI k)] [] (mvN σ k) (QV KV) := by
      intro d
      induction d with
      | zero =>
        intro k hk
        obtain rfl : k = 552 := by omega
        refine sg94_10 ⟨fun _ => ⟨shM H, shM H, ?_⟩, fun z => absurd (nI_le (Nat.le_refl _) (by decide)) z⟩
        rw [mv_o (by decide), h2, pk_sub (by decide)]
        refine nw_i ⟨shM H, _, rM0 H, shM H, _, rM3 H, shM H, ?_⟩
        rw [wr_s, pk_mul]
        refine r_cp (by decide) (shV H) (sh183 H) (by decide) (by decide) (by decide) (by decide) ⟨shM H, shM H, nw_i ?_⟩
        have f1 : FrM σ (mvN σ 552) := ⟨rfl, rfl, fun d hd => by
          show (if d = 183 then _ else σ.2.1 d) = _
          rw [if_neg (by omega)]⟩
        refine hK _ (((f1.tr (FrM.wr (by decide))).tr (FrM.cp (by decide))).tr (FrM.wr (by decide))) ⟨?_, ?_, by decide, ?_, ?_, h6, ?_⟩
        · intro k hk
          rw [wr_c (by decide), cp_o (by decide), wr_c (by decide), mv_o (by decide)]; exact h1 k hk
        · rw [wr_s, cp_o (by decide), wr_s]
          rfl
        · intro j hj k hk
          have hj : j < 4 := hj
          unfold pushH
          rw [if_neg (by decide), wr_c (by decide)]
          by_cases hj3 : j = 3
          · subst hj3
            rw [if_pos rfl]
            rw [cp_in hk, Nat.zero_add, wr_c (by decide), mv_o (by decide)]; exact h1 k hk
          · rw [if_neg hj3, cp_out (by omega), wr_c (by decide), mv_in (by omega), show 184 * j + k + 184 = 184 * (j + 1) + k by omega]
            exact h4 (j + 1) (by omega) k hk
        · rw [wr_k (by decide), cp_o (by decide), wr_k (by decide), mv_o (by decide)]; exact h5
        · intro j hj
          rw [wr_c (by decide), cp_o (by decide), wr_c (by decide), mv_o (by decide)]; exact h7 j hj
      | succ d ih =>
        intro k hk
        refine sg94_10 ⟨fun z => absurd z (nI_ge (by omega) (by omega)), fun _ => ⟨shM H, _, rM3 H, shM H, _, rM3 H, ?_⟩⟩
        rw [nI_add, nI_add, cl _ (by omega), cl _ (by omega)]
        exact ⟨736, sh183 H, vi (by omega) (by decide), 736, sh183 H, vi (by omega) (by decide), nw_e mvN_s (ih (k + 1) (by omega))⟩
    have h := lp 552 0 (by omega)
    rw [mvN_0] at h
    exact h
end REF11
end
section
/-! the reference's changes as they are called -/
section REF12
variable {E : AEnv} {σ τ : ASt} {V : Nat → Nat} {m n t : Nat} {Hs : Nat → Nat → Nat} {Tx : Nat → Nat} {Q : Option Value → ASt → Prop} {K : Int32 → ASt → Prop} {KV : ASt → Prop}
theorem lt01 : ¬ nI 0 ≤ (-1000001 : Int32) := by decide
theorem lt02 : ¬ nI 0 ≤ (-1000002 : Int32) := by decide
theorem lt03 : ¬ nI 0 ≤ (-1000003 : Int32) := by decide
theorem eIsl_ok (hw : WF m V) {x : Int32} (h : nI 0 ≤ eIsl V x) : toN x ≤ 99 ∧ x = nI (toN x) ∧ V 1 < 8 := by
  have h1 := hw.1
  unfold W1 at h1
  unfold eIsl at h
  split at h
  · rename_i g
    obtain ⟨_, h2, h3⟩ := inRg_n (by decide) (by decide) g
    split at h
    · exact absurd h lt03
    · exact ⟨h2, h3, by omega⟩
  · exact absurd h lt01
theorem eBrg_ok (hw : WF m V) {x y w : Int32} (h : nI 0 ≤ eBrg V x y w) : toN x < V 1 ∧ x = nI (toN x) ∧ toN y < V 1 ∧ y = nI (toN y) ∧ 1 ≤ toN w ∧ toN w ≤ 9 ∧ w = nI (toN w) ∧ V 2 < 14 := by
  have h1 := hw.1
  unfold W1 at h1
  unfold eBrg at h
  split at h
  · rename_i g
    obtain ⟨g1, g2, g3, g4⟩ := g
    obtain ⟨a1, a2⟩ := inIs_n hw g1
    obtain ⟨b1, b2⟩ := inIs_n hw g2
    obtain ⟨c1, c2, c3⟩ := inRg_n (by decide) (by decide) g4
    split at h
    · exact absurd h lt03
    · exact ⟨a1, a2, b1, b2, c1, c2, c3, by omega⟩
  · exact absurd h lt01
theorem eSnd_ok (hw : WF m V) {x f : Int32} (h : nI 0 ≤ eSnd V x f) : toN x < V 2 ∧ x = nI (toN x) := by
  unfold eSnd at h
  split at h
  · rename_i g
    exact inBr_n hw g.1
  · exact absurd h lt01
theorem eRec_ok (hw : WF m V) {x : Int32} (h : nI 0 ≤ eRec V x) : toN x < V 2 ∧ x = nI (toN x) := by
  unfold eRec at h
  split at h
  · rename_i g
    exact inBr_n hw g
  · exact absurd h lt01
theorem ePay_ok {x : Int32} (h : nI 0 ≤ ePay V x) : 1 ≤ toN x ∧ toN x ≤ 999 ∧ x = nI (toN x) ∧ V 11 + toN x ≤ 999999 := by
  unfold ePay at h
  split at h
  · rename_i g
    obtain ⟨c1, c2, c3⟩ := inRg_n (by decide) (by decide) g
    split at h
    · rename_i g2
      exact ⟨c1, c2, c3, g2⟩
    · exact absurd h lt03
  · exact absurd h lt01
theorem eDys_ok {x : Int32} (h : nI 0 ≤ eDys V x) : 1 ≤ toN x ∧ toN x ≤ 99 ∧ x = nI (toN x) ∧ V 0 + toN x ≤ 9999 := by
  unfold eDys at h
  split at h
  · rename_i g
    obtain ⟨c1, c2, c3⟩ := inRg_n (by decide) (by decide) g
    split at h
    · rename_i g2
      exact ⟨c1, c2, c3, g2⟩
    · exact absurd h lt03
  · exact absurd h lt01
theorem WF.to (hw : WF m V) {k : Nat} (h : V 0 ≤ k) (hk : k ≤ 100000) : WF k V := by
  obtain ⟨a1, a2, a3, a4, a5⟩ := hw
  unfold W5 at a5
  exact ⟨a1, a2, a3, a4, h, hk, a5.2.2⟩
theorem dIsl_o {f j : Nat} (h1 : j ≠ 1) (h : j < 32 + 5 * V 1 ∨ 37 + 5 * V 1 ≤ j) : dIsl V f j = V j := by
  unfold dIsl
  simp (disch := omega) only [upN_n, upN_s]
  exact zI_o 5 (by omega)
theorem dBrg_o {o u w j : Nat} (h1 : j ≠ 2) (h : j < 72 + 8 * V 2 ∨ 80 + 8 * V 2 ≤ j) : dBrg V o u w j = V j := by
  unfold dBrg
  simp (disch := omega) only [upN_n, upN_s]
  exact zB_o 8 (by omega)
theorem WF.isl (hw : WF m V) {f : Nat} (hf : f ≤ 99) (h : V 1 < 8) : WF m (dIsl V f) := by
  obtain ⟨a1, a2, a3, a4, a5⟩ := hw
  unfold W1 at a1
  have e1 : dIsl V f 1 = V 1 + 1 := by unfold dIsl; simp (disch := omega) only [upN_n, upN_s]
  have z : ∀ j, 32 + 5 * V 1 < j → j < 37 + 5 * V 1 → dIsl V f j = 0 := fun j h1 h2 => by
    unfold dIsl
    simp (disch := omega) only [upN_n, upN_s]
    exact zI_z 5 (by omega) (by omega)
  refine ⟨?_, ?_, ?_, ?_, ?_⟩
  · unfold W1
    rw [e1, dIsl_o (by decide) (by omega), dIsl_o (by decide) (by omega)]
    omega
  · unfold W2 at a2 ⊢
    rw [dIsl_o (j := 3) (by decide) (by omega), dIsl_o (j := 4) (by decide) (by omega), dIsl_o (j := 5) (by decide) (by omega), dIsl_o (j := 6) (by decide) (by omega), dIsl_o (j := 7) (by decide) (by omega), dIsl_o (j := 8) (by decide) (by omega), dIsl_o (j := 9) (by decide) (by omega), dIsl_o (j := 10) (by decide) (by omega)]
    exact a2
  · intro b hb
    rw [dIsl_o (by decide) (by omega)] at hb
    have := a3 b hb
    rw [e1, dIsl_o (by omega) (by omega), dIsl_o (by omega) (by omega), dIsl_o (by omega) (by omega), dIsl_o (by omega) (by omega), dIsl_o (by omega) (by omega)]
    omega
  · intro i hi
    rw [e1] at hi
    by_cases hi1 : i = V 1
    · subst hi1
      have e0 : dIsl V f (32 + 5 * V 1 + 0) = f := by unfold dIsl; simp (disch := omega) only [upN_n, upN_s]
      rw [e0, z (32 + 5 * V 1 + 1) (by omega) (by omega), z (32 + 5 * V 1 + 3) (by omega) (by omega)]
      omega
    · have := a4 i (by omega)
      rw [dIsl_o (j := 0) (by decide) (by omega), dIsl_o (by omega) (by omega), dIsl_o (by omega) (by omega), dIsl_o (by omega) (by omega)]
      exact this
  · unfold W5 at a5 ⊢
    rw [dIsl_o (j := 0) (by decide) (by omega), dIsl_o (j := 11) (by decide) (by omega)]
    exact a5
theorem WF.nbr (hw : WF m V) {o u w : Nat} (ho : o < V 1) (hu : u < V 1) (h9 : 1 ≤ w ∧ w ≤ 9) (h : V 2 < 14) : WF m (dBrg V o u w) := by
  obtain ⟨a1, a2, a3, a4, a5⟩ := hw
  unfold W1 at a1
  have e2 : dBrg V o u w 2 = V 2 + 1 := by unfold dBrg; simp (disch := omega) only [upN_n, upN_s]
  refine ⟨?_, ?_, ?_, ?_, ?_⟩
  · unfold W1
    rw [e2, dBrg_o (by decide) (by omega), dBrg_o (by decide) (by omega)]
    omega
  · unfold W2 at a2 ⊢
    rw [dBrg_o (j := 3) (by decide) (by omega), dBrg_o (j := 4) (by decide) (by omega), dBrg_o (j := 5) (by decide) (by omega), dBrg_o (j := 6) (by decide) (by omega), dBrg_o (j := 7) (by decide) (by omega), dBrg_o (j := 8) (by decide) (by omega), dBrg_o (j := 9) (by decide) (by omega), dBrg_o (j := 10) (by decide) (by omega)]
    exact a2
  · intro b hb
    rw [e2] at hb
    rw [dBrg_o (j := 1) (by decide) (by omega)]
    by_cases hb2 : b = V 2
    · subst hb2
      have e4 : dBrg V o u w (72 + 8 * V 2 + 4) = 0 := by
        unfold dBrg
        simp (disch := omega) only [upN_n, upN_s]
        exact zB_z 8 (by omega) (by omega)
      rw [e4]
      unfold dBrg
      simp (disch := omega) only [upN_n, upN_s]
      omega
    · have := a3 b (by omega)
      rw [dBrg_o (by omega) (by omega), dBrg_o (by omega) (by omega), dBrg_o (by omega) (by omega), dBrg_o (by omega) (by omega), dBrg_o (by omega) (by omega)]
      exact this
  · intro i hi
    rw [dBrg_o (by decide) (by omega)] at hi
    have := a4 i hi
    rw [dBrg_o (j := 0) (by decide) (by omega), dBrg_o (by omega) (by omega), dBrg_o (by omega) (by omega), dBrg_o (by omega) (by omega)]
    exact this
  · unfold W5 at a5 ⊢
    rw [dBrg_o (j := 0) (by decide) (by omega), dBrg_o (j := 11) (by decide) (by omega)]
    exact a5
theorem WF.pay (hw : WF m V) {c : Nat} (h : V 11 + c ≤ 999999) : WF m (dPay V c) := by
  obtain ⟨a1, a2, a3, a4, a5⟩ := hw
  have o : ∀ j, j ≠ 11 → j ≠ 14 → dPay V c j = V j := fun j h1 h2 => by
    unfold dPay
    simp (disch := omega) only [upN_n, upN_s]
  have e11 : dPay V c 11 = V 11 + c := by unfold dPay; simp (disch := omega) only [upN_n, upN_s]
  refine ⟨?_, ?_, ?_, ?_, ?_⟩
  · unfold W1 at a1 ⊢
    rw [o 1 (by decide) (by decide), o 2 (by decide) (by decide), o 15 (by decide) (by decide)]
    exact a1
  · unfold W2 at a2 ⊢
    rw [o 3 (by decide) (by decide), o 4 (by decide) (by decide), o 5 (by decide) (by decide), o 6 (by decide) (by decide), o 7 (by decide) (by decide), o 8 (by decide) (by decide), o 9 (by decide) (by decide), o 10 (by decide) (by decide)]
    exact a2
  · intro b hb
    rw [o 2 (by decide) (by decide)] at hb
    rw [o 1 (by decide) (by decide), o _ (by omega) (by omega), o _ (by omega) (by omega), o _ (by omega) (by omega), o _ (by omega) (by omega), o _ (by omega) (by omega)]
    exact a3 b hb
  · intro i hi
    rw [o 1 (by decide) (by decide)] at hi
    rw [o 0 (by decide) (by decide), o _ (by omega) (by omega), o _ (by omega) (by omega), o _ (by omega) (by omega)]
    exact a4 i hi
  · unfold W5 at a5 ⊢
    rw [o 0 (by decide) (by decide), e11]
    omega
def opA (e : Int32) (a : Nat) : Int32 := if nI 0 ≤ e then nI a else e
def opV (e : Int32) (V W : Nat → Nat) : Nat → Nat := if nI 0 ≤ e then W else V
def opN (e : Int32) (n : Nat) : Nat := if nI 0 ≤ e then pushN n else n
def opH (e : Int32) (n : Nat) (Hs : Nat → Nat → Nat) (V : Nat → Nat) : Nat → Nat → Nat := if nI 0 ≤ e then pushH n Hs V else Hs
theorem op_y {e : Int32} (h : nI 0 ≤ e) {a : Nat} {W : Nat → Nat} (hK : ∀ τ, FrM σ τ → MD τ (opV e V W) (opN e n) (opH e n Hs V) t Tx → K (opA e a) τ) : ∀ τ, FrM σ τ → MD τ W (pushN n) (pushH n Hs V) t Tx → K (nI a) τ := by
  unfold opV opN opH opA at hK
  rw [if_pos h, if_pos h, if_pos h, if_pos h] at hK
  exact hK
theorem op_n {e : Int32} (h : ¬ nI 0 ≤ e) (hm : MD σ V n Hs t Tx) {a : Nat} {W : Nat → Nat} (hK : ∀ τ, FrM σ τ → MD τ (opV e V W) (opN e n) (opH e n Hs V) t Tx → K (opA e a) τ) : K e σ := by
  unfold opV opN opH opA at hK
  rw [if_neg h, if_neg h, if_neg h, if_neg h] at hK
  exact hK σ (FrM.id σ) hm
theorem FrM.sm {W U : Nat → Nat} {f : Nat → Int32} (h : FrM σ (mS τ U)) : FrM σ (mS (s5 τ f) W) := ⟨h.1, h.2.1, fun c hc => by
  have := h.2.2 c hc
  have e1 : (mS τ U).2.1 c = τ.2.1 c := if_neg (by omega)
  have e2 : (mS (s5 τ f) W).2.1 c = τ.2.1 c := (if_neg (by omega)).trans (if_neg (by omega))
  rw [e2, ← e1, this]⟩
theorem mS_e (h : MD σ V n Hs t Tx) : mS σ V = σ := mS_self h.1
theorem m_isl (H : MI σ) (hm : MD σ V n Hs t Tx) (hw : WF m V) {x : Int32} (hK : ∀ τ, FrM σ τ → MD τ (opV (eIsl V x) V (dIsl V (toN x))) (opN (eIsl V x) n) (opH (eIsl V x) n Hs V) t Tx → K (opA (eIsl V x) (V 1)) τ) : cI E 128 [.ref 179, .int x] σ K := by
  have h1 := hw.1
  unfold W1 at h1
  have h5 := hw.2.2.2.2
  unfold W5 at h5
  have es := mS_e hm
  refine sg128_0 ⟨shM H, ?_⟩
  rw [← es]
  refine r_eI H hw ⟨fun g => ⟨shM H, ?_⟩, fun g => ?_⟩
  · rw [es]
    obtain ⟨hx, ex, h8⟩ := eIsl_ok hw g
    have hK' := op_y g hK
    refine r_rec H hm fun τ hf ht => ?_
    have Hr : MI τ := hf.mi H
    have et := mS_e ht
    rw [← et] at hf ⊢
    refine ⟨shM Hr, ?_⟩
    have hg : cI E 111 [.ref 179, .int (nI (toN x))] (mS τ V) (fun x5 s4 => QI K (some (.int x5)) s4) := r_goI Hr h8 (hK' _ (by have := hf.sm (f := τ.2.1 185) (W := dIsl V (toN x)); rw [s5_self] at this; exact this) ht.mm)
    rw [← ex] at hg
    exact hg
  · rw [es]
    exact op_n g hm hK
theorem m_brg (H : MI σ) (hm : MD σ V n Hs t Tx) (hw : WF m V) {x y w : Int32} (hK : ∀ τ, FrM σ τ → MD τ (opV (eBrg V x y w) V (dBrg V (toN x) (toN y) (toN w))) (opN (eBrg V x y w) n) (opH (eBrg V x y w) n Hs V) t Tx → K (opA (eBrg V x y w) (V 2)) τ) : cI E 129 [.ref 179, .int x, .int y, .int w] σ K := by
  have h1 := hw.1
  unfold W1 at h1
  have h5 := hw.2.2.2.2
  unfold W5 at h5
  have es := mS_e hm
  refine sg129_0 ⟨shM H, ?_⟩
  rw [← es]
  refine r_eB H hw ⟨fun g => ⟨shM H, ?_⟩, fun g => ?_⟩
  · rw [es]
    obtain ⟨hx, ex, hy, ey, w1, w2, ew, h14⟩ := eBrg_ok hw g
    have hK' := op_y g hK
    refine r_rec H hm fun τ hf ht => ?_
    have Hr : MI τ := hf.mi H
    have et := mS_e ht
    rw [← et] at hf ⊢
    refine ⟨shM Hr, ?_⟩
    have hg : cI E 112 [.ref 179, .int (nI (toN x)), .int (nI (toN y)), .int (nI (toN w))] (mS τ V) (fun x5 s4 => QI K (some (.int x5)) s4) := r_goB Hr h14 (hK' _ (by have := hf.sm (f := τ.2.1 185) (W := dBrg V (toN x) (toN y) (toN w)); rw [s5_self] at this; exact this) ht.mm)
    rw [← ex, ← ey, ← ew] at hg
    exact hg
  · rw [es]
    exact op_n g hm hK
theorem m_snd (H : MI σ) (hm : MD σ V n Hs t Tx) (hw : WF m V) {x f : Int32} (hK : ∀ τ, FrM σ τ → MD τ (opV (eSnd V x f) V (dSnd V (toN x))) (opN (eSnd V x f) n) (opH (eSnd V x f) n Hs V) t Tx → K (opA (eSnd V x f) (cutV V (toN x))) τ) : cI E 130 [.ref 179, .int x, .int f] σ K := by
  have h1 := hw.1
  unfold W1 at h1
  have h5 := hw.2.2.2.2
  unfold W5 at h5
  have es := mS_e hm
  refine sg130_0 ⟨shM H, ?_⟩
  rw [← es]
  refine r_eS H hw ⟨fun g => ⟨shM H, ?_⟩, fun g => ?_⟩
  · rw [es]
    obtain ⟨hx, ex⟩ := eSnd_ok hw g
    have hK' := op_y g hK
    refine r_rec H hm fun τ hf ht => ?_
    have Hr : MI τ := hf.mi H
    have et := mS_e ht
    rw [← et] at hf ⊢
    refine ⟨shM Hr, ?_⟩
    have hg : cI E 113 [.ref 179, .int (nI (toN x))] (mS τ V) (fun x5 s4 => QI K (some (.int x5)) s4) := r_goS Hr hw (by omega) (hK' _ (by have := hf.sm (f := τ.2.1 185) (W := dSnd V (toN x)); rw [s5_self] at this; exact this) ht.mm)
    rw [← ex] at hg
    exact hg
  · rw [es]
    exact op_n g hm hK
theorem m_rec (H : MI σ) (hm : MD σ V n Hs t Tx) (hw : WF m V) {x : Int32} (hK : ∀ τ, FrM σ τ → MD τ (opV (eRec V x) V (dRec V (toN x))) (opN (eRec V x) n) (opH (eRec V x) n Hs V) t Tx → K (opA (eRec V x) (V (72 + 8 * toN x + 3))) τ) : cI E 131 [.ref 179, .int x] σ K := by
  have h1 := hw.1
  unfold W1 at h1
  have h5 := hw.2.2.2.2
  unfold W5 at h5
  have es := mS_e hm
  refine sg131_0 ⟨shM H, ?_⟩
  rw [← es]
  refine r_eR H hw ⟨fun g => ⟨shM H, ?_⟩, fun g => ?_⟩
  · rw [es]
    obtain ⟨hx, ex⟩ := eRec_ok hw g
    have hK' := op_y g hK
    refine r_rec H hm fun τ hf ht => ?_
    have Hr : MI τ := hf.mi H
    have et := mS_e ht
    rw [← et] at hf ⊢
    refine ⟨shM Hr, ?_⟩
    have hg : cI E 114 [.ref 179, .int (nI (toN x))] (mS τ V) (fun x5 s4 => QI K (some (.int x5)) s4) := r_goR Hr (by omega) (hK' _ (by have := hf.sm (f := τ.2.1 185) (W := dRec V (toN x)); rw [s5_self] at this; exact this) ht.mm)
    rw [← ex] at hg
    exact hg
  · rw [es]
    exact op_n g hm hK
theorem m_pay (H : MI σ) (hm : MD σ V n Hs t Tx) (hw : WF m V) {x : Int32} (hK : ∀ τ, FrM σ τ → MD τ (opV (ePay V x) V (dPay V (toN x))) (opN (ePay V x) n) (opH (ePay V x) n Hs V) t Tx → K (opA (ePay V x) (V 11 + toN x)) τ) : cI E 132 [.ref 179, .int x] σ K := by
  have h1 := hw.1
  unfold W1 at h1
  have h5 := hw.2.2.2.2
  unfold W5 at h5
  have es := mS_e hm
  refine sg132_0 ⟨shM H, ?_⟩
  rw [← es]
  refine r_eP H hw ⟨fun g => ⟨shM H, ?_⟩, fun g => ?_⟩
  · rw [es]
    obtain ⟨x1, x2, ex, h9⟩ := ePay_ok g
    have hK' := op_y g hK
    refine r_rec H hm fun τ hf ht => ?_
    have Hr : MI τ := hf.mi H
    have et := mS_e ht
    rw [← et] at hf ⊢
    refine ⟨shM Hr, ?_⟩
    have hg : cI E 115 [.ref 179, .int (nI (toN x))] (mS τ V) (fun x5 s4 => QI K (some (.int x5)) s4) := r_goP Hr (hK' _ (by have := hf.sm (f := τ.2.1 185) (W := dPay V (toN x)); rw [s5_self] at this; exact this) ht.mm)
    rw [← ex] at hg
    exact hg
  · rw [es]
    exact op_n g hm hK
theorem m_dys (H : MI σ) (hm : MD σ V n Hs t Tx) (hw : WF m V) {x : Int32} (hK : ∀ τ, FrM σ τ → MD τ (opV (eDys V x) V (dDays (toN x) V)) (opN (eDys V x) n) (opH (eDys V x) n Hs V) t Tx → K (opA (eDys V x) (cDays (toN x) V)) τ) : cI E 133 [.ref 179, .int x] σ K := by
  have h1 := hw.1
  unfold W1 at h1
  have h5 := hw.2.2.2.2
  unfold W5 at h5
  have es := mS_e hm
  refine sg133_0 ⟨shM H, ?_⟩
  rw [← es]
  refine r_eD H hw ⟨fun g => ⟨shM H, ?_⟩, fun g => ?_⟩
  · rw [es]
    obtain ⟨x1, x2, ex, h9⟩ := eDys_ok g
    have hK' := op_y g hK
    refine r_rec H hm fun τ hf ht => ?_
    have Hr : MI τ := hf.mi H
    have et := mS_e ht
    rw [← et] at hf ⊢
    refine ⟨shM Hr, ?_⟩
    have hg : cI E 121 [.ref 179, .int (nI (toN x))] (mS τ V) (fun x5 s4 => QI K (some (.int x5)) s4) := r_dys Hr (hw.to (Nat.le_refl _) (by omega)) (by omega) (fun f => hK' _ hf.sm ht.m5)
    rw [← ex] at hg
    exact hg
  · rw [es]
    exact op_n g hm hK
end REF12
end
section
/-! the reference: settings, undo, what would be -/
section REF13
variable {E : AEnv} {σ τ : ASt} {V : Nat → Nat} {m n t : Nat} {Hs : Nat → Nat → Nat} {Tx : Nat → Nat} {Q : Option Value → ASt → Prop} {K : Int32 → ASt → Prop} {KV : ASt → Prop}
def hiS (w : Int32) : Nat := if w = nI 0 then 4 else if w = nI 1 then 100 else if w = nI 2 then 99 else if w = nI 3 then 1 else if w = nI 4 then 30 else if w = nI 5 then 99 else if w = nI 6 then 1 else 99
def loS (w : Int32) : Nat := if w = nI 1 then 1 else 0
theorem hiS_lt (w : Int32) : hiS w ≤ 100 := by
  unfold hiS
  repeat' split
  all_goals omega
theorem m_hi {s : ASt} {w : Int32} (hK : K (nI (hiS w)) s) : cI E 134 [.int w] s K := by
  unfold hiS at hK
  refine sg134_0 ⟨fun g => ?_, fun g0 => ⟨fun g => ?_, fun g1 => ⟨fun g => ?_, fun g2 => ⟨fun g => ?_, fun g3 => ⟨fun g => ?_, fun g4 => ⟨fun g => ?_, fun g5 => ⟨fun g => ?_, fun g6 => ?_⟩⟩⟩⟩⟩⟩⟩
  · rw [if_pos g] at hK; exact hK
  · rw [if_neg g0, if_pos g] at hK; exact hK
  · rw [if_neg g0, if_neg g1, if_pos g] at hK; exact hK
  · rw [if_neg g0, if_neg g1, if_neg g2, if_pos g] at hK; exact hK
  · rw [if_neg g0, if_neg g1, if_neg g2, if_neg g3, if_pos g] at hK; exact hK
  · rw [if_neg g0, if_neg g1, if_neg g2, if_neg g3, if_neg g4, if_pos g] at hK; exact hK
  · rw [if_neg g0, if_neg g1, if_neg g2, if_neg g3, if_neg g4, if_neg g5, if_pos g] at hK; exact hK
  · rw [if_neg g0, if_neg g1, if_neg g2, if_neg g3, if_neg g4, if_neg g5, if_neg g6] at hK; exact hK
def eSet (w v : Int32) : Int32 := if inRg w (nI 0) (nI 7) = true ∧ inRg v (nI (loS w)) (nI (hiS w)) = true then nI 0 else (-1000001 : Int32)
theorem eSet_ok {w v : Int32} (h : nI 0 ≤ eSet w v) : toN w ≤ 7 ∧ w = nI (toN w) ∧ loS w ≤ toN v ∧ toN v ≤ hiS w ∧ v = nI (toN v) := by
  have hh := hiS_lt w
  have hl : loS w ≤ 1 := by unfold loS; split <;> omega
  unfold eSet at h
  split at h
  · rename_i g
    obtain ⟨_, a2, a3⟩ := inRg_n (by decide) (by decide) g.1
    obtain ⟨b1, b2, b3⟩ := inRg_n (by omega) (by omega) g.2
    exact ⟨a2, a3, b1, b2, b3⟩
  · exact absurd h lt01
def dSet (V : Nat → Nat) (w v : Nat) : Nat → Nat := upN V (3 + w) v
theorem WF.set (hw : WF m V) {w v : Int32} (h : nI 0 ≤ eSet w v) : WF m (dSet V (toN w) (toN v)) := by
  obtain ⟨h1, ew, h2, h3, _⟩ := eSet_ok h
  obtain ⟨a1, a2, a3, a4, a5⟩ := hw
  have o : ∀ j, (j < 3 ∨ 11 ≤ j) → dSet V (toN w) (toN v) j = V j := fun j hj => upN_n (by omega)
  refine ⟨?_, ?_, ?_, ?_, ?_⟩
  · unfold W1 at a1 ⊢
    rw [o 1 (by omega), o 2 (by omega), o 15 (by omega)]
    exact a1
  · unfold W2 at a2 ⊢
    unfold dSet
    rw [ew] at h2 h3
    have hc : toN w = 0 ∨ toN w = 1 ∨ toN w = 2 ∨ toN w = 3 ∨ toN w = 4 ∨ toN w = 5 ∨ toN w = 6 ∨ toN w = 7 := by omega
    rcases hc with e | e | e | e | e | e | e | e <;> rw [e] at h2 h3 ⊢
    · have e3 : hiS (nI 0) = 4 := by decide
      simp (disch := omega) only [upN_n, upN_s]; omega
    · have e3 : hiS (nI 1) = 100 := by decide
      have e4 : loS (nI 1) = 1 := by decide
      simp (disch := omega) only [upN_n, upN_s]; omega
    · have e3 : hiS (nI 2) = 99 := by decide
      simp (disch := omega) only [upN_n, upN_s]; omega
    · have e3 : hiS (nI 3) = 1 := by decide
      simp (disch := omega) only [upN_n, upN_s]; omega
    · have e3 : hiS (nI 4) = 30 := by decide
      simp (disch := omega) only [upN_n, upN_s]; omega
    · have e3 : hiS (nI 5) = 99 := by decide
      simp (disch := omega) only [upN_n, upN_s]; omega
    · have e3 : hiS (nI 6) = 1 := by decide
      simp (disch := omega) only [upN_n, upN_s]; omega
    · have e3 : hiS (nI 7) = 99 := by decide
      simp (disch := omega) only [upN_n, upN_s]; omega
  · intro b hb
    rw [o 2 (by omega)] at hb
    rw [o 1 (by omega), o _ (by omega), o _ (by omega), o _ (by omega), o _ (by omega), o _ (by omega)]
    exact a3 b hb
  · intro i hi
    rw [o 1 (by omega)] at hi
    rw [o 0 (by omega), o _ (by omega), o _ (by omega), o _ (by omega)]
    exact a4 i hi
  · unfold W5 at a5 ⊢
    rw [o 0 (by omega), o 11 (by omega)]
    exact a5
theorem m_set (H : MI σ) (hm : MD σ V n Hs t Tx) {w v : Int32} (hK : ∀ τ, FrM σ τ → MD τ (opV (eSet w v) V (dSet V (toN w) (toN v))) (opN (eSet w v) n) (opH (eSet w v) n Hs V) t Tx → K (opA (eSet w v) (V (3 + toN w))) τ) : cI E 135 [.ref 179, .int w, .int v] σ K := by
  have hno : ¬ (inRg w (nI 0) (nI 7) = true ∧ inRg v (nI (loS w)) (nI (hiS w)) = true) → K (-1000001 : Int32) σ := fun h => by
    have e : eSet w v = (-1000001 : Int32) := by unfold eSet; rw [if_neg h]
    have := op_n (e := eSet w v) (by rw [e]; exact lt01) hm hK
    rw [e] at this
    exact this
  have hyes : inRg w (nI 0) (nI 7) = true → inRg v (nI (loS w)) (nI (hiS w)) = true → ∀ τ, FrM σ τ → MD τ V (pushN n) (pushH n Hs V) t Tx → (sh τ 179 6 15 ∧ ∃ r8, rf τ 179 0 r8 ∧ ∃ n9, sh τ r8 10 n9 ∧ vp_in ((nI 3) + w) n9 ∧ sh τ 179 6 15 ∧ ∃ r10, rf τ 179 0 r10 ∧ ∃ n11, sh τ r10 10 n11 ∧ vp_in ((nI 3) + w) n11 ∧ nw (wrI τ r10 (((nI 3) + w)).toNatClampNeg v) (fun s12 => K (gI τ r8 (((nI 3) + w)).toNatClampNeg) s12)) := by
    intro g1 g2 τ hf ht
    have e : eSet w v = nI 0 := by unfold eSet; rw [if_pos ⟨g1, g2⟩]
    have h0 : nI 0 ≤ eSet w v := by rw [e]; decide
    obtain ⟨h1, ew, _, _, ev⟩ := eSet_ok h0
    have hK' := op_y h0 hK
    have Hr : MI τ := hf.mi H
    have et := mS_e ht
    have e3 : nI 3 + w = nI (3 + toN w) := by rw [ew, toN_nI (by omega), nI_add]
    rw [e3, cl _ (by omega)]
    refine ⟨shM Hr, _, rM0 Hr, 184, shV Hr, vi (by omega) (by decide), shM Hr, _, rM0 Hr, 184, shV Hr, vi (by omega) (by decide), ?_⟩
    rw [ht.1 _ (by omega), ev, ← et]
    refine nw_e (mS_put (by omega)) (hK' _ ?_ ht.mm)
    exact hf.tr FrM.mm
  refine sg135_0 (r_in ⟨fun g => hno fun z => bI_3 g z.1, fun g => ⟨fun g1 => m_hi (r_in ⟨fun g2 => ⟨shM H, r_rec H hm fun τ hf ht => ?_⟩, fun g2 => ?_⟩), fun g1 => m_hi (r_in ⟨fun g2 => ⟨shM H, r_rec H hm fun τ hf ht => ?_⟩, fun g2 => ?_⟩)⟩⟩)
  · refine hyes (bI_1 g) ?_ τ hf ht
    unfold loS
    rw [if_neg g1]
    exact bI_1 g2
  · refine hno fun z => ?_
    have := z.2
    unfold loS at this
    rw [if_neg g1, bI_2 g2] at this
    exact absurd this (by decide)
  · refine hyes (bI_1 g) ?_ τ hf ht
    unfold loS
    rw [if_pos (Classical.not_not.mp g1)]
    exact bI_1 g2
  · refine hno fun z => ?_
    have := z.2
    unfold loS at this
    rw [if_pos (Classical.not_not.mp g1), bI_2 g2] at this
    exact absurd this (by decide)
theorem m_und (H : MI σ) (hm : MD σ V n Hs t Tx) (hK0 : n = 0 → K (-1000002 : Int32) σ) (hK : ∀ τ, 0 < n → FrM σ τ → MD τ (Hs (n - 1)) (n - 1) Hs t Tx → K (nI (n - 1)) τ) : cI E 136 [.ref 179] σ K := by
  obtain ⟨h1, h2, h3, h4, h5, h6, h7⟩ := hm
  have e0 := nI_eq (a := n) (b := 0) (by omega) (by decide)
  refine sg136_0 ⟨shM H, fun g => ⟨shM H, shM H, ?_⟩, fun g => ?_⟩
  · rw [h2] at g ⊢
    have hn : 0 < n := by
      have : n ≠ 0 := fun z => g (e0.mpr z)
      omega
    rw [pk_sub (by omega)]
    refine nw_i ⟨shM H, _, rM3 H, shM H, shM H, _, rM0 H, ?_⟩
    rw [wr_s, pk_mul]
    refine r_cp (by decide) (sh183 H) (shV H) (by omega) (by decide) (by decide) (by decide) ⟨shM H, ?_⟩
    have hf : FrM σ (cpN (wrI σ 179 4 (nI (n - 1))) 183 (184 * (n - 1)) 180 0 184) := (FrM.wr (by decide)).tr (FrM.cp (by decide))
    rw [cp_o (by decide), wr_s]
    refine hK _ hn hf ⟨?_, ?_, by omega, ?_, ?_, h6, ?_⟩
    · intro k hk
      have := cp_in (σ := wrI σ 179 4 (nI (n - 1))) (a := 183) (p := 184 * (n - 1)) (c := 180) (q := 0) (n := 184) hk
      rw [Nat.zero_add] at this
      rw [this, wr_c (by decide)]
      exact h4 (n - 1) (by omega) k hk
    · rw [cp_o (by decide), wr_s]
    · intro j hj k hk
      rw [cp_o (by decide), wr_c (by decide)]
      exact h4 j (by omega) k hk
    · rw [cp_o (by decide), wr_k (by decide)]; exact h5
    · intro j hj
      rw [cp_o (by decide), wr_c (by decide)]; exact h7 j hj
  · rw [h2] at g
    exact hK0 (e0.mp (Classical.not_not.mp g))
end REF13
end
section
/-! the reference: what would be -/
section REF14
variable {E : AEnv} {σ τ : ASt} {V : Nat → Nat} {m n t : Nat} {Hs : Nat → Nat → Nat} {Tx : Nat → Nat} {Q : Option Value → ASt → Prop} {K : Int32 → ASt → Prop} {KV : ASt → Prop}
/-- the state put aside -/
def asd (σ : ASt) : ASt := cpN σ 180 0 181 0 184
theorem asd_f : FrM σ (asd σ) := FrM.cp (by decide)
theorem asd_m (h : MD σ V n Hs t Tx) : MD (asd σ) V n Hs t Tx := by
  obtain ⟨h1, h2, h3, h4, h5, h6, h7⟩ := h
  refine ⟨fun k hk => ?_, ?_, h3, fun j hj k hk => ?_, ?_, h6, fun j hj => ?_⟩
  · unfold asd; rw [cp_o (by decide)]; exact h1 k hk
  · unfold asd; rw [cp_o (by decide)]; exact h2
  · unfold asd; rw [cp_o (by decide)]; exact h4 j hj k hk
  · unfold asd; rw [cp_o (by decide)]; exact h5
  · unfold asd; rw [cp_o (by decide)]; exact h7 j hj
theorem asd_v (h : MD σ V n Hs t Tx) {k : Nat} (hk : k < 184) : gI (asd σ) 181 k = nI (V k) := by
  have e := cp_in (σ := σ) (a := 180) (p := 0) (c := 181) (q := 0) (n := 184) hk
  rw [Nat.zero_add] at e
  unfold asd
  rw [e]
  exact h.1 k hk
/-- put back -/
theorem back_m {f : Nat → Int32} {W : Nat → Nat} (ht : MD τ V n Hs t Tx) (hv : ∀ k, k < 184 → gI τ 181 k = nI (V k)) : MD (cpN (mS (s5 τ f) W) 181 0 180 0 184) V n Hs t Tx := by
  obtain ⟨h1, h2, h3, h4, h5, h6, h7⟩ := ht.m5 (f := f) (W := W)
  refine ⟨fun k hk => ?_, ?_, h3, fun j hj k hk => ?_, ?_, h6, fun j hj => ?_⟩
  · have e := cp_in (σ := mS (s5 τ f) W) (a := 181) (p := 0) (c := 180) (q := 0) (n := 184) hk
    rw [Nat.zero_add] at e
    rw [e, mS_ne (by decide)]
    have := hv k hk
    exact this
  · rw [cp_o (by decide)]; exact h2
  · rw [cp_o (by decide)]; exact h4 j hj k hk
  · rw [cp_o (by decide)]; exact h5
  · rw [cp_o (by decide)]; exact h7 j hj
theorem back_f {f : Nat → Int32} {W : Nat → Nat} : FrM τ (cpN (mS (s5 τ f) W) 181 0 180 0 184) := FrM.m5.tr (FrM.cp (by decide))
theorem r_back (H : MI τ) {f : Nat → Int32} {W : Nat → Nat} (ht : MD τ V n Hs t Tx) (hv : ∀ k, k < 184 → gI τ 181 k = nI (V k)) (hK : ∀ ρ, FrM τ ρ → MD ρ V n Hs t Tx → KV ρ) : cV E 93 [.ref 181, .int (nI 0), .ref 180, .int (nI 0)] (mS (s5 τ f) W) KV :=
  r_cp (by decide) (sh181 H) (shV H) (by decide) (by decide) (by decide) (by decide) (hK _ back_f (back_m ht hv))
theorem dDay_o {j : Nat} (hj : j < 15) (h0 : j ≠ 0) (h1 : j ≠ 11) (h2 : j ≠ 12) (h3 : j ≠ 13) (h4 : j ≠ 14) : dDay V j = V j := by
  have e : ∀ N, dFin N j = N j := fun N => by
    have e2 : dEnd N j = N j := by unfold dEnd; simp (disch := omega) only [upN_n, upN_s]
    unfold dFin
    split
    · rw [aut_o (by omega), e2]
    · exact e2
  unfold dDay
  rw [e]
  unfold dBok
  split
  · rw [dIA_o _ h1 h3 (by omega), dW3_o (by omega) h1 h2]
  · rw [dNot_o (by omega), dIA_o _ h1 h3 (by omega), dW3_o (by omega) h1 h2]
theorem dDay_2 : dDay V 2 = V 2 := dDay_o (by decide) (by decide) (by decide) (by decide) (by decide) (by decide)
def pinL (b : Nat) : Nat → (Nat → Nat) → Nat → Int32
  | 0, _, _ => (-1000004 : Int32)
  | d + 1, W, k => if pntd W b = true then pinL b d (dDay W) (k + 1) else nI k
theorem r_pinL (H : MI τ) (ht : MD τ V n Hs t Tx) (hv : ∀ k, k < 184 → gI τ 181 k = nI (V k)) {b : Nat} : ∀ (d k : Nat) (W : Nat → Nat) (f : Nat → Int32), k + d = 201 → b < W 2 → WF (9999 + k) W → (∀ ρ, FrM τ ρ → MD ρ V n Hs t Tx → Q (some (.int (pinL b d W k))) ρ) → wp E 147 37 [.ref 179, .int (nI b), .int (nI k)] [] (mS (s5 τ f) W) Q := by
  intro d
  induction d with
  | zero =>
    intro k W f hk hb hw hK
    obtain rfl : k = 201 := by omega
    exact sg147_37 ⟨fun _ => ⟨shM H, _, rM1 H, shM H, _, rM0 H, r_back H ht hv fun ρ hf hm => ⟨fun z => absurd z (by decide), fun _ => hK ρ hf hm⟩⟩, fun z => absurd (by decide) z⟩
  | succ d ih =>
    intro k W f hk hb hw hK
    have H' : MI (s5 τ f) := H
    have hbb := hw.b hb
    have h1 := hw.1
    unfold W1 at h1
    rw [pinL] at hK
    refine sg147_37 ⟨fun z => absurd z (by rw [nI_ltI (by decide) (by omega)]; omega), fun _ => ⟨shM H, r_isP H' (by omega) hbb.2.2.1 ⟨fun g => ⟨shM H, _, rM1 H, shM H, _, rM0 H, r_back H ht hv fun ρ hf hm => ⟨fun _ => ?_, fun z => absurd (nI_le (by omega) (by omega)) z⟩⟩, fun g => ⟨shM H, r_day H' hw (by omega) fun f' => ?_⟩⟩⟩⟩
    · have := hK ρ hf hm
      rw [if_neg (bI_3 g)] at this
      exact this
    · rw [if_pos (bI_1 g)] at hK
      rw [s5_s5, nI_add]
      refine ih (k + 1) (dDay W) f' (by omega) ?_ (hw.day (by omega)) hK
      rw [dDay_2]; exact hb
def qPin (V : Nat → Nat) (x : Int32) : Int32 := if inBr V x = true then (if pntd V (toN x) = true then pinL (toN x) 201 V 0 else (-1000002 : Int32)) else (-1000001 : Int32)
theorem m_pin (H : MI σ) (hm : MD σ V n Hs t Tx) (hw : WF 9999 V) {x : Int32} (hK : ∀ τ, FrM σ τ → MD τ V n Hs t Tx → K (qPin V x) τ) : cI E 147 [.ref 179, .int x] σ K := by
  have es := mS_e hm
  have hK0 := hK σ (FrM.id σ) hm
  unfold qPin at hK hK0
  refine sg147_0 ⟨shM H, ?_⟩
  rw [← es]
  refine r_isB H ⟨fun g => ⟨shM H, ?_⟩, fun g => ?_⟩
  · rw [if_pos (show inBr V x = true from bI_1 g)] at hK hK0
    obtain ⟨hx, ex⟩ := inBr_n hw (bI_1 g)
    have hbb := hw.b hx
    have h1 := hw.1
    unfold W1 at h1
    rw [ex]
    refine r_isP H (by omega) hbb.2.2.1 ⟨fun g2 => ⟨shM H, _, rM0 H, shM H, _, rM1 H, ?_⟩, fun g2 => ?_⟩
    · rw [if_pos (bI_1 g2)] at hK
      rw [es]
      refine r_cp (by decide) (shV H) (sh181 H) (by decide) (by decide) (by decide) (by decide) ?_
      have Ha : MI (asd σ) := asd_f.mi H
      have ha := asd_m hm
      have h := r_pinL (E := E) (Q := QI K) (b := toN x) Ha ha (fun k hk => asd_v hm hk) 201 0 V ((asd σ).2.1 185) (by omega) hx (hw.to (by have := hw.2.2.2.2; unfold W5 at this; omega) (by omega)) (fun ρ hf hm2 => hK ρ (asd_f.tr hf) hm2)
      rw [s5_self, mS_e ha] at h
      exact h
    · rw [if_neg (by rw [bI_2 g2]; decide)] at hK0
      rw [es]
      exact hK0
  · rw [if_neg (show ¬ inBr V x = true from by rw [show inBr V x = false from bI_2 g]; decide)] at hK0
    rw [es]
    exact hK0
def alnL (R : Nat) : Nat → (Nat → Nat) → Nat → Int32
  | 0, _, _ => (-1000004 : Int32)
  | d + 1, W, k => if R ^^^ (R &&& reachV W 0 99) = 0 then alnL R d (dDay W) (k + 1) else nI k
theorem r_alnL (H : MI τ) (ht : MD τ V n Hs t Tx) (hv : ∀ k, k < 184 → gI τ 181 k = nI (V k)) {R : Nat} (hR : R < 2 ^ 8) : ∀ (d k : Nat) (W : Nat → Nat) (f : Nat → Int32), k + d = 201 → WF (9999 + k) W → (∀ ρ, FrM τ ρ → MD ρ V n Hs t Tx → Q (some (.int (alnL R d W k))) ρ) → wp E 148 23 [.ref 179, .int (nI R), .int (nI k)] [] (mS (s5 τ f) W) Q := by
  intro d
  induction d with
  | zero =>
    intro k W f hk hw hK
    obtain rfl : k = 201 := by omega
    exact sg148_23 ⟨fun _ => ⟨shM H, _, rM1 H, shM H, _, rM0 H, r_back H ht hv fun ρ hf hm => ⟨fun z => absurd z (by decide), fun _ => hK ρ hf hm⟩⟩, fun z => absurd (by decide) z⟩
  | succ d ih =>
    intro k W f hk hw hK
    have H' : MI (s5 τ f) := H
    have hl := reach_lt hw.ends (i := 0) (wo := 99) (by decide)
    rw [alnL] at hK
    refine sg148_23 ⟨fun z => absurd z (by rw [nI_ltI (by decide) (by omega)]; omega), fun _ => ⟨shM H, r_reach H' hw (by decide) woI_n ?_⟩⟩
    rw [nI_andn (by omega) (by omega)]
    have hx : R ^^^ (R &&& reachV W 0 99) < 2 ^ 8 := Nat.xor_lt_two_pow hR (Nat.lt_of_le_of_lt Nat.and_le_left hR)
    have e := nI_eq (a := R ^^^ (R &&& reachV W 0 99)) (b := 0) (by omega) (by decide)
    refine ⟨fun g => ⟨shM H, _, rM1 H, shM H, _, rM0 H, r_back H ht hv fun ρ hf hm => ⟨fun _ => ?_, fun z => absurd (nI_le (by omega) (by omega)) z⟩⟩, fun g => ⟨shM H, r_day H' hw (by omega) fun f' => ?_⟩⟩
    · have := hK ρ hf hm
      rw [if_neg (fun z => g (e.mpr z))] at this
      exact this
    · rw [if_pos (e.mp (Classical.not_not.mp g))] at hK
      rw [s5_s5, nI_add]
      exact ih (k + 1) (dDay W) f' (by omega) (hw.day (by omega)) hK
def qAln (V : Nat → Nat) : Int32 := alnL (reachV V 0 99) 201 V 0
theorem m_aln (H : MI σ) (hm : MD σ V n Hs t Tx) (hw : WF 9999 V) (hK : ∀ τ, FrM σ τ → MD τ V n Hs t Tx → K (qAln V) τ) : cI E 148 [.ref 179] σ K := by
  refine sg148_0 ⟨shM H, _, rM0 H, shM H, _, rM1 H, ?_⟩
  refine r_cp (by decide) (shV H) (sh181 H) (by decide) (by decide) (by decide) (by decide) ?_
  have Ha : MI (asd σ) := asd_f.mi H
  have ha := asd_m hm
  have ea := mS_e ha
  have hl := reach_lt hw.ends (i := 0) (wo := 99) (by decide)
  have h := r_alnL (E := E) (Q := QI K) Ha ha (fun k hk => asd_v hm hk) hl 201 0 V ((asd σ).2.1 185) (by omega) (hw.to (by have := hw.2.2.2.2; unfold W5 at this; omega) (by omega)) (fun ρ hf hm2 => hK ρ (asd_f.tr hf) hm2)
  rw [s5_self] at h
  refine ⟨shM Ha, ?_⟩
  have g : cI E 106 [.ref 179, .int (nI 0), .int (-1000004 : Int32)] (mS (asd σ) V) (fun x5 s4 => wp E 148 23 [.ref 179, .int x5, .int (nI 0)] [] s4 (QI K)) := r_reach Ha hw (by decide) woI_n h
  rw [ea] at g
  exact g
def qIfd (V : Nat → Nat) (x : Int32) : Int32 := if inRg x (nI 1) (nI 99) = true then nI (cDays (toN x) V) else (-1000001 : Int32)
theorem m_ifd (H : MI σ) (hm : MD σ V n Hs t Tx) (hw : WF 9999 V) {x : Int32} (hK : ∀ τ, FrM σ τ → MD τ V n Hs t Tx → K (qIfd V x) τ) : cI E 149 [.ref 179, .int x] σ K := by
  have hK0 := hK σ (FrM.id σ) hm
  unfold qIfd at hK hK0
  refine sg149_0 (r_in ⟨fun g => ⟨shM H, _, rM0 H, shM H, _, rM1 H, ?_⟩, fun g => ?_⟩)
  · rw [if_pos (bI_1 g)] at hK
    obtain ⟨x1, x2, ex⟩ := inRg_n (by decide) (by decide) (bI_1 g)
    refine r_cp (by decide) (shV H) (sh181 H) (by decide) (by decide) (by decide) (by decide) ?_
    have Ha : MI (asd σ) := asd_f.mi H
    have ha := asd_m hm
    have ea := mS_e ha
    refine ⟨shM Ha, ?_⟩
    have h : cI E 121 [.ref 179, .int (nI (toN x))] (mS (asd σ) V) (fun x7 s6 => sh s6 179 6 15 ∧ ∃ r8, rf s6 179 1 r8 ∧ sh s6 179 6 15 ∧ ∃ r9, rf s6 179 0 r9 ∧ cV E 93 [.ref r8, .int (nI 0), .ref r9, .int (nI 0)] s6 (fun s10 => QI K (some (.int x7)) s10)) :=
      r_dys Ha hw (by omega) fun f => ⟨shM Ha, _, rM1 Ha, shM Ha, _, rM0 Ha, r_back Ha ha (fun k hk => asd_v hm hk) fun ρ hf hm2 => hK ρ (asd_f.tr hf) hm2⟩
    rw [ea, ← ex] at h
    exact h
  · rw [if_neg (by rw [bI_2 g]; decide)] at hK0
    exact hK0
end REF14
end
section
/-! the reference: count, the text's characters -/
section REF15
variable {E : AEnv} {σ τ : ASt} {V : Nat → Nat} {m n t : Nat} {Hs : Nat → Nat → Nat} {Tx : Nat → Nat} {Q : Option Value → ASt → Prop} {K : Int32 → ASt → Prop} {KV : ASt → Prop}
def qCnt (V : Nat → Nat) (n t : Nat) (x : Int32) : Int32 :=
  if x = nI 0 then nI (V 0) else
  if x = nI 1 then nI (V 1) else
  if x = nI 2 then nI (V 2) else
  if x = nI 3 then nI (reachV V 0 99) else
  if x = nI 4 then nI (setN (isSt V 0) (V 2)) else
  if x = nI 5 then nI (setN (isSt V 1) (V 2)) else
  if x = nI 6 then nI (setN (isSt V 2) (V 2)) else
  if x = nI 7 then nI (setN (isNd V) (V 2)) else
  if x = nI 8 then nI (grN V (V 1)) else
  if x = nI 9 then nI (grN V (V 1)) else
  if x = nI 10 then nI (V 3 - pcV V) else
  if x = nI 11 then nI (smN V 2 (V 1)) else
  if x = nI 12 then nI (mxN V 3 (V 1)) else
  if x = nI 13 then nI (V 11) else
  if x = nI 14 then nI (V 12) else
  if x = nI 15 then nI (V 13) else
  if x = nI 16 then nI (V 14) else
  if x = nI 17 then nI (V 15) else
  if x = nI 18 then nI n else
  if x = nI 19 then nI t else
  if inRg x (nI 20) (nI 27) = true then nI (V (toN x - 17)) else (-1000001 : Int32)
theorem m_cnt (H : MI σ) (hm : MD σ V n Hs t Tx) (hw : WF 9999 V) {x : Int32} (hK : K (qCnt V n t x) σ) : cI E 155 [.ref 179, .int x] σ K := by
  have es := mS_e hm
  have h1 := hw.1
  unfold W1 at h1
  have h2 := hw.2.1
  unfold W2 at h2
  have hp := pcV_le hw
  have k4 : gI (mS σ V) 179 4 = nI n := by rw [es]; exact hm.2.1
  have k6 : gI (mS σ V) 179 6 = nI t := by rw [es]; exact hm.2.2.2.2.1
  unfold qCnt at hK
  rw [← es] at hK ⊢
  refine sg155_0 ⟨fun g => ?_, fun g0 => ⟨fun g => ?_, fun g1 => ⟨fun g => ?_, fun g2 => ⟨fun g => ?_, fun g3 => ⟨fun g => ?_, fun g4 => ⟨fun g => ?_, fun g5 => ⟨fun g => ?_, fun g6 => ⟨fun g => ?_, fun g7 => ⟨fun g => ?_, fun g8 => ⟨fun g => ?_, fun g9 => ⟨fun g => ?_, fun g10 => ⟨fun g => ?_, fun g11 => ⟨fun g => ?_, fun g12 => ⟨fun g => ?_, fun g13 => ⟨fun g => ?_, fun g14 => ⟨fun g => ?_, fun g15 => ⟨fun g => ?_, fun g16 => ⟨fun g => ?_, fun g17 => ⟨fun g => ?_, fun g18 => ⟨fun g => ?_, fun g19 => r_in ⟨fun g => ?_, fun g => ⟨shM H, _, rM0 H, 184, shV H, ?_⟩⟩⟩⟩⟩⟩⟩⟩⟩⟩⟩⟩⟩⟩⟩⟩⟩⟩⟩⟩⟩⟩
  · rw [if_pos g] at hK
    rw [g]
    refine ⟨shM H, _, rM0 H, 184, shV H, vi (by decide) (by decide), ?_⟩
    rw [cl _ (by decide), mS_get (by decide)]; exact hK
  · rw [if_neg g0, if_pos g] at hK
    rw [g]
    refine ⟨shM H, _, rM0 H, 184, shV H, vi (by decide) (by decide), ?_⟩
    rw [cl _ (by decide), mS_get (by decide)]; exact hK
  · rw [if_neg g0, if_neg g1, if_pos g] at hK
    rw [g]
    refine ⟨shM H, _, rM0 H, 184, shV H, vi (by decide) (by decide), ?_⟩
    rw [cl _ (by decide), mS_get (by decide)]; exact hK
  · rw [if_neg g0, if_neg g1, if_neg g2, if_pos g] at hK
    exact ⟨shM H, r_reach H hw (by decide) woI_n hK⟩
  · rw [if_neg g0, if_neg g1, if_neg g2, if_neg g3, if_pos g] at hK
    rw [g, pk_sub (by decide)]
    exact ⟨shM H, r_st H hw (by decide) hK⟩
  · rw [if_neg g0, if_neg g1, if_neg g2, if_neg g3, if_neg g4, if_pos g] at hK
    rw [g, pk_sub (by decide)]
    exact ⟨shM H, r_st H hw (by decide) hK⟩
  · rw [if_neg g0, if_neg g1, if_neg g2, if_neg g3, if_neg g4, if_neg g5, if_pos g] at hK
    rw [g, pk_sub (by decide)]
    exact ⟨shM H, r_st H hw (by decide) hK⟩
  · rw [if_neg g0, if_neg g1, if_neg g2, if_neg g3, if_neg g4, if_neg g5, if_neg g6, if_pos g] at hK
    exact ⟨shM H, r_nd H hw hK⟩
  · rw [if_neg g0, if_neg g1, if_neg g2, if_neg g3, if_neg g4, if_neg g5, if_neg g6, if_neg g7, if_pos g] at hK
    exact ⟨shM H, r_gr H hw hK⟩
  · rw [if_neg g0, if_neg g1, if_neg g2, if_neg g3, if_neg g4, if_neg g5, if_neg g6, if_neg g7, if_neg g8, if_pos g] at hK
    exact ⟨shM H, r_gr H hw hK⟩
  · rw [if_neg g0, if_neg g1, if_neg g2, if_neg g3, if_neg g4, if_neg g5, if_neg g6, if_neg g7, if_neg g8, if_neg g9, if_pos g] at hK
    refine ⟨shM H, _, rM0 H, 184, shV H, vi (by decide) (by decide), shM H, r_pc H hw ?_⟩
    rw [mS_get (by decide)]
    have e := nI_leI (a := V 3) (b := pcV V) (by omega) (by omega)
    refine ⟨fun h => ?_, fun h => ⟨shM H, _, rM0 H, 184, shV H, vi (by decide) (by decide), shM H, r_pc H hw ?_⟩⟩
    · rw [show V 3 - pcV V = 0 by have := e.mp h; omega] at hK
      exact hK
    · rw [mS_get (by decide), pk_sub (by have : ¬ V 3 ≤ pcV V := fun z => h (e.mpr z); omega)]
      exact hK
  · rw [if_neg g0, if_neg g1, if_neg g2, if_neg g3, if_neg g4, if_neg g5, if_neg g6, if_neg g7, if_neg g8, if_neg g9, if_neg g10, if_pos g] at hK
    exact ⟨shM H, r_sm H hw (by decide) hK⟩
  · rw [if_neg g0, if_neg g1, if_neg g2, if_neg g3, if_neg g4, if_neg g5, if_neg g6, if_neg g7, if_neg g8, if_neg g9, if_neg g10, if_neg g11, if_pos g] at hK
    exact ⟨shM H, r_mx H hw hK⟩
  · rw [if_neg g0, if_neg g1, if_neg g2, if_neg g3, if_neg g4, if_neg g5, if_neg g6, if_neg g7, if_neg g8, if_neg g9, if_neg g10, if_neg g11, if_neg g12, if_pos g] at hK
    rw [g, nI_add, pk_sub (by decide)]
    refine ⟨shM H, _, rM0 H, 184, shV H, vi (by decide) (by decide), ?_⟩
    rw [cl _ (by decide), mS_get (by decide)]; exact hK
  · rw [if_neg g0, if_neg g1, if_neg g2, if_neg g3, if_neg g4, if_neg g5, if_neg g6, if_neg g7, if_neg g8, if_neg g9, if_neg g10, if_neg g11, if_neg g12, if_neg g13, if_pos g] at hK
    rw [g, nI_add, pk_sub (by decide)]
    refine ⟨shM H, _, rM0 H, 184, shV H, vi (by decide) (by decide), ?_⟩
    rw [cl _ (by decide), mS_get (by decide)]; exact hK
  · rw [if_neg g0, if_neg g1, if_neg g2, if_neg g3, if_neg g4, if_neg g5, if_neg g6, if_neg g7, if_neg g8, if_neg g9, if_neg g10, if_neg g11, if_neg g12, if_neg g13, if_neg g14, if_pos g] at hK
    rw [g, nI_add, pk_sub (by decide)]
    refine ⟨shM H, _, rM0 H, 184, shV H, vi (by decide) (by decide), ?_⟩
    rw [cl _ (by decide), mS_get (by decide)]; exact hK
  · rw [if_neg g0, if_neg g1, if_neg g2, if_neg g3, if_neg g4, if_neg g5, if_neg g6, if_neg g7, if_neg g8, if_neg g9, if_neg g10, if_neg g11, if_neg g12, if_neg g13, if_neg g14, if_neg g15, if_pos g] at hK
    rw [g, nI_add, pk_sub (by decide)]
    refine ⟨shM H, _, rM0 H, 184, shV H, vi (by decide) (by decide), ?_⟩
    rw [cl _ (by decide), mS_get (by decide)]; exact hK
  · rw [if_neg g0, if_neg g1, if_neg g2, if_neg g3, if_neg g4, if_neg g5, if_neg g6, if_neg g7, if_neg g8, if_neg g9, if_neg g10, if_neg g11, if_neg g12, if_neg g13, if_neg g14, if_neg g15, if_neg g16, if_pos g] at hK
    rw [g, nI_add, pk_sub (by decide)]
    refine ⟨shM H, _, rM0 H, 184, shV H, vi (by decide) (by decide), ?_⟩
    rw [cl _ (by decide), mS_get (by decide)]; exact hK
  · rw [if_neg g0, if_neg g1, if_neg g2, if_neg g3, if_neg g4, if_neg g5, if_neg g6, if_neg g7, if_neg g8, if_neg g9, if_neg g10, if_neg g11, if_neg g12, if_neg g13, if_neg g14, if_neg g15, if_neg g16, if_neg g17, if_pos g] at hK
    refine ⟨shM H, ?_⟩
    rw [k4]; exact hK
  · rw [if_neg g0, if_neg g1, if_neg g2, if_neg g3, if_neg g4, if_neg g5, if_neg g6, if_neg g7, if_neg g8, if_neg g9, if_neg g10, if_neg g11, if_neg g12, if_neg g13, if_neg g14, if_neg g15, if_neg g16, if_neg g17, if_neg g18, if_pos g] at hK
    refine ⟨shM H, ?_⟩
    rw [k6]; exact hK
  · rw [if_neg g0, if_neg g1, if_neg g2, if_neg g3, if_neg g4, if_neg g5, if_neg g6, if_neg g7, if_neg g8, if_neg g9, if_neg g10, if_neg g11, if_neg g12, if_neg g13, if_neg g14, if_neg g15, if_neg g16, if_neg g17, if_neg g18, if_neg g19, if_neg (bI_3 g)] at hK
    exact hK
  · rw [if_neg g0, if_neg g1, if_neg g2, if_neg g3, if_neg g4, if_neg g5, if_neg g6, if_neg g7, if_neg g8, if_neg g9, if_neg g10, if_neg g11, if_neg g12, if_neg g13, if_neg g14, if_neg g15, if_neg g16, if_neg g17, if_neg g18, if_neg g19, if_pos (bI_1 g)] at hK
    obtain ⟨x1, x2, ex⟩ := inRg_n (by decide) (by decide) (bI_1 g)
    have e : nI 3 + x - nI 20 = nI (toN x - 17) := by
      have e1 : 3 + toN x - 20 = toN x - 17 := by omega
      rw [ex, nI_add, pk_sub (by omega), e1, toN_nI (by omega)]
    rw [e, cl _ (by omega), mS_get (by omega)]
    exact ⟨vi (by omega) (by decide), hK⟩
def qTyp (t : Nat) (x : Int32) : Int32 := if inRg x (nI 32) (nI 126) = true then (if t = 60 then (-1000003 : Int32) else nI (t + 1)) else (-1000001 : Int32)
def nTyp (t : Nat) (x : Int32) : Nat := if inRg x (nI 32) (nI 126) = true then (if t = 60 then t else t + 1) else t
def fTyp (t : Nat) (Tx : Nat → Nat) (x : Int32) : Nat → Nat := if inRg x (nI 32) (nI 126) = true then (if t = 60 then Tx else upN Tx t (toN x)) else Tx
theorem m_typ (H : MI σ) (hm : MD σ V n Hs t Tx) {x : Int32} (hK : ∀ τ, FrM σ τ → MD τ V n Hs (nTyp t x) (fTyp t Tx x) → K (qTyp t x) τ) : cI E 156 [.ref 179, .int x] σ K := by
  unfold nTyp fTyp qTyp at hK
  have e60 := nI_eq (a := t) (b := 60) (by have := hm.2.2.2.2.2.1; omega) (by decide)
  refine sg156_0 (r_in ⟨fun g => ⟨shM H, fun g2 => ⟨shM H, _, rM5 H, shM H, ?_⟩, fun g2 => ?_⟩, fun g => ?_⟩)
  · rw [if_pos (bI_1 g), if_pos (bI_1 g), if_pos (bI_1 g)] at hK
    obtain ⟨x1, x2, ex⟩ := inRg_n (by decide) (by decide) (bI_1 g)
    obtain ⟨h1, h2, h3, h4, h5, h6, h7⟩ := hm
    rw [h5] at g2 ⊢
    have ht : t ≠ 60 := fun z => g2 (e60.mpr z)
    rw [if_neg ht, if_neg ht, if_neg ht] at hK
    rw [cl _ (by omega)]
    refine ⟨60, sh184 H, vi (by omega) (by decide), nw_i ⟨shM H, shM H, ?_⟩⟩
    rw [wr_c (by decide), h5, nI_add]
    refine nw_i ⟨shM H, ?_⟩
    rw [wr_s]
    refine hK _ ((FrM.wr (by decide)).tr (FrM.wr (by decide))) ⟨fun k hk => ?_, ?_, h3, fun j hj k hk => ?_, ?_, by omega, fun j hj => ?_⟩
    · rw [wr_c (by decide), wr_c (by decide)]; exact h1 k hk
    · rw [wr_k (by decide), wr_c (by decide)]; exact h2
    · rw [wr_c (by decide), wr_c (by decide)]; exact h4 j hj k hk
    · rw [wr_s]
    · rw [wr_c (by decide)]
      by_cases hjt : j = t
      · rw [hjt, wr_s, upN_s]; exact ex
      · rw [wr_k hjt, upN_n hjt]; exact h7 j (by omega)
  · rw [if_pos (bI_1 g), if_pos (bI_1 g), if_pos (bI_1 g)] at hK
    rw [hm.2.2.2.2.1] at g2
    have ht := e60.mp (Classical.not_not.mp g2)
    rw [if_pos ht, if_pos ht, if_pos ht] at hK
    exact hK σ (FrM.id σ) hm
  · have g3 : ¬ inRg x (nI 32) (nI 126) = true := by rw [bI_2 g]; decide
    rw [if_neg g3, if_neg g3, if_neg g3] at hK
    exact hK σ (FrM.id σ) hm
theorem m_clr (H : MI σ) (hm : MD σ V n Hs t Tx) (hK : ∀ τ, FrM σ τ → MD τ V n Hs 0 Tx → K (nI t) τ) : cI E 157 [.ref 179] σ K := by
  obtain ⟨h1, h2, h3, h4, h5, h6, h7⟩ := hm
  refine sg157_0 ⟨shM H, shM H, nw_i ?_⟩
  rw [h5]
  refine hK _ (FrM.wr (by decide)) ⟨fun k hk => ?_, ?_, h3, fun j hj k hk => ?_, ?_, by omega, fun j hj => absurd hj (Nat.not_lt_zero _)⟩
  · rw [wr_c (by decide)]; exact h1 k hk
  · rw [wr_k (by decide)]; exact h2
  · rw [wr_c (by decide)]; exact h4 j hj k hk
  · rw [wr_s]
end REF15
end
section
/-! the reference reads its text -/
section REF16
variable {E : AEnv} {σ τ : ASt} {V : Nat → Nat} {m n t : Nat} {Tx : Nat → Nat} {P T f : Nat → Int32} {Q : Option Value → ASt → Prop} {K : Int32 → ASt → Prop} {KV : ASt → Prop}
/-- the reference's own fields are P, its numbers T -/
def tS (σ : ASt) (P T : Nat → Int32) : ASt := (σ.1, (fun q => if q = 179 then P else if q = 186 then T else σ.2.1 q), σ.2.2)
def nS (σ : ASt) (P T f : Nat → Int32) (V : Nat → Nat) : ASt := mS (s5 (tS σ P T) f) V
theorem n_p {k : Nat} : gI (nS σ P T f V) 179 k = P k := by
  unfold nS
  rw [mS_ne (by decide)]
  rfl
theorem n_t {k : Nat} : gI (nS σ P T f V) 186 k = T k := by
  unfold nS
  rw [mS_ne (by decide)]
  rfl
theorem n_x {k : Nat} : gI (nS σ P T f V) 184 k = gI σ 184 k := by
  unfold nS
  rw [mS_ne (by decide)]
  rfl
theorem n_wp {k : Nat} {x : Int32} : wrI (nS σ P T f V) 179 k x = nS σ (upd P k x) T f V := by
  unfold nS
  rw [mS_wr (by decide)]
  congr 1
  unfold wrI s5 tS
  dsimp only
  congr 2
  funext q
  by_cases hq : q = 179
  · subst hq
    rfl
  · rw [if_neg hq]
    by_cases h5 : q = 185
    · rw [if_pos h5, if_pos h5]
    · rw [if_neg h5, if_neg h5, if_neg hq, if_neg hq]
theorem n_wt {k : Nat} {x : Int32} : wrI (nS σ P T f V) 186 k x = nS σ P (upd T k x) f V := by
  unfold nS
  rw [mS_wr (by decide)]
  congr 1
  unfold wrI s5 tS
  dsimp only
  congr 2
  funext q
  by_cases hq : q = 186
  · subst hq
    rfl
  · rw [if_neg hq]
    by_cases h5 : q = 185
    · rw [if_pos h5, if_pos h5]
    · rw [if_neg h5, if_neg h5]
      by_cases h9 : q = 179
      · rw [if_pos h9, if_pos h9]
      · rw [if_neg h9, if_neg h9, if_neg hq, if_neg hq]
theorem upd_s {P : Nat → Int32} {k : Nat} {x : Int32} : upd P k x k = x := if_pos rfl
theorem upd_n {P : Nat → Int32} {k j : Nat} {x : Int32} (h : j ≠ k) : upd P k x j = P j := if_neg h
def hre (t : Nat) (Tx : Nat → Nat) (sp : Nat) : Nat := if t ≤ sp then 0 else Tx sp
theorem hre_lt (hTx : ∀ j, j < t → Tx j ≤ 126) (sp : Nat) : hre t Tx sp ≤ 126 := by
  unfold hre
  split
  · omega
  · exact hTx sp (by omega)
theorem r_here (H : MI σ) (ht : t ≤ 60) (hx : ∀ j, j < t → gI σ 184 j = nI (Tx j)) {sp : Nat} (hs : sp < 2 ^ 31) (h6 : P 6 = nI t) (h8 : P 8 = nI sp) (hK : K (nI (hre t Tx sp)) (nS σ P T f V)) : cI E 158 [.ref 179] (nS σ P T f V) K := by
  have e := nI_leI (a := t) (b := sp) (by omega) hs
  unfold hre at hK
  refine sg158_0 ⟨shM H, shM H, ?_⟩
  rw [n_p, n_p, h6, h8]
  refine ⟨fun g => ?_, fun g => ⟨shM H, _, rM5 H, shM H, ?_⟩⟩
  · rw [if_pos (e.mp g)] at hK; exact hK
  · have g2 : ¬ t ≤ sp := fun z => g (e.mpr z)
    rw [if_neg g2] at hK
    rw [cl _ hs, n_x, hx sp (by omega)]
    exact ⟨60, sh184 H, vi (by omega) (by decide), hK⟩
/-- the same fields, spot and isForm aside -/
def PR (P P' : Nat → Int32) (sp : Nat) (fm : Bool) : Prop := P' 8 = nI sp ∧ P' 10 = bI fm ∧ ∀ k, k ≠ 8 → k ≠ 10 → P' k = P k
theorem r_tak (H : MI σ) {sp : Nat} {fm may : Bool} (h8 : P 8 = nI sp) (h10 : P 10 = bI fm) (hK : ∀ P', PR P P' (sp + if (fm && may) = true then 1 else 0) (fm && may) → KV (nS σ P' T f V)) : cV E 159 [.ref 179, .int (bI may)] (nS σ P T f V) KV := by
  have fin0 : (fm && may) = false → ∀ s, s = nS σ (upd P 10 (nI 0)) T f V → (sh s 179 6 15 ∧ sh s 179 6 15 ∧ ((gI s 179 10) = (nI 0) → sh s 179 6 15 ∧ nw (wrI s 179 8 ((gI s 179 8) + (nI 0))) (fun s2 => QV KV none s2)) ∧ (¬ (gI s 179 10) = (nI 0) → sh s 179 6 15 ∧ nw (wrI s 179 8 ((gI s 179 8) + (nI 1))) (fun s3 => QV KV none s3))) := by
    intro hf s hs
    subst hs
    refine ⟨shM H, shM H, fun _ => ⟨shM H, ?_⟩, fun z => absurd (by rw [n_p, upd_s]) z⟩
    rw [n_p, upd_n (by decide), h8, nI_add]
    refine nw_e n_wp (hK _ ⟨?_, ?_, fun k h1 h2 => ?_⟩)
    · rw [upd_s, hf]; rfl
    · rw [upd_n (by decide), upd_s, hf]; rfl
    · rw [upd_n h1, upd_n h2]
  refine sg159_0 ⟨shM H, ?_⟩
  rw [n_p, h10]
  refine ⟨fun g => ⟨shM H, fb0, ?_⟩, fun g => ⟨fun g2 => ⟨shM H, fb0, ?_⟩, fun g2 => ⟨shM H, fb1, ?_⟩⟩⟩
  · exact nw_e n_wp (fin0 (by rw [(bI_0 _).mp g]; rfl) _ rfl)
  · exact nw_e n_wp (fin0 (by rw [(bI_0 _).mp g2]; cases fm <;> rfl) _ rfl)
  · refine nw_e n_wp ⟨shM H, shM H, fun z => ?_, fun _ => ⟨shM H, ?_⟩⟩
    · rw [n_p, upd_s] at z
      exact absurd z (by decide)
    · have hf : (fm && may) = true := by rw [bI_1 g, bI_1 g2]; rfl
      rw [n_p, upd_n (by decide), h8, nI_add]
      refine nw_e n_wp (hK _ ⟨?_, ?_, fun k h1 h2 => ?_⟩)
      · rw [upd_s, hf]; rfl
      · rw [upd_n (by decide), upd_s, hf]; rfl
      · rw [upd_n h1, upd_n h2]
/-- digits from a place on: value, how many, the place behind -/
def pN (t : Nat) (Tx : Nat → Nat) : Nat → Nat → Nat → Nat → Nat × Nat × Nat
  | 0, v, c, sp => (v, c, sp)
  | d + 1, v, c, sp => if 48 ≤ hre t Tx sp ∧ hre t Tx sp ≤ 57 then pN t Tx d (10 * v + hre t Tx sp - 48) (c + 1) (sp + 1) else (v, c, sp)
theorem rM12 (H : MI σ) : rf σ 179 12 186 := H.rf (by decide +kernel)
theorem sh186 (H : MI σ) : sh σ 186 10 3 := H.sh rfl
theorem r_nmL (H : MI σ) (ht : t ≤ 60) (hTx : ∀ j, j < t → Tx j ≤ 126) (hx : ∀ j, j < t → gI σ 184 j = nI (Tx j)) {w : Nat} (hw : w < 3) {R : Nat × Nat × Nat} (h6 : P 6 = nI t)
    (hK : ∀ P' T', PR P P' R.2.2 (Nat.blt 0 R.2.1) → T' w = nI R.1 → (∀ j, j ≠ w → T' j = T j) → Q none (nS σ P' T' f V)) :
    ∀ (d v c sp : Nat) (P1 : Nat → Int32), c + d = 3 → sp ≤ 1000 + c → (∀ k, k ≠ 8 → k ≠ 10 → P1 k = P k) → P1 8 = nI sp → P1 10 = nI 1 → pN t Tx d v c sp = R → wp E 160 4 [.ref 179, .int (nI w), .int (nI v), .int (nI c)] [] (nS σ P1 T f V) Q := by
  intro d
  induction d with
  | zero =>
    intro v c sp P1 hc hsp hP h8 h10 hR
    obtain rfl : c = 3 := by omega
    rw [pN] at hR
    subst hR
    refine sg160_4 ⟨shM H, ?_⟩
    rw [n_p, h10]
    refine ⟨fun z => absurd z (by decide), fun _ => ⟨fun _ => ⟨shM H, ?_⟩, fun z => absurd (nI_le (by decide) (by decide)) z⟩⟩
    refine ⟨fun z => absurd z (by decide), fun _ => ⟨fun z => absurd z (by decide), fun _ => ⟨shM H, fb1, nw_e n_wp ⟨shM H, _, rM12 H, 3, sh186 H, vi hw (by decide), ?_⟩⟩⟩⟩
    rw [cl _ (by omega)]
    refine nw_e n_wt (hK _ _ ⟨?_, ?_, fun k h1 h2 => ?_⟩ upd_s fun j hj => upd_n hj)
    · rw [upd_n (by decide)]; exact h8
    · exact upd_s
    · rw [upd_n h2]; exact hP k h1 h2
  | succ d ih =>
    intro v c sp P1 hc hsp hP h8 h10 hR
    have h6' : P1 6 = nI t := (hP 6 (by decide) (by decide)).trans h6
    have hl := hre_lt hTx sp
    have ec := nI_leI (a := c) (b := 0) (by omega) (by decide)
    rw [pN] at hR
    refine sg160_4 ⟨shM H, ?_⟩
    rw [n_p, h10]
    refine ⟨fun z => absurd z (by decide), fun _ => ⟨fun z => absurd z (nI_ge (by omega) (by omega)), fun _ => ⟨shM H, r_here H ht hx (by omega) h6' h8 (r_in ⟨fun g => ⟨shM H, ?_⟩, fun g => ⟨shM H, r_here H ht hx (by omega) h6' h8 ⟨shM H, shM H, ?_⟩⟩⟩)⟩⟩⟩
    · have hno : ¬ (48 ≤ hre t Tx sp ∧ hre t Tx sp ≤ 57) := fun z => bI_3 g ((inRg_nn (by decide) (by decide)).mpr ⟨_, z.1, z.2, rfl⟩)
      rw [if_neg hno] at hR
      subst hR
      rw [n_p, h10]
      refine ⟨fun z => absurd z (by decide), fun _ => ⟨fun z => ⟨shM H, fb0, nw_e n_wp ⟨shM H, _, rM12 H, 3, sh186 H, vi hw (by decide), ?_⟩⟩, fun z => ⟨shM H, fb1, nw_e n_wp ⟨shM H, _, rM12 H, 3, sh186 H, vi hw (by decide), ?_⟩⟩⟩⟩
      · rw [cl _ (by omega)]
        have hc0 : c = 0 := by have := ec.mp z; omega
        refine nw_e n_wt (hK _ _ ⟨?_, ?_, fun k h1 h2 => ?_⟩ upd_s fun j hj => upd_n hj)
        · rw [upd_n (by decide)]; exact h8
        · rw [upd_s]; subst hc0; rfl
        · rw [upd_n h2]; exact hP k h1 h2
      · rw [cl _ (by omega)]
        have hc0 : Nat.blt 0 c = true := by
          simp only [Nat.blt_eq]
          have : ¬ c ≤ 0 := fun y => z (ec.mpr y)
          omega
        refine nw_e n_wt (hK _ _ ⟨?_, ?_, fun k h1 h2 => ?_⟩ upd_s fun j hj => upd_n hj)
        · rw [upd_n (by decide)]; exact h8
        · rw [upd_s]; dsimp only; rw [hc0]; rfl
        · rw [upd_n h2]; exact hP k h1 h2
    · obtain ⟨g1, g2, _⟩ := inRg_n (by decide) (by decide) (bI_1 g)
      rw [toN_nI (by omega)] at g1 g2
      rw [if_pos ⟨g1, g2⟩] at hR
      rw [n_p, h8, nI_add, pk_mul, nI_add, pk_sub (by omega), nI_add]
      exact nw_e n_wp (ih _ _ _ _ (by omega) (by omega) (fun k h1 h2 => by rw [upd_n h1]; exact hP k h1 h2) upd_s (by rw [upd_n (by decide)]; exact h10) hR)
def nmR (t : Nat) (Tx : Nat → Nat) (fm : Bool) (sp : Nat) : Nat × Nat × Nat := if fm = true then pN t Tx 3 0 0 sp else (0, 0, sp)
theorem r_num (H : MI σ) (ht : t ≤ 60) (hTx : ∀ j, j < t → Tx j ≤ 126) (hx : ∀ j, j < t → gI σ 184 j = nI (Tx j)) {w sp : Nat} {fm : Bool} (hw : w < 3) (hs : sp ≤ 1000) (h6 : P 6 = nI t) (h8 : P 8 = nI sp) (h10 : P 10 = bI fm)
    (hK : ∀ P' T', PR P P' (nmR t Tx fm sp).2.2 (fm && Nat.blt 0 (nmR t Tx fm sp).2.1) → T' w = nI (nmR t Tx fm sp).1 → (∀ j, j ≠ w → T' j = T j) → KV (nS σ P' T' f V)) : cV E 160 [.ref 179, .int (nI w)] (nS σ P T f V) KV := by
  refine sg160_0 ?_
  cases fm with
  | true => exact r_nmL (Q := QV KV) H ht hTx hx hw h6 hK 3 0 0 sp P rfl (by omega) (fun _ _ _ => rfl) h8 h10 rfl
  | false =>
    refine sg160_4 ⟨shM H, ?_⟩
    rw [n_p, h10]
    refine ⟨fun _ => ⟨shM H, fun _ => ⟨shM H, fb0, nw_e n_wp ⟨shM H, _, rM12 H, 3, sh186 H, vi hw (by decide), ?_⟩⟩, fun z => absurd rfl z⟩, fun z => absurd rfl z⟩
    rw [cl _ (by omega)]
    refine nw_e n_wt (hK _ _ ⟨?_, ?_, fun k h1 h2 => ?_⟩ upd_s fun j hj => upd_n hj)
    · rw [upd_n (by decide)]; exact h8
    · exact upd_s
    · rw [upd_n h2]
end REF16
end
section
/-! the reference reads an order -/
section REF17
variable {E : AEnv} {σ τ : ASt} {V : Nat → Nat} {m n t : Nat} {Tx : Nat → Nat} {P T f : Nat → Int32} {Q : Option Value → ASt → Prop} {K : Int32 → ASt → Prop} {KV : ASt → Prop}
def lgl (l : Nat) : Bool := Nat.beq l 105 || Nat.beq l 98 || Nat.beq l 115 || Nat.beq l 102 || Nat.beq l 114 || Nat.beq l 112 || Nat.beq l 100
def cntL (l : Nat) : Nat := if l = 98 then 3 else 1
def stg (t : Nat) (Tx : Nat → Nat) (k : Nat) (s : Bool × Nat × (Nat → Nat)) : Bool × Nat × (Nat → Nat) :=
  ((if k = 0 then s.1 else s.1 && Nat.beq (hre t Tx s.2.1) 44) && Nat.blt 0 (nmR t Tx (if k = 0 then s.1 else s.1 && Nat.beq (hre t Tx s.2.1) 44) (if k = 0 then s.2.1 else s.2.1 + if (s.1 && Nat.beq (hre t Tx s.2.1) 44) = true then 1 else 0)).2.1,
   (nmR t Tx (if k = 0 then s.1 else s.1 && Nat.beq (hre t Tx s.2.1) 44) (if k = 0 then s.2.1 else s.2.1 + if (s.1 && Nat.beq (hre t Tx s.2.1) 44) = true then 1 else 0)).2.2,
   upN s.2.2 k (nmR t Tx (if k = 0 then s.1 else s.1 && Nat.beq (hre t Tx s.2.1) 44) (if k = 0 then s.2.1 else s.2.1 + if (s.1 && Nat.beq (hre t Tx s.2.1) 44) = true then 1 else 0)).1)
def stgs (t : Nat) (Tx : Nat → Nat) (s : Bool × Nat × (Nat → Nat)) : Nat → Bool × Nat × (Nat → Nat)
  | 0 => s
  | k + 1 => stg t Tx k (stgs t Tx s k)
def stg0 (t : Nat) (Tx : Nat → Nat) (sp : Nat) : Bool × Nat × (Nat → Nat) := (lgl (hre t Tx sp), sp + (if lgl (hre t Tx sp) = true then 1 else 0), fun _ => 0)
def stgE (t : Nat) (Tx : Nat → Nat) (sp : Nat) : Bool × Nat × (Nat → Nat) := stgs t Tx (stg0 t Tx sp) (cntL (hre t Tx sp))
def ordF (t : Nat) (Tx : Nat → Nat) (sp : Nat) : Bool := (stgE t Tx sp).1 && Nat.beq (hre t Tx (stgE t Tx sp).2.1) 59
def ordP (t : Nat) (Tx : Nat → Nat) (sp : Nat) : Nat := (stgE t Tx sp).2.1 + (if ordF t Tx sp = true then 1 else 0)
def ordN (t : Nat) (Tx : Nat → Nat) (sp : Nat) : Nat → Nat := (stgE t Tx sp).2.2
theorem pN_le : ∀ (d v c sp : Nat), (pN t Tx d v c sp).2.2 ≤ sp + d
  | 0, _, _, sp => Nat.le_refl _
  | d + 1, v, c, sp => by
    rw [pN]
    have := pN_le d (10 * v + hre t Tx sp - 48) (c + 1) (sp + 1)
    split
    · omega
    · dsimp only; omega
theorem nmR_le {fm : Bool} {sp : Nat} : (nmR t Tx fm sp).2.2 ≤ sp + 3 := by
  unfold nmR
  split
  · exact pN_le 3 0 0 sp
  · dsimp only; omega
theorem stg_le {k : Nat} {s : Bool × Nat × (Nat → Nat)} : (stg t Tx k s).2.1 ≤ s.2.1 + 4 := by
  unfold stg
  dsimp only
  refine Nat.le_trans nmR_le ?_
  repeat' split
  all_goals omega
theorem stgs_le {s : Bool × Nat × (Nat → Nat)} : ∀ k, (stgs t Tx s k).2.1 ≤ s.2.1 + 4 * k
  | 0 => Nat.le_refl _
  | k + 1 => by
    have h1 := stgs_le (s := s) k
    have h2 := stg_le (t := t) (Tx := Tx) (k := k) (s := stgs t Tx s k)
    rw [stgs]
    omega
/-- before stage k -/
def PS (P P' T' : Nat → Int32) (sp l k : Nat) (s : Bool × Nat × (Nat → Nat)) : Prop := P' 8 = nI s.2.1 ∧ P' 9 = nI sp ∧ P' 10 = bI s.1 ∧ P' 11 = nI l ∧ (∀ j, j ≠ 8 → j ≠ 9 → j ≠ 10 → j ≠ 11 → P' j = P j) ∧ ∀ j, j < k → T' j = nI (s.2.2 j)
theorem r_oL (H : MI σ) (ht : t ≤ 60) (hTx : ∀ j, j < t → Tx j ≤ 126) (hx : ∀ j, j < t → gI σ 184 j = nI (Tx j)) {sp : Nat} (hsp : sp < t) (h6 : P 6 = nI t)
    (hK : ∀ P' T', PS P P' T' sp (hre t Tx sp) (cntL (hre t Tx sp)) (ordF t Tx sp, ordP t Tx sp, ordN t Tx sp) → Q none (nS σ P' T' f V)) :
    ∀ (d k : Nat) (P' T' : Nat → Int32), k + d = cntL (hre t Tx sp) → PS P P' T' sp (hre t Tx sp) k (stgs t Tx (stg0 t Tx sp) k) → wp E 161 95 [.ref 179, .int (nI k)] [] (nS σ P' T' f V) Q := by
  have hl := hre_lt hTx sp
  have hl98 := nI_eq (a := hre t Tx sp) (b := 98) (by omega) (by decide)
  have hc3 : cntL (hre t Tx sp) ≤ 3 := by unfold cntL; split <;> omega
  have hs0 : (stg0 t Tx sp).2.1 ≤ sp + 1 := by unfold stg0; dsimp only; split <;> omega
  intro d
  induction d with
  | zero =>
    intro k P' T' hk hP
    obtain rfl : k = cntL (hre t Tx sp) := by omega
    have hle := stgs_le (t := t) (Tx := Tx) (s := stg0 t Tx sp) (cntL (hre t Tx sp))
    obtain ⟨q8, q9, q10, q11, qo, qt⟩ := hP
    have q6 : P' 6 = nI t := (qo 6 (by decide) (by decide) (by decide) (by decide)).trans h6
    have hh := hre_lt hTx (stgE t Tx sp).2.1
    have e59 := nI_eq (a := hre t Tx (stgE t Tx sp).2.1) (b := 59) (by omega) (by decide)
    have fin : (sh (nS σ P' T' f V) 179 6 15 ∧ cI E 158 [.ref 179] (nS σ P' T' f V) (fun x2 s1 => (x2 ≠ nI 59 → sh s1 179 6 15 ∧ cV E 159 [.ref 179, .int (nI 0)] s1 (fun s3 => Q none s3)) ∧ (¬ x2 ≠ nI 59 → sh s1 179 6 15 ∧ cV E 159 [.ref 179, .int (nI 1)] s1 (fun s4 => Q none s4)))) := by
      have put : ∀ may : Bool, Nat.beq (hre t Tx (stgE t Tx sp).2.1) 59 = may → cV E 159 [.ref 179, .int (bI may)] (nS σ P' T' f V) (fun s3 => Q none s3) := fun may hm => by
        refine r_tak H q8 q10 fun P2 hp => hK P2 T' ⟨?_, ?_, ?_, ?_, fun j h1 h2 h3 h4 => ?_, qt⟩
        · rw [hp.1]
          unfold ordP ordF
          rw [hm]
          rfl
        · rw [hp.2.2 9 (by decide) (by decide)]; exact q9
        · rw [hp.2.1]
          unfold ordF
          rw [hm]
          rfl
        · rw [hp.2.2 11 (by decide) (by decide)]; exact q11
        · rw [hp.2.2 j h1 h3]; exact qo j h1 h2 h3 h4
      refine ⟨shM H, r_here H ht hx (by omega) q6 q8 ⟨fun g => ⟨shM H, put false ?_⟩, fun g => ⟨shM H, put true ?_⟩⟩⟩
      · cases hq : Nat.beq (hre t Tx (stgE t Tx sp).2.1) 59 with
        | false => rfl
        | true => exact absurd (e59.mpr (beq_iff'.mp hq)) g
      · exact beq_iff'.mpr (e59.mp (Classical.not_not.mp g))
    refine sg161_95 ⟨shM H, ?_⟩
    rw [n_p, q11]
    refine ⟨fun g => ⟨fun _ => fin, fun z => absurd ?_ z⟩, fun g => ⟨fun _ => fin, fun z => absurd ?_ z⟩⟩
    · have : cntL (hre t Tx sp) = 1 := if_neg (fun z => g (hl98.mpr z))
      rw [this]
      exact nI_le (Nat.le_refl _) (by decide)
    · have : cntL (hre t Tx sp) = 3 := if_pos (hl98.mp (Classical.not_not.mp g))
      rw [this]
      exact nI_le (Nat.le_refl _) (by decide)
  | succ d ih =>
    intro k P' T' hk hP
    have hle := stgs_le (t := t) (Tx := Tx) (s := stg0 t Tx sp) k
    have nx := fun P2 T2 => ih (k + 1) P2 T2 (by omega)
    rw [stgs] at nx
    generalize stgs t Tx (stg0 t Tx sp) k = S at hP nx hle
    obtain ⟨q8, q9, q10, q11, qo, qt⟩ := hP
    have q6 : P' 6 = nI t := (qo 6 (by decide) (by decide) (by decide) (by decide)).trans h6
    have ek := nI_leI (a := k) (b := 0) (by omega) (by decide)
    have hh := hre_lt hTx S.2.1
    have e44 := nI_eq (a := hre t Tx S.2.1) (b := 44) (by omega) (by decide)
    have step : ((nI k ≤ nI 0 → sh (nS σ P' T' f V) 179 6 15 ∧ cV E 160 [.ref 179, .int (nI k)] (nS σ P' T' f V) (fun s5 => wp E 161 95 [.ref 179, .int (nI k + nI 1)] [] s5 Q)) ∧
        (¬ nI k ≤ nI 0 → sh (nS σ P' T' f V) 179 6 15 ∧ cI E 158 [.ref 179] (nS σ P' T' f V) (fun x7 s6 =>
        (x7 ≠ nI 44 → sh s6 179 6 15 ∧ cV E 159 [.ref 179, .int (nI 0)] s6 (fun s8 => sh s8 179 6 15 ∧ cV E 160 [.ref 179, .int (nI k)] s8 (fun s9 => wp E 161 95 [.ref 179, .int (nI k + nI 1)] [] s9 Q))) ∧
        (¬ x7 ≠ nI 44 → sh s6 179 6 15 ∧ cV E 159 [.ref 179, .int (nI 1)] s6 (fun s10 => sh s10 179 6 15 ∧ cV E 160 [.ref 179, .int (nI k)] s10 (fun s11 => wp E 161 95 [.ref 179, .int (nI k + nI 1)] [] s11 Q)))))) := by
      rw [nI_add]
      refine ⟨fun g => ⟨shM H, ?_⟩, fun g => ⟨shM H, r_here H ht hx (by omega) q6 q8 ?_⟩⟩
      · obtain rfl : k = 0 := by have := ek.mp g; omega
        refine r_num H ht hTx hx (by decide) (by omega) q6 q8 q10 fun P2 T2 hp ht1 ht2 => nx P2 T2 ⟨?_, ?_, ?_, ?_, fun j h1 h2 h3 h4 => ?_, fun j hj => ?_⟩
        · rw [hp.1]; rfl
        · rw [hp.2.2 9 (by decide) (by decide)]; exact q9
        · rw [hp.2.1]; rfl
        · rw [hp.2.2 11 (by decide) (by decide)]; exact q11
        · rw [hp.2.2 j h1 h3]; exact qo j h1 h2 h3 h4
        · obtain rfl : j = 0 := by omega
          rw [ht1]; rfl
      · have hk0 : k ≠ 0 := fun z => g (ek.mpr (by omega))
        have put : ∀ may : Bool, Nat.beq (hre t Tx S.2.1) 44 = may → cV E 159 [.ref 179, .int (bI may)] (nS σ P' T' f V) (fun s8 => sh s8 179 6 15 ∧ cV E 160 [.ref 179, .int (nI k)] s8 (fun s9 => wp E 161 95 [.ref 179, .int (nI (k + 1))] [] s9 Q)) := fun may hm => by
          unfold stg at nx
          rw [if_neg hk0, if_neg hk0, hm] at nx
          refine r_tak H q8 q10 fun P1 hp1 => ⟨shM H, ?_⟩
          have p6 : P1 6 = nI t := (hp1.2.2 6 (by decide) (by decide)).trans q6
          refine r_num H ht hTx hx (by omega) (by split <;> omega) p6 hp1.1 hp1.2.1 fun P2 T2 hp ht1 ht2 => nx P2 T2 ⟨?_, ?_, ?_, ?_, fun j h1 h2 h3 h4 => ?_, fun j hj => ?_⟩
          · rw [hp.1]
          · rw [hp.2.2 9 (by decide) (by decide), hp1.2.2 9 (by decide) (by decide)]; exact q9
          · rw [hp.2.1]
          · rw [hp.2.2 11 (by decide) (by decide), hp1.2.2 11 (by decide) (by decide)]; exact q11
          · rw [hp.2.2 j h1 h3, hp1.2.2 j h1 h3]; exact qo j h1 h2 h3 h4
          · dsimp only
            by_cases hjk : j = k
            · rw [hjk, ht1, upN_s]
            · rw [ht2 j hjk, upN_n hjk]; exact qt j (by omega)
        refine ⟨fun g2 => ⟨shM H, put false ?_⟩, fun g2 => ⟨shM H, put true ?_⟩⟩
        · cases hq : Nat.beq (hre t Tx S.2.1) 44 with
          | false => rfl
          | true => exact absurd (e44.mpr (beq_iff'.mp hq)) g2
        · exact beq_iff'.mpr (e44.mp (Classical.not_not.mp g2))
    refine sg161_95 ⟨shM H, ?_⟩
    rw [n_p, q11]
    refine ⟨fun g => ⟨fun z => absurd z ?_, fun _ => step⟩, fun g => ⟨fun z => absurd z ?_, fun _ => step⟩⟩
    · have : cntL (hre t Tx sp) = 1 := if_neg (fun z => g (hl98.mpr z))
      exact nI_ge (by omega) (by omega)
    · have : cntL (hre t Tx sp) = 3 := if_pos (hl98.mp (Classical.not_not.mp g))
      exact nI_ge (by omega) (by omega)
end REF17
end
section
/-! the reference reads and does an order -/
section REF18
variable {E : AEnv} {σ τ : ASt} {V : Nat → Nat} {m n t : Nat} {Tx : Nat → Nat} {P T f : Nat → Int32} {Q : Option Value → ASt → Prop} {K : Int32 → ASt → Prop} {KV : ASt → Prop}
theorem r_ord (H : MI σ) (ht : t ≤ 60) (hTx : ∀ j, j < t → Tx j ≤ 126) (hx : ∀ j, j < t → gI σ 184 j = nI (Tx j)) {sp : Nat} (hsp : sp < t) (h6 : P 6 = nI t) (h8 : P 8 = nI sp)
    (hK : ∀ P' T', PS P P' T' sp (hre t Tx sp) (cntL (hre t Tx sp)) (ordF t Tx sp, ordP t Tx sp, ordN t Tx sp) → KV (nS σ P' T' f V)) : cV E 161 [.ref 179] (nS σ P T f V) KV := by
  have hl := hre_lt hTx sp
  refine sg161_0 ⟨shM H, shM H, ?_⟩
  rw [n_p, h8]
  refine nw_e n_wp ⟨shM H, fb1, nw_e n_wp ⟨shM H, r_here (sp := sp) H ht hx (by omega) ?_ ?_ ⟨shM H, nw_e n_wp ⟨shM H, ?_⟩⟩⟩⟩
  · rw [upd_n (by decide), upd_n (by decide)]; exact h6
  · rw [upd_n (by decide), upd_n (by decide)]; exact h8
  rw [n_p, upd_s]
  have yes : ∀ may : Bool, lgl (hre t Tx sp) = may → cV E 159 [.ref 179, .int (bI may)] (nS σ (upd (upd (upd P 9 (nI sp)) 10 (nI 1)) 11 (nI (hre t Tx sp))) T f V) (fun s6 => wp E 161 95 [.ref 179, .int (nI 0)] [] s6 (QV KV)) := fun may hm => by
    refine r_tak (fm := true) (sp := sp) H ?_ ?_ fun P' hp => ?_
    · rw [upd_n (by decide), upd_n (by decide), upd_n (by decide)]; exact h8
    · rw [upd_n (by decide), upd_s]; rfl
    · refine r_oL (P := P) H ht hTx hx hsp h6 hK (cntL (hre t Tx sp)) 0 P' T (by omega) ⟨?_, ?_, ?_, ?_, fun j h1 h2 h3 h4 => ?_, fun j hj => absurd hj (Nat.not_lt_zero _)⟩
      · rw [hp.1]
        show nI _ = nI (sp + if lgl (hre t Tx sp) = true then 1 else 0)
        rw [hm, Bool.true_and]
      · rw [hp.2.2 9 (by decide) (by decide), upd_n (by decide), upd_n (by decide), upd_s]
      · rw [hp.2.1]
        show bI _ = bI (lgl (hre t Tx sp))
        rw [hm, Bool.true_and]
      · rw [hp.2.2 11 (by decide) (by decide), upd_s]
      · rw [hp.2.2 j h1 h3, upd_n h4, upd_n h3, upd_n h2]
  have le : ∀ x, x < 2 ^ 31 → (nI (hre t Tx sp) = nI x ↔ hre t Tx sp = x) := fun x hx => nI_eq (by omega) hx
  refine ⟨fun g => ⟨shM H, yes true ?_⟩, fun g105 => ⟨shM H, fun g => ⟨shM H, yes true ?_⟩, fun g98 => ⟨shM H, fun g => ⟨shM H, yes true ?_⟩, fun g115 => ⟨shM H, fun g => ⟨shM H, yes true ?_⟩, fun g102 => ⟨shM H, fun g => ⟨shM H, yes true ?_⟩, fun g114 => ⟨shM H, fun g => ⟨shM H, yes true ?_⟩, fun g112 => ⟨shM H, fun g => ⟨shM H, yes false ?_⟩, fun g => ⟨shM H, yes true ?_⟩⟩⟩⟩⟩⟩⟩⟩
  · have := (le 105 (by decide)).mp g
    rw [this]; rfl
  · have := (le 98 (by decide)).mp g
    rw [this]; rfl
  · have := (le 115 (by decide)).mp g
    rw [this]; rfl
  · have := (le 102 (by decide)).mp g
    rw [this]; rfl
  · have := (le 114 (by decide)).mp g
    rw [this]; rfl
  · have := (le 112 (by decide)).mp g
    rw [this]; rfl
  · unfold lgl
    have ne : ∀ x, x < 2 ^ 31 → nI (hre t Tx sp) ≠ nI x → Nat.beq (hre t Tx sp) x = false := fun x hx h => by
      cases hq : Nat.beq (hre t Tx sp) x with
      | false => rfl
      | true => exact absurd ((le x hx).mpr (beq_iff'.mp hq)) h
    rw [ne 105 (by decide) g105, ne 98 (by decide) g98, ne 115 (by decide) g115, ne 102 (by decide) g102, ne 114 (by decide) g114, ne 112 (by decide) g112, ne 100 (by decide) g]
    rfl
  · have := (le 100 (by decide)).mp (Classical.not_not.mp g)
    rw [this]; rfl
def eOrd (V : Nat → Nat) (l : Nat) (N : Nat → Nat) : Int32 :=
  if l = 98 then eBrg V (nI (N 0)) (nI (N 1)) (nI (N 2)) else if l = 102 then eSnd V (nI (N 0)) (nI 1) else if l = 105 then eIsl V (nI (N 0)) else if l = 112 then ePay V (nI (N 0)) else if l = 114 then eRec V (nI (N 0)) else if l = 115 then eSnd V (nI (N 0)) (nI 0) else eDys V (nI (N 0))
def dOrd (V : Nat → Nat) (l : Nat) (N : Nat → Nat) : Nat → Nat :=
  if l = 98 then dBrg V (toN (nI (N 0))) (toN (nI (N 1))) (toN (nI (N 2))) else if l = 102 then dSnd V (toN (nI (N 0))) else if l = 105 then dIsl V (toN (nI (N 0))) else if l = 112 then dPay V (toN (nI (N 0))) else if l = 114 then dRec V (toN (nI (N 0))) else if l = 115 then dSnd V (toN (nI (N 0))) else dDays (toN (nI (N 0))) V
def aOrd (V : Nat → Nat) (l : Nat) (N : Nat → Nat) : Nat :=
  if l = 98 then V 2 else if l = 102 then cutV V (toN (nI (N 0))) else if l = 105 then V 1 else if l = 112 then V 11 + toN (nI (N 0)) else if l = 114 then V (72 + 8 * toN (nI (N 0)) + 3) else if l = 115 then cutV V (toN (nI (N 0))) else cDays (toN (nI (N 0))) V
theorem r_eO (H : MI σ) (hw : WF m V) {l : Nat} {N : Nat → Nat} (hl : l ≤ 126) (h11 : P 11 = nI l) (hT : ∀ j, j < cntL l → T j = nI (N j)) (hK : K (eOrd V l N) (nS σ P T f V)) : cI E 162 [.ref 179] (nS σ P T f V) K := by
  have H' : MI (s5 (tS σ P T) f) := H
  have le : ∀ x, x < 2 ^ 31 → (nI l = nI x ↔ l = x) := fun x hx => nI_eq (by omega) hx
  have hT0 : T 0 = nI (N 0) := hT 0 (by unfold cntL; split <;> omega)
  have hday : ¬ l = 98 → ¬ l = 102 → ¬ l = 105 → ¬ l = 112 → ¬ l = 114 → ¬ l = 115 → cI E 127 [.ref 179, .int (T 0)] (nS σ P T f V) K := fun a b c d e g => by
    unfold eOrd at hK
    rw [if_neg a, if_neg b, if_neg c, if_neg d, if_neg e, if_neg g] at hK
    rw [hT0]
    exact r_eD H' hw hK
  unfold eOrd at hK
  refine sg162_0 ⟨shM H, ?_⟩
  rw [n_p, h11]
  refine ⟨fun g => ⟨shM H, _, rM12 H, 3, sh186 H, vi (by decide) (by decide), shM H, _, rM12 H, 3, sh186 H, vi (by decide) (by decide), shM H, _, rM12 H, 3, sh186 H, vi (by decide) (by decide), shM H, ?_⟩, fun g98 => ⟨fun g => ⟨shM H, _, rM12 H, 3, sh186 H, vi (by decide) (by decide), shM H, ?_⟩, fun g99 => ⟨fun g => ⟨shM H, _, rM12 H, 3, sh186 H, vi (by decide) (by decide), shM H, ?_⟩, fun g100 => ⟨fun g => ⟨shM H, _, rM12 H, 3, sh186 H, vi (by decide) (by decide), shM H, ?_⟩, fun g101 => ⟨fun g => ⟨shM H, _, rM12 H, 3, sh186 H, vi (by decide) (by decide), shM H, ?_⟩, fun g102 => ⟨fun g => ⟨shM H, _, rM12 H, 3, sh186 H, vi (by decide) (by decide), shM H, ?_⟩, fun g103 => ⟨fun g => ⟨shM H, _, rM12 H, 3, sh186 H, vi (by decide) (by decide), shM H, ?_⟩, fun g104 => ⟨fun g => ⟨shM H, _, rM12 H, 3, sh186 H, vi (by decide) (by decide), shM H, ?_⟩, fun g105 => ⟨fun g => ⟨shM H, _, rM12 H, 3, sh186 H, vi (by decide) (by decide), shM H, ?_⟩, fun g106 => ⟨fun g => ⟨shM H, _, rM12 H, 3, sh186 H, vi (by decide) (by decide), shM H, ?_⟩, fun g107 => ⟨fun g => ⟨shM H, _, rM12 H, 3, sh186 H, vi (by decide) (by decide), shM H, ?_⟩, fun g108 => ⟨fun g => ⟨shM H, _, rM12 H, 3, sh186 H, vi (by decide) (by decide), shM H, ?_⟩, fun g109 => ⟨fun g => ⟨shM H, _, rM12 H, 3, sh186 H, vi (by decide) (by decide), shM H, ?_⟩, fun g110 => ⟨fun g => ⟨shM H, _, rM12 H, 3, sh186 H, vi (by decide) (by decide), shM H, ?_⟩, fun g111 => ⟨fun g => ⟨shM H, _, rM12 H, 3, sh186 H, vi (by decide) (by decide), shM H, ?_⟩, fun g112 => ⟨fun g => ⟨shM H, _, rM12 H, 3, sh186 H, vi (by decide) (by decide), shM H, ?_⟩, fun g113 => ⟨fun g => ⟨shM H, _, rM12 H, 3, sh186 H, vi (by decide) (by decide), shM H, ?_⟩, fun g114 => ⟨fun g => ⟨shM H, _, rM12 H, 3, sh186 H, vi (by decide) (by decide), shM H, ?_⟩, fun g115 => ⟨shM H, _, rM12 H, 3, sh186 H, vi (by decide) (by decide), shM H, ?_⟩⟩⟩⟩⟩⟩⟩⟩⟩⟩⟩⟩⟩⟩⟩⟩⟩⟩⟩
  · have e := (le 98 (by decide)).mp g
    rw [if_pos e] at hK
    have hT1 : T 1 = nI (N 1) := hT 1 (by unfold cntL; rw [if_pos e]; decide)
    have hT2 : T 2 = nI (N 2) := hT 2 (by unfold cntL; rw [if_pos e]; decide)
    rw [n_t, n_t, n_t, hT0, hT1, hT2]
    exact r_eB H' hw hK
  · have e := (le 99 (by decide)).mp g
    rw [n_t]
    exact hday (by omega) (by omega) (by omega) (by omega) (by omega) (by omega)
  · have e := (le 100 (by decide)).mp g
    rw [n_t]
    exact hday (by omega) (by omega) (by omega) (by omega) (by omega) (by omega)
  · have e := (le 101 (by decide)).mp g
    rw [n_t]
    exact hday (by omega) (by omega) (by omega) (by omega) (by omega) (by omega)
  · have e := (le 102 (by decide)).mp g
    rw [if_neg (by omega), if_pos e] at hK
    rw [n_t, hT0]
    exact ⟨fun z => absurd g z, fun _ => ⟨shM H, r_eS H' hw hK⟩⟩
  · have e := (le 103 (by decide)).mp g
    rw [n_t]
    exact hday (by omega) (by omega) (by omega) (by omega) (by omega) (by omega)
  · have e := (le 104 (by decide)).mp g
    rw [n_t]
    exact hday (by omega) (by omega) (by omega) (by omega) (by omega) (by omega)
  · have e := (le 105 (by decide)).mp g
    rw [if_neg (by omega), if_neg (by omega), if_pos e] at hK
    rw [n_t, hT0]
    exact r_eI H' hw hK
  · have e := (le 106 (by decide)).mp g
    rw [n_t]
    exact hday (by omega) (by omega) (by omega) (by omega) (by omega) (by omega)
  · have e := (le 107 (by decide)).mp g
    rw [n_t]
    exact hday (by omega) (by omega) (by omega) (by omega) (by omega) (by omega)
  · have e := (le 108 (by decide)).mp g
    rw [n_t]
    exact hday (by omega) (by omega) (by omega) (by omega) (by omega) (by omega)
  · have e := (le 109 (by decide)).mp g
    rw [n_t]
    exact hday (by omega) (by omega) (by omega) (by omega) (by omega) (by omega)
  · have e := (le 110 (by decide)).mp g
    rw [n_t]
    exact hday (by omega) (by omega) (by omega) (by omega) (by omega) (by omega)
  · have e := (le 111 (by decide)).mp g
    rw [n_t]
    exact hday (by omega) (by omega) (by omega) (by omega) (by omega) (by omega)
  · have e := (le 112 (by decide)).mp g
    rw [if_neg (by omega), if_neg (by omega), if_neg (by omega), if_pos e] at hK
    rw [n_t, hT0]
    exact r_eP H' hw hK
  · have e := (le 113 (by decide)).mp g
    rw [n_t]
    exact hday (by omega) (by omega) (by omega) (by omega) (by omega) (by omega)
  · have e := (le 114 (by decide)).mp g
    rw [if_neg (by omega), if_neg (by omega), if_neg (by omega), if_neg (by omega), if_pos e] at hK
    rw [n_t, hT0]
    exact r_eR H' hw hK
  · have e := (le 115 (by decide)).mp g
    rw [if_neg (by omega), if_neg (by omega), if_neg (by omega), if_neg (by omega), if_neg (by omega), if_pos e] at hK
    rw [n_t, hT0]
    exact ⟨fun _ => ⟨shM H, r_eS H' hw hK⟩, fun z => absurd g102 z⟩
  · rw [n_t]
    exact hday (fun z => g98 ((le 98 (by decide)).mpr z)) (fun z => g102 ((le 102 (by decide)).mpr z)) (fun z => g105 ((le 105 (by decide)).mpr z)) (fun z => g112 ((le 112 (by decide)).mpr z)) (fun z => g114 ((le 114 (by decide)).mpr z)) (fun z => g115 ((le 115 (by decide)).mpr z))
end REF18
end
section
/-! the reference does an order, and all of them -/
section REF19
variable {E : AEnv} {σ τ : ASt} {V : Nat → Nat} {m n t : Nat} {Tx : Nat → Nat} {P T f : Nat → Int32} {Q : Option Value → ASt → Prop} {K : Int32 → ASt → Prop} {KV : ASt → Prop}
theorem r_dO (H : MI σ) (hw : WF m V) {l : Nat} {N : Nat → Nat} (hl : l ≤ 126) (h11 : P 11 = nI l) (hT : ∀ j, j < cntL l → T j = nI (N j)) (he : nI 0 ≤ eOrd V l N) (hK : ∀ f x, K x (nS σ P T f (dOrd V l N))) : cI E 163 [.ref 179] (nS σ P T f V) K := by
  have H' : MI (s5 (tS σ P T) f) := H
  have h1 := hw.1
  unfold W1 at h1
  have h5 := hw.2.2.2.2
  unfold W5 at h5
  have le : ∀ x, x < 2 ^ 31 → (nI l = nI x ↔ l = x) := fun x hx => nI_eq (by omega) hx
  have hT0 : T 0 = nI (N 0) := hT 0 (by unfold cntL; split <;> omega)
  have hday : ¬ l = 98 → ¬ l = 102 → ¬ l = 105 → ¬ l = 112 → ¬ l = 114 → ¬ l = 115 → cI E 121 [.ref 179, .int (T 0)] (nS σ P T f V) K := fun a b c d e g => by
    unfold eOrd at he
    unfold dOrd at hK
    rw [if_neg a, if_neg b, if_neg c, if_neg d, if_neg e, if_neg g] at hK he
    obtain ⟨x1, x2, ex, h9⟩ := eDys_ok he
    rw [hT0, ex]
    refine r_dys H' (hw.to (Nat.le_refl _) (by omega)) (by omega) fun f' => ?_
    rw [s5_s5]
    exact hK f' _
  unfold eOrd at he
  unfold dOrd at hK
  refine sg163_0 ⟨shM H, ?_⟩
  rw [n_p, h11]
  refine ⟨fun g => ⟨shM H, _, rM12 H, 3, sh186 H, vi (by decide) (by decide), shM H, _, rM12 H, 3, sh186 H, vi (by decide) (by decide), shM H, _, rM12 H, 3, sh186 H, vi (by decide) (by decide), shM H, ?_⟩, fun g98 => ⟨fun g => ⟨shM H, _, rM12 H, 3, sh186 H, vi (by decide) (by decide), shM H, ?_⟩, fun g99 => ⟨fun g => ⟨shM H, _, rM12 H, 3, sh186 H, vi (by decide) (by decide), shM H, ?_⟩, fun g100 => ⟨fun g => ⟨shM H, _, rM12 H, 3, sh186 H, vi (by decide) (by decide), shM H, ?_⟩, fun g101 => ⟨fun g => ⟨shM H, _, rM12 H, 3, sh186 H, vi (by decide) (by decide), shM H, ?_⟩, fun g102 => ⟨fun g => ⟨shM H, _, rM12 H, 3, sh186 H, vi (by decide) (by decide), shM H, ?_⟩, fun g103 => ⟨fun g => ⟨shM H, _, rM12 H, 3, sh186 H, vi (by decide) (by decide), shM H, ?_⟩, fun g104 => ⟨fun g => ⟨shM H, _, rM12 H, 3, sh186 H, vi (by decide) (by decide), shM H, ?_⟩, fun g105 => ⟨fun g => ⟨shM H, _, rM12 H, 3, sh186 H, vi (by decide) (by decide), shM H, ?_⟩, fun g106 => ⟨fun g => ⟨shM H, _, rM12 H, 3, sh186 H, vi (by decide) (by decide), shM H, ?_⟩, fun g107 => ⟨fun g => ⟨shM H, _, rM12 H, 3, sh186 H, vi (by decide) (by decide), shM H, ?_⟩, fun g108 => ⟨fun g => ⟨shM H, _, rM12 H, 3, sh186 H, vi (by decide) (by decide), shM H, ?_⟩, fun g109 => ⟨fun g => ⟨shM H, _, rM12 H, 3, sh186 H, vi (by decide) (by decide), shM H, ?_⟩, fun g110 => ⟨fun g => ⟨shM H, _, rM12 H, 3, sh186 H, vi (by decide) (by decide), shM H, ?_⟩, fun g111 => ⟨fun g => ⟨shM H, _, rM12 H, 3, sh186 H, vi (by decide) (by decide), shM H, ?_⟩, fun g112 => ⟨fun g => ⟨shM H, _, rM12 H, 3, sh186 H, vi (by decide) (by decide), shM H, ?_⟩, fun g113 => ⟨fun g => ⟨shM H, _, rM12 H, 3, sh186 H, vi (by decide) (by decide), shM H, ?_⟩, fun g114 => ⟨fun g => ⟨shM H, _, rM12 H, 3, sh186 H, vi (by decide) (by decide), shM H, ?_⟩, fun g115 => ⟨shM H, _, rM12 H, 3, sh186 H, vi (by decide) (by decide), shM H, ?_⟩⟩⟩⟩⟩⟩⟩⟩⟩⟩⟩⟩⟩⟩⟩⟩⟩⟩⟩
  · have e := (le 98 (by decide)).mp g
    rw [if_pos e] at hK he
    have hT1 : T 1 = nI (N 1) := hT 1 (by unfold cntL; rw [if_pos e]; decide)
    have hT2 : T 2 = nI (N 2) := hT 2 (by unfold cntL; rw [if_pos e]; decide)
    obtain ⟨hx, ex, hy, ey, w1, w2, ew, h14⟩ := eBrg_ok hw he
    rw [n_t, n_t, n_t, hT0, hT1, hT2, ex, ey, ew]
    exact r_goB H' h14 (hK f _)
  · have e := (le 99 (by decide)).mp g
    rw [n_t]
    exact hday (by omega) (by omega) (by omega) (by omega) (by omega) (by omega)
  · have e := (le 100 (by decide)).mp g
    rw [n_t]
    exact hday (by omega) (by omega) (by omega) (by omega) (by omega) (by omega)
  · have e := (le 101 (by decide)).mp g
    rw [n_t]
    exact hday (by omega) (by omega) (by omega) (by omega) (by omega) (by omega)
  · have e := (le 102 (by decide)).mp g
    rw [if_neg (by omega), if_pos e] at hK he
    obtain ⟨hx, ex⟩ := eSnd_ok hw he
    rw [n_t, hT0, ex]
    exact r_goS H' hw (by omega) (hK f _)
  · have e := (le 103 (by decide)).mp g
    rw [n_t]
    exact hday (by omega) (by omega) (by omega) (by omega) (by omega) (by omega)
  · have e := (le 104 (by decide)).mp g
    rw [n_t]
    exact hday (by omega) (by omega) (by omega) (by omega) (by omega) (by omega)
  · have e := (le 105 (by decide)).mp g
    rw [if_neg (by omega), if_neg (by omega), if_pos e] at hK he
    obtain ⟨hx, ex, h8⟩ := eIsl_ok hw he
    rw [n_t, hT0, ex]
    exact r_goI H' h8 (hK f _)
  · have e := (le 106 (by decide)).mp g
    rw [n_t]
    exact hday (by omega) (by omega) (by omega) (by omega) (by omega) (by omega)
  · have e := (le 107 (by decide)).mp g
    rw [n_t]
    exact hday (by omega) (by omega) (by omega) (by omega) (by omega) (by omega)
  · have e := (le 108 (by decide)).mp g
    rw [n_t]
    exact hday (by omega) (by omega) (by omega) (by omega) (by omega) (by omega)
  · have e := (le 109 (by decide)).mp g
    rw [n_t]
    exact hday (by omega) (by omega) (by omega) (by omega) (by omega) (by omega)
  · have e := (le 110 (by decide)).mp g
    rw [n_t]
    exact hday (by omega) (by omega) (by omega) (by omega) (by omega) (by omega)
  · have e := (le 111 (by decide)).mp g
    rw [n_t]
    exact hday (by omega) (by omega) (by omega) (by omega) (by omega) (by omega)
  · have e := (le 112 (by decide)).mp g
    rw [if_neg (by omega), if_neg (by omega), if_neg (by omega), if_pos e] at hK he
    obtain ⟨x1, x2, ex, h9⟩ := ePay_ok he
    rw [n_t, hT0, ex]
    exact r_goP H' (hK f _)
  · have e := (le 113 (by decide)).mp g
    rw [n_t]
    exact hday (by omega) (by omega) (by omega) (by omega) (by omega) (by omega)
  · have e := (le 114 (by decide)).mp g
    rw [if_neg (by omega), if_neg (by omega), if_neg (by omega), if_neg (by omega), if_pos e] at hK he
    obtain ⟨hx, ex⟩ := eRec_ok hw he
    rw [n_t, hT0, ex]
    exact r_goR H' (by omega) (hK f _)
  · have e := (le 115 (by decide)).mp g
    rw [if_neg (by omega), if_neg (by omega), if_neg (by omega), if_neg (by omega), if_neg (by omega), if_pos e] at hK he
    obtain ⟨hx, ex⟩ := eSnd_ok hw he
    rw [n_t, hT0, ex]
    exact r_goS H' hw (by omega) (hK f _)
  · rw [n_t]
    exact hday (fun z => g98 ((le 98 (by decide)).mpr z)) (fun z => g102 ((le 102 (by decide)).mpr z)) (fun z => g105 ((le 105 (by decide)).mpr z)) (fun z => g112 ((le 112 (by decide)).mpr z)) (fun z => g114 ((le 114 (by decide)).mpr z)) (fun z => g115 ((le 115 (by decide)).mpr z))
theorem WF.ord (hw : WF 9999 V) {l : Nat} {N : Nat → Nat} (he : nI 0 ≤ eOrd V l N) : WF 9999 (dOrd V l N) := by
  have h5 := hw.2.2.2.2
  unfold W5 at h5
  unfold eOrd at he
  unfold dOrd
  by_cases e : l = 98
  · rw [if_pos e] at he ⊢
    obtain ⟨hx, ex, hy, ey, w1, w2, ew, h14⟩ := eBrg_ok hw he
    exact hw.nbr hx hy ⟨w1, w2⟩ h14
  rw [if_neg e] at he ⊢
  by_cases e : l = 102
  · rw [if_pos e] at he ⊢
    exact hw.snd (eSnd_ok hw he).1
  rw [if_neg e] at he ⊢
  by_cases e : l = 105
  · rw [if_pos e] at he ⊢
    obtain ⟨hx, ex, h8⟩ := eIsl_ok hw he
    exact hw.isl hx h8
  rw [if_neg e] at he ⊢
  by_cases e : l = 112
  · rw [if_pos e] at he ⊢
    exact hw.pay (ePay_ok he).2.2.2
  rw [if_neg e] at he ⊢
  by_cases e : l = 114
  · rw [if_pos e] at he ⊢
    exact hw.rec (eRec_ok hw he).1
  rw [if_neg e] at he ⊢
  by_cases e : l = 115
  · rw [if_pos e] at he ⊢
    exact hw.snd (eSnd_ok hw he).1
  rw [if_neg e] at he ⊢
  obtain ⟨x1, x2, ex, h9⟩ := eDys_ok he
  have h := WF.dysn (toN (nI (N 0))) (V 0) V (hw.to (Nat.le_refl _) (by omega)) (by omega)
  exact h.to (Nat.le_trans h.2.2.2.2.1 h9) (by decide)
theorem stgs_ge {s : Bool × Nat × (Nat → Nat)} : ∀ k, s.2.1 ≤ (stgs t Tx s k).2.1
  | 0 => Nat.le_refl _
  | k + 1 => by
    have h1 := stgs_ge (s := s) k
    have pg : ∀ (d v c sp : Nat), sp ≤ (pN t Tx d v c sp).2.2 := by
      intro d
      induction d with
      | zero => intro v c sp; exact Nat.le_refl _
      | succ d ih =>
        intro v c sp
        rw [pN]
        split
        · exact Nat.le_trans (Nat.le_succ _) (ih _ _ _)
        · exact Nat.le_refl _
    have ng : ∀ fm sp, sp ≤ (nmR t Tx fm sp).2.2 := fun fm sp => by
      unfold nmR
      split
      · exact pg _ _ _ _
      · exact Nat.le_refl _
    rw [stgs]
    refine Nat.le_trans h1 ?_
    unfold stg
    dsimp only
    refine Nat.le_trans ?_ (ng _ _)
    split
    · exact Nat.le_refl _
    · exact Nat.le_add_right _ _
theorem ordP_gt {sp : Nat} (h : ordF t Tx sp = true) : sp < ordP t Tx sp := by
  have h1 := stgs_ge (t := t) (Tx := Tx) (s := stg0 t Tx sp) (cntL (hre t Tx sp))
  have h2 : sp ≤ (stg0 t Tx sp).2.1 := Nat.le_add_right _ _
  unfold ordP
  rw [if_pos h]
  unfold stgE
  omega
theorem ordP_ge {sp : Nat} : sp ≤ ordP t Tx sp := by
  have h1 := stgs_ge (t := t) (Tx := Tx) (s := stg0 t Tx sp) (cntL (hre t Tx sp))
  have h2 : sp ≤ (stg0 t Tx sp).2.1 := Nat.le_add_right _ _
  unfold ordP
  unfold stgE
  omega
theorem ordP_le {sp : Nat} : ordP t Tx sp ≤ sp + 14 := by
  have h1 := stgs_le (t := t) (Tx := Tx) (s := stg0 t Tx sp) (cntL (hre t Tx sp))
  have h2 : (stg0 t Tx sp).2.1 ≤ sp + 1 := by unfold stg0; dsimp only; split <;> omega
  have h3 : cntL (hre t Tx sp) ≤ 3 := by unfold cntL; split <;> omega
  unfold ordP
  unfold stgE
  split <;> omega
/-- all the orders: how many were done, what is then, and the fault: reason (0 none), place, cause -/
def plL (t : Nat) (Tx : Nat → Nat) : Nat → (Nat → Nat) → Nat → Nat → Nat × (Nat → Nat) × Nat × Nat × Int32
  | 0, V, n, _ => (n, V, 0, 0, nI 0)
  | d + 1, V, n, sp => if t ≤ sp then (n, V, 0, 0, nI 0) else if ordF t Tx sp = true then
      (if nI 0 ≤ eOrd V (hre t Tx sp) (ordN t Tx sp) then plL t Tx d (dOrd V (hre t Tx sp) (ordN t Tx sp)) (n + 1) (ordP t Tx sp) else (n, V, 2, sp, eOrd V (hre t Tx sp) (ordN t Tx sp)))
      else (n, V, 1, sp, nI (ordP t Tx sp - sp))
end REF19
end
section
/-! the reference: fault and play -/
section REF20
variable {E : AEnv} {σ τ : ASt} {V : Nat → Nat} {m n t : Nat} {Hs : Nat → Nat → Nat} {Tx : Nat → Nat} {P P0 T f : Nat → Int32} {Q : Option Value → ASt → Prop} {K : Int32 → ASt → Prop} {KV : ASt → Prop}
/-- the fields that a reading leaves -/
def PO (P0 P : Nat → Int32) : Prop := ∀ j, j ≠ 8 → j ≠ 9 → j ≠ 10 → j ≠ 11 → j ≠ 13 → j ≠ 14 → P j = P0 j
def PE (P0 P' : Nat → Int32) (R : Nat × (Nat → Nat) × Nat × Nat × Int32) : Prop := P' 13 = nI R.2.2.1 ∧ (R.2.2.1 ≠ 0 → P' 9 = nI R.2.2.2.1 ∧ P' 14 = R.2.2.2.2) ∧ PO P0 P'
theorem r_daL (H : MI σ) (ht : t ≤ 60) (hTx : ∀ j, j < t → Tx j ≤ 126) (hx : ∀ j, j < t → gI σ 184 j = nI (Tx j)) (h6 : P0 6 = nI t) :
    ∀ (d : Nat) (V : Nat → Nat) (n sp : Nat) (P T f : Nat → Int32), t ≤ sp + d → sp ≤ 100 → WF 9999 V → P 8 = nI sp → P 13 = nI 0 → PO P0 P → (∀ P' T' f', PE P0 P' (plL t Tx d V n sp) → Q (some (.int (nI (plL t Tx d V n sp).1))) (nS σ P' T' f' (plL t Tx d V n sp).2.1)) → wp E 164 12 [.ref 179, .int (nI n)] [] (nS σ P T f V) Q := by
  intro d
  induction d with
  | zero =>
    intro V n sp P T f hd hs hw h8 h13 ho hK
    refine sg164_12 ⟨shM H, ?_⟩
    rw [n_p, h13]
    refine ⟨fun z => absurd rfl z, fun _ => ⟨shM H, shM H, ?_⟩⟩
    rw [n_p, n_p, h8, ho 6 (by decide) (by decide) (by decide) (by decide) (by decide) (by decide), h6]
    exact ⟨fun _ => hK P T f ⟨h13, fun z => absurd rfl z, ho⟩, fun z => absurd (nI_le (by omega) (by omega)) z⟩
  | succ d ih =>
    intro V n sp P T f hd hs hw h8 h13 ho hK
    have p6 : P 6 = nI t := (ho 6 (by decide) (by decide) (by decide) (by decide) (by decide) (by decide)).trans h6
    rw [plL] at hK
    refine sg164_12 ⟨shM H, ?_⟩
    rw [n_p, h13]
    refine ⟨fun z => absurd rfl z, fun _ => ⟨shM H, shM H, ?_⟩⟩
    rw [n_p, n_p, h8, p6]
    have e := nI_leI (a := t) (b := sp) (by omega) (by omega)
    refine ⟨fun g => ?_, fun g => ⟨shM H, ?_⟩⟩
    · rw [if_pos (e.mp g)] at hK
      exact hK P T f ⟨h13, fun z => absurd rfl z, ho⟩
    · have g2 : ¬ t ≤ sp := fun z => g (e.mpr z)
      rw [if_neg g2] at hK
      refine r_ord H ht hTx hx (by omega) p6 h8 fun P1 T1 hp => ?_
      obtain ⟨q8, q9, q10, q11, qo, qt⟩ := hp
      have ho1 : PO P0 P1 := fun j a b c d2 e2 f2 => (qo j a b c d2).trans (ho j a b c d2 e2 f2)
      have e10 : gI (nS σ P1 T1 f V) 179 10 = bI (ordF t Tx sp) := n_p.trans q10
      have hl := hre_lt hTx sp
      have hlen := ordP_le (t := t) (Tx := Tx) (sp := sp)
      have hge := ordP_ge (t := t) (Tx := Tx) (sp := sp)
      refine ⟨shM H, ?_⟩
      rw [e10]
      refine ⟨fun g3 => ?_, fun g3 => ⟨shM H, ?_⟩⟩
      · rw [if_neg (bI_3 g3)] at hK
        refine ⟨shM H, fun _ => ⟨shM H, fun _ => ⟨shM H, nw_e n_wp ⟨shM H, fun _ => ⟨shM H, shM H, shM H, ?_⟩, fun z => absurd ?_ z⟩⟩, fun z => absurd g3 z⟩, fun z => absurd g3 z⟩
        · rw [n_p, n_p, upd_n (by decide), upd_n (by decide), q8, q9, pk_sub hge]
          refine nw_e n_wp (sg164_12 ⟨shM H, fun _ => ?_, fun z => absurd ?_ z⟩)
          · refine hK _ _ _ ⟨?_, fun _ => ⟨?_, upd_s⟩, fun j a b c d2 e2 f2 => ?_⟩
            · rw [upd_n (by decide), upd_s]
            · rw [upd_n (by decide), upd_n (by decide)]; exact q9
            · rw [upd_n f2, upd_n e2]; exact ho1 j a b c d2 e2 f2
          · rw [n_p, upd_n (by decide), upd_s]; decide
        · rw [n_p, upd_n (by decide), q10]; exact g3
      · have hF := bI_1 g3
        rw [if_pos hF] at hK
        refine r_eO H hw hl q11 qt ⟨shM H, ?_⟩
        rw [e10]
        refine ⟨fun z => absurd z g3, fun _ => ⟨fun g4 => ⟨shM H, ?_⟩, fun g4 => ⟨shM H, fun z => absurd z g3, fun _ => ⟨shM H, nw_e n_wp ⟨shM H, fun z => ?_, fun _ => ⟨shM H, nw_e n_wp (sg164_12 ⟨shM H, fun _ => ?_, fun z => absurd ?_ z⟩)⟩⟩⟩⟩⟩⟩
        · rw [if_pos g4] at hK
          have hgt := ordP_gt hF
          refine r_dO H hw hl q11 qt g4 fun f2 x => ?_
          rw [nI_add]
          refine ih _ _ (ordP t Tx sp) P1 T1 f2 (by omega) ?_ (hw.ord g4) q8 ?_ ho1 hK
          · omega
          · exact (qo 13 (by decide) (by decide) (by decide) (by decide)).trans h13
        · rw [n_p, upd_n (by decide), q10] at z
          exact absurd z g3
        · rw [if_neg g4] at hK
          refine hK _ _ _ ⟨?_, fun _ => ⟨?_, upd_s⟩, fun j a b c d2 e2 f2 => ?_⟩
          · rw [upd_n (by decide), upd_s]
          · rw [upd_n (by decide), upd_n (by decide)]; exact q9
          · rw [upd_n f2, upd_n e2]; exact ho1 j a b c d2 e2 f2
        · rw [n_p, upd_n (by decide), upd_s]; decide
theorem r_da (H : MI σ) (ht : t ≤ 60) (hTx : ∀ j, j < t → Tx j ≤ 126) (hx : ∀ j, j < t → gI σ 184 j = nI (Tx j)) (h6 : P 6 = nI t) (hw : WF 9999 V) (hK : ∀ P' T' f', PE P P' (plL t Tx 60 V 0 0) → K (nI (plL t Tx 60 V 0 0).1) (nS σ P' T' f' (plL t Tx 60 V 0 0).2.1)) : cI E 164 [.ref 179] (nS σ P T f V) K := by
  refine sg164_0 ⟨shM H, nw_e n_wp ⟨shM H, nw_e n_wp (r_daL (P0 := P) (Q := QI K) H ht hTx hx h6 60 V 0 0 _ T f (by omega) (by decide) hw upd_s ?_ (fun j a b c d e g => ?_) hK)⟩⟩
  · rw [upd_n (by decide), upd_s]
  · rw [upd_n a, upd_n e]
theorem nS_self (h : MD σ V n Hs t Tx) : nS σ (σ.2.1 179) (σ.2.1 186) (σ.2.1 185) V = σ := by
  have e1 : tS σ (σ.2.1 179) (σ.2.1 186) = σ := by
    obtain ⟨a, b, c⟩ := σ
    unfold tS
    dsimp only
    congr 2
    funext q
    by_cases h9 : q = 179
    · rw [if_pos h9, h9]
    · rw [if_neg h9]
      by_cases h8 : q = 186
      · rw [if_pos h8, h8]
      · rw [if_neg h8]
  unfold nS
  rw [e1, s5_self, mS_e h]
theorem n_f : FrM σ (nS σ P T f V) := ⟨rfl, rfl, fun c hc => by
  show (if c = 180 then _ else if c = 185 then f else if c = 179 then P else if c = 186 then T else σ.2.1 c) = _
  rw [if_neg (by omega), if_neg (by omega), if_neg (by omega), if_neg (by omega)]⟩
theorem n_o {c k : Nat} (h0 : c ≠ 180) (h5 : c ≠ 185) (h9 : c ≠ 179) (h6 : c ≠ 186) : gI (nS σ P T f V) c k = gI σ c k := by
  show (if c = 180 then _ else if c = 185 then f else if c = 179 then P else if c = 186 then T else σ.2.1 c) k = _
  rw [if_neg h0, if_neg h5, if_neg h9, if_neg h6]
  rfl
theorem n_md {W : Nat → Nat} (h : MD σ V n Hs t Tx) (h4 : P 4 = gI σ 179 4) (h6 : P 6 = gI σ 179 6) : MD (nS σ P T f W) W n Hs t Tx := by
  obtain ⟨a1, a2, a3, a4, a5, a6, a7⟩ := h
  refine ⟨fun k hk => mS_get hk, ?_, a3, fun j hj k hk => ?_, ?_, a6, fun j hj => ?_⟩
  · rw [n_p, h4]; exact a2
  · rw [n_o (by decide) (by decide) (by decide) (by decide)]; exact a4 j hj k hk
  · rw [n_p, h6]; exact a5
  · rw [n_o (by decide) (by decide) (by decide) (by decide)]; exact a7 j hj
/-- the state before -/
def bef (σ : ASt) : ASt := cpN σ 180 0 182 0 184
theorem bef_f : FrM σ (bef σ) := FrM.cp (by decide)
theorem bef_m (h : MD σ V n Hs t Tx) : MD (bef σ) V n Hs t Tx := by
  obtain ⟨h1, h2, h3, h4, h5, h6, h7⟩ := h
  refine ⟨fun k hk => ?_, ?_, h3, fun j hj k hk => ?_, ?_, h6, fun j hj => ?_⟩
  · unfold bef; rw [cp_o (by decide)]; exact h1 k hk
  · unfold bef; rw [cp_o (by decide)]; exact h2
  · unfold bef; rw [cp_o (by decide)]; exact h4 j hj k hk
  · unfold bef; rw [cp_o (by decide)]; exact h5
  · unfold bef; rw [cp_o (by decide)]; exact h7 j hj
theorem bef_v (h : MD σ V n Hs t Tx) {k : Nat} (hk : k < 184) : gI (bef σ) 182 k = nI (V k) := by
  have e := cp_in (σ := σ) (a := 180) (p := 0) (c := 182) (q := 0) (n := 184) hk
  rw [Nat.zero_add] at e
  unfold bef
  rw [e]
  exact h.1 k hk
theorem un_m {W : Nat → Nat} (h : MD τ V n Hs t Tx) (hv : ∀ k, k < 184 → gI τ 182 k = nI (V k)) (h4 : P 4 = gI τ 179 4) (h6 : P 6 = gI τ 179 6) : MD (cpN (nS τ P T f W) 182 0 180 0 184) V n Hs t Tx := by
  obtain ⟨h1, h2, h3, h4, h5, h6, h7⟩ := n_md (T := T) (f := f) (W := W) h h4 h6
  refine ⟨fun k hk => ?_, ?_, h3, fun j hj k hk => ?_, ?_, h6, fun j hj => ?_⟩
  · have e := cp_in (σ := nS τ P T f W) (a := 182) (p := 0) (c := 180) (q := 0) (n := 184) hk
    rw [Nat.zero_add] at e
    rw [e, n_o (by decide) (by decide) (by decide) (by decide)]
    have := hv k hk
    exact this
  · rw [cp_o (by decide)]; exact h2
  · rw [cp_o (by decide)]; exact h4 j hj k hk
  · rw [cp_o (by decide)]; exact h5
  · rw [cp_o (by decide)]; exact h7 j hj
end REF20
end
section
/-! the reference: fault and play as called -/
section REF21
variable {E : AEnv} {σ τ : ASt} {V : Nat → Nat} {m n t : Nat} {Hs : Nat → Nat → Nat} {Tx : Nat → Nat} {P P0 T f : Nat → Int32} {Q : Option Value → ASt → Prop} {K : Int32 → ASt → Prop} {KV : ASt → Prop}
/-- all orders tried, the state put back -/
theorem r_try (H : MI σ) (hm : MD σ V n Hs t Tx) (hTx : ∀ j, j < t → Tx j ≤ 126) (hw : WF 9999 V)
    (hK : ∀ τ, FrM σ τ → MD τ V n Hs t Tx → gI τ 179 13 = nI (plL t Tx 60 V 0 0).2.2.1 → ((plL t Tx 60 V 0 0).2.2.1 ≠ 0 → gI τ 179 9 = nI (plL t Tx 60 V 0 0).2.2.2.1 ∧ gI τ 179 14 = (plL t Tx 60 V 0 0).2.2.2.2) → KV τ) :
    cV E 93 [.ref 180, .int (nI 0), .ref 182, .int (nI 0)] σ (fun s5 => sh s5 179 6 15 ∧ cI E 164 [.ref 179] s5 (fun _ s6 => sh s6 179 6 15 ∧ ∃ r8, rf s6 179 2 r8 ∧ sh s6 179 6 15 ∧ ∃ r9, rf s6 179 0 r9 ∧ cV E 93 [.ref r8, .int (nI 0), .ref r9, .int (nI 0)] s6 KV)) := by
  refine r_cp (by decide) (shV H) (sh182 H) (by decide) (by decide) (by decide) (by decide) ?_
  have Hb : MI (bef σ) := bef_f.mi H
  have hb := bef_m hm
  have eb := nS_self hb
  refine ⟨shM Hb, ?_⟩
  have h := r_da (E := E) (σ := bef σ) (P := (bef σ).2.1 179) (T := (bef σ).2.1 186) (f := (bef σ).2.1 185) (K := fun _ s6 => sh s6 179 6 15 ∧ ∃ r8, rf s6 179 2 r8 ∧ sh s6 179 6 15 ∧ ∃ r9, rf s6 179 0 r9 ∧ cV E 93 [.ref r8, .int (nI 0), .ref r9, .int (nI 0)] s6 KV) Hb hb.2.2.2.2.2.1 hTx hb.2.2.2.2.2.2 hb.2.2.2.2.1 hw (fun P' T' f' hp => by
    obtain ⟨p13, pf, po⟩ := hp
    have H2 : MI (nS (bef σ) P' T' f' (plL t Tx 60 V 0 0).2.1) := n_f.mi Hb
    refine ⟨shM H2, _, rM2 H2, shM H2, _, rM0 H2, r_cp (by decide) (sh182 H2) (shV H2) (by decide) (by decide) (by decide) (by decide) (hK _ ((bef_f.tr n_f).tr (FrM.cp (by decide))) (un_m hb (fun k hk => bef_v hm hk) (po 4 (by decide) (by decide) (by decide) (by decide) (by decide) (by decide)) (po 6 (by decide) (by decide) (by decide) (by decide) (by decide) (by decide))) ?_ fun hne => ⟨?_, ?_⟩)⟩
    · rw [cp_o (by decide), n_p]; exact p13
    · rw [cp_o (by decide), n_p]; exact (pf hne).1
    · rw [cp_o (by decide), n_p]; exact (pf hne).2)
  rw [eb] at h
  exact h
theorem plL_fr : ∀ (d : Nat) (V : Nat → Nat) (n sp : Nat), (plL t Tx d V n sp).2.2.1 ≤ 2
  | 0, _, _, _ => Nat.zero_le _
  | d + 1, V, n, sp => by
    rw [plL]
    split
    · exact Nat.zero_le _
    · split
      · split
        · exact plL_fr d _ _ _
        · exact Nat.le_refl _
      · exact Nat.le_succ _
def qFlt (V : Nat → Nat) (t : Nat) (Tx : Nat → Nat) (x : Int32) : Int32 :=
  if inRg x (nI 0) (nI 2) = true then
    if (plL t Tx 60 V 0 0).2.2.1 = 0 then (-1000004 : Int32)
    else if x = nI 0 then nI (plL t Tx 60 V 0 0).2.2.2.1 else if x = nI 1 then nI (plL t Tx 60 V 0 0).2.2.1 else (plL t Tx 60 V 0 0).2.2.2.2
  else (-1000001 : Int32)
theorem m_flt (H : MI σ) (hm : MD σ V n Hs t Tx) (hTx : ∀ j, j < t → Tx j ≤ 126) (hw : WF 9999 V) {x : Int32} (hK : ∀ τ, FrM σ τ → MD τ V n Hs t Tx → K (qFlt V t Tx x) τ) : cI E 165 [.ref 179, .int x] σ K := by
  have hK0 := hK σ (FrM.id σ) hm
  unfold qFlt at hK hK0
  refine sg165_0 (r_in ⟨fun g => ⟨shM H, _, rM0 H, shM H, _, rM2 H, ?_⟩, fun g => ?_⟩)
  · rw [if_pos (bI_1 g)] at hK
    refine r_try H hm hTx hw fun τ hf ht h13 hne => ?_
    have Hr : MI τ := hf.mi H
    have hK1 := hK τ hf ht
    have hle := plL_fr (t := t) (Tx := Tx) 60 V 0 0
    have e0 := nI_eq (a := (plL t Tx 60 V 0 0).2.2.1) (b := 0) (by omega) (by decide)
    refine ⟨shM Hr, ?_⟩
    rw [h13]
    refine ⟨fun g2 => ?_, fun g2 => ?_⟩
    · have hz : (plL t Tx 60 V 0 0).2.2.1 ≠ 0 := fun z => g2 (e0.mpr z)
      rw [if_neg hz] at hK1
      obtain ⟨h9, h14⟩ := hne hz
      refine ⟨fun g3 => ⟨fun g4 => ⟨shM Hr, ?_⟩, fun g4 => ⟨shM Hr, ?_⟩⟩, fun g3 => ⟨shM Hr, ?_⟩⟩
      · rw [if_neg g3, if_neg g4] at hK1
        rw [h14]; exact hK1
      · rw [if_neg g3, if_pos (Classical.not_not.mp g4)] at hK1
        exact hK1
      · rw [if_pos (Classical.not_not.mp g3)] at hK1
        rw [h9]; exact hK1
    · rw [if_pos (e0.mp (Classical.not_not.mp g2))] at hK1
      exact hK1
  · rw [if_neg (by rw [bI_2 g]; decide)] at hK0
    exact hK0
theorem m_ply (H : MI σ) (hm : MD σ V n Hs t Tx) (hTx : ∀ j, j < t → Tx j ≤ 126) (hw : WF 9999 V)
    (hK1 : (plL t Tx 60 V 0 0).2.2.1 = 0 → ∀ τ, FrM σ τ → MD τ (plL t Tx 60 V 0 0).2.1 (pushN n) (pushH n Hs V) t Tx → K (nI (plL t Tx 60 V 0 0).1) τ)
    (hK2 : (plL t Tx 60 V 0 0).2.2.1 ≠ 0 → ∀ τ, FrM σ τ → MD τ V n Hs t Tx → K (-1000002 : Int32) τ) : cI E 166 [.ref 179] σ K := by
  refine sg166_0 ⟨shM H, _, rM0 H, shM H, _, rM2 H, ?_⟩
  refine r_try H hm hTx hw fun τ hf ht h13 hne => ?_
  have Hr : MI τ := hf.mi H
  have hle := plL_fr (t := t) (Tx := Tx) 60 V 0 0
  have e0 := nI_leI (a := (plL t Tx 60 V 0 0).2.2.1) (b := 0) (by omega) (by decide)
  refine ⟨shM Hr, ?_⟩
  rw [h13]
  refine ⟨fun g => ⟨shM Hr, r_rec Hr ht fun ρ hf2 hr => ?_⟩, fun g => ?_⟩
  · have Hp : MI ρ := hf2.mi Hr
    have ep := nS_self hr
    refine ⟨shM Hp, ?_⟩
    have hz : (plL t Tx 60 V 0 0).2.2.1 = 0 := by have := e0.mp g; omega
    have h := r_da (E := E) (σ := ρ) (P := ρ.2.1 179) (T := ρ.2.1 186) (f := ρ.2.1 185) (K := fun x11 s10 => QI K (some (.int x11)) s10) Hp hr.2.2.2.2.2.1 hTx hr.2.2.2.2.2.2 hr.2.2.2.2.1 hw (fun P' T' f' hp => hK1 hz _ ((hf.tr hf2).tr n_f) (n_md hr (hp.2.2 4 (by decide) (by decide) (by decide) (by decide) (by decide) (by decide)) (hp.2.2 6 (by decide) (by decide) (by decide) (by decide) (by decide) (by decide))))
    rw [ep] at h
    exact h
  · have hz : (plL t Tx 60 V 0 0).2.2.1 ≠ 0 := fun z => g (e0.mpr (by omega))
    exact hK2 hz τ hf ht
end REF21
end
section
/-! the component's state: what it holds of the vector; who is reached -/
def RG (U : Nat → Nat → Int32) (V : Nat → Nat) : Prop := U 0 4 = nI (V 1) ∧ U 0 5 = nI (V 2) ∧ U 0 6 = nI (V 0) ∧ U 0 7 = nI (V 11) ∧ U 0 8 = nI (V 12) ∧ U 0 9 = nI (V 13) ∧ U 0 10 = nI (V 14)
def RS (U : Nat → Nat → Int32) (V : Nat → Nat) : Prop := ∀ s, s < 8 → U 3 s = nI (V (3 + s))
def RK (U : Nat → Nat → Int32) (V : Nat → Nat) : Prop := U 4 2 = nI (V 15) ∧ ∀ a, a < V 15 → U 5 (V 15 - 1 - a) = nI (V (16 + 2 * a)) ∧ U 6 (V 15 - 1 - a) = nI (V (17 + 2 * a))
def RI (U : Nat → Nat → Int32) (V : Nat → Nat) (i : Nat) : Prop := U (7 + i) 0 = nI (V (32 + 5 * i + 0)) ∧ U (7 + i) 1 = nI (V (32 + 5 * i + 1)) ∧ U (7 + i) 2 = nI (V (32 + 5 * i + 3)) ∧ U (7 + i) 3 = nI (V (32 + 5 * i + 2)) ∧ U (7 + i) 4 = nI (V (32 + 5 * i + 4))
def RB (U : Nat → Nat → Int32) (V : Nat → Nat) (b : Nat) : Prop := U (15 + b) 0 = nI (V (72 + 8 * b + 0)) ∧ U (15 + b) 1 = nI (V (72 + 8 * b + 1)) ∧ U (15 + b) 2 = nI (endsM V b) ∧ U (15 + b) 3 = nI (V (72 + 8 * b + 2)) ∧ U (15 + b) 4 = nI (V (72 + 8 * b + 3)) ∧ U (15 + b) 5 = nI (stOf V b) ∧ U (15 + b) 6 = nI (V (72 + 8 * b + 5)) ∧ U (15 + b) 7 = nI (V (72 + 8 * b + 6)) ∧ U (15 + b) 8 = nI (V (72 + 8 * b + 7))
def Rel (U : Nat → Nat → Int32) (V : Nat → Nat) : Prop := RG U V ∧ RS U V ∧ RK U V ∧ (∀ i, i < V 1 → RI U V i) ∧ ∀ b, b < V 2 → RB U V b
section COM1
variable {E : AEnv} {σ τ : ASt} {B : Nat} {U : Nat → Nat → Int32} {V : Nat → Nat} {m n t : Nat} {Q : Option Value → ASt → Prop} {K : Int32 → ASt → Prop} {KV : ASt → Prop}
theorem gB {b k : Nat} (h : b < 14) : gI (bS σ B U) (B + 15 + b) k = U (15 + b) k := by
  rw [Nat.add_assoc]; exact bS_get (by omega)
theorem gIl {b k : Nat} (h : b < 8) : gI (bS σ B U) (B + 7 + b) k = U (7 + b) k := by
  rw [Nat.add_assoc]; exact bS_get (by omega)
theorem wB {b k : Nat} {x : Int32} (h : b < 14) : wrI (bS σ B U) (B + 15 + b) k x = bS σ B (upU U (15 + b) k x) := by
  rw [Nat.add_assoc]; exact bS_put (by omega)
theorem wIl {b k : Nat} {x : Int32} (h : b < 8) : wrI (bS σ B U) (B + 7 + b) k x = bS σ B (upU U (7 + b) k x) := by
  rw [Nat.add_assoc]; exact bS_put (by omega)
theorem c_isI (H : MI σ) (hB : isB B) (hw : WF m V) (R : Rel U V) {x : Int32} (hK : K (bI (inIs V x)) (bS σ B U)) : cI E 20 [.ref B, .int x] (bS σ B U) K := by
  have h1 := hw.1
  unfold W1 at h1
  have ii := inIs_i (x := x) hw
  have no : ¬ inIs V x = true → K (nI 0) (bS σ B U) := fun h => by
    have h' : inIs V x = false := by
      cases hq : inIs V x with
      | false => rfl
      | true => exact absurd hq h
    rw [h'] at hK
    exact hK
  refine sg20_0 ⟨fun g => ⟨fb0, no fun z => ?_⟩, fun g => ⟨shS H hB, ?_⟩⟩
  · obtain ⟨j, hj, rfl⟩ := ii.mp z
    rw [nI_ltI (by omega) (by decide)] at g
    omega
  · obtain ⟨j, hj, rfl⟩ := nI_of g
    rw [bS_get0, R.1.1]
    have e := nI_leI (a := V 1) (b := j) (by omega) hj
    refine ⟨fun g2 => ⟨fb0, no fun z => ?_⟩, fun g2 => ⟨fb1, ?_⟩⟩
    · obtain ⟨i, hi, ei⟩ := ii.mp z
      have := (nI_eq hj (by omega)).mp ei
      have := e.mp g2
      omega
    · have : inIs V (nI j) = true := ii.mpr ⟨j, by have : ¬ V 1 ≤ j := fun z => g2 (e.mpr z); omega, rfl⟩
      rw [this] at hK
      exact hK
theorem c_isB (H : MI σ) (hB : isB B) (hw : WF m V) (R : Rel U V) {x : Int32} (hK : K (bI (inBr V x)) (bS σ B U)) : cI E 21 [.ref B, .int x] (bS σ B U) K := by
  have h1 := hw.1
  unfold W1 at h1
  have ii := inBr_i (x := x) hw
  have no : ¬ inBr V x = true → K (nI 0) (bS σ B U) := fun h => by
    have h' : inBr V x = false := by
      cases hq : inBr V x with
      | false => rfl
      | true => exact absurd hq h
    rw [h'] at hK
    exact hK
  refine sg21_0 ⟨fun g => ⟨fb0, no fun z => ?_⟩, fun g => ⟨shS H hB, ?_⟩⟩
  · obtain ⟨j, hj, rfl⟩ := ii.mp z
    rw [nI_ltI (by omega) (by decide)] at g
    omega
  · obtain ⟨j, hj, rfl⟩ := nI_of g
    rw [bS_get0, R.1.2.1]
    have e := nI_leI (a := V 2) (b := j) (by omega) hj
    refine ⟨fun g2 => ⟨fb0, no fun z => ?_⟩, fun g2 => ⟨fb1, ?_⟩⟩
    · obtain ⟨i, hi, ei⟩ := ii.mp z
      have := (nI_eq hj (by omega)).mp ei
      have := e.mp g2
      omega
    · have : inBr V (nI j) = true := ii.mpr ⟨j, by have : ¬ V 2 ≤ j := fun z => g2 (e.mpr z); omega, rfl⟩
      rw [this] at hK
      exact hK
theorem c_hol {s : ASt} {S i : Nat} (hS : S < 2 ^ 31) (hi : i < 32) (hK : K (bI (bt S i)) s) : cI E 88 [.int (nI S), .int (nI i)] s K := by
  have e := bt_1 hS hi
  refine sg88_0 ⟨fun g => ⟨fb0, ?_⟩, fun g => ⟨fb1, ?_⟩⟩
  · have : bt S i = false := by
      cases hq : bt S i with
      | false => rfl
      | true => exact absurd (e.mpr hq) g
    rw [this] at hK; exact hK
  · rw [e.mp (Classical.not_not.mp g)] at hK; exact hK
theorem c_stL (H : MI σ) (hB : isB B) (hw : WF m V) (R : Rel U V) {c : Nat} (hc : c < 3) (hK : Q (some (.int (nI (setN (isSt V c) (V 2))))) (bS σ B U)) : ∀ d k : Nat, k + d = V 2 → wp E 38 4 [.ref B, .int (nI c), .int (nI (setN (isSt V c) k)), .int (nI k)] [] (bS σ B U) Q := by
  have h1 := hw.1
  unfold W1 at h1
  intro d
  induction d with
  | zero =>
    intro k hk
    obtain rfl : k = V 2 := by omega
    refine sg38_4 ⟨shS H hB, fun _ => hK, fun h => absurd ?_ h⟩
    rw [bS_get0, R.1.2.1]
    exact nI_le (Nat.le_refl _) (by omega)
  | succ d ih =>
    intro k hk
    have nx := ih (k + 1) (by omega)
    have hs := setN_lt' (isSt V c) (n := k) (by omega)
    have h3 := stOf_lt V k
    have hp : 2 ^ k < 2 ^ 14 := Nat.pow_lt_pow_right (by decide) (by omega)
    have e := nI_eq (a := stOf V k) (b := c) (by omega) (by omega)
    have rb := R.2.2.2.2 k (by omega)
    rw [setN] at nx
    refine sg38_4 ⟨shS H hB, fun h => absurd h ?_, fun _ => ⟨shS H hB, _, rS1 H hB, 14, _, shBA H hB, vi (by omega) (by omega), rBAc H hB (by omega), shB H hB (by omega), ?_⟩⟩
    · rw [bS_get0, R.1.2.1]
      exact nI_ge (by omega) (by omega)
    · rw [gB (by omega), rb.2.2.2.2.2.1]
      refine ⟨fun h => ?_, fun h => ?_⟩
      · rw [if_neg (show ¬ isSt V c k = true from fun z => h (e.mpr (beq_iff'.mp z)))] at nx
        rw [nI_add]; exact nx
      · rw [if_pos (show isSt V c k = true from beq_iff'.mpr (e.mp (Classical.not_not.mp h)))] at nx
        rw [nI_shl (by omega), nI_or (by omega) (by omega), nI_add]; exact nx
theorem c_st (H : MI σ) (hB : isB B) (hw : WF m V) (R : Rel U V) {c : Nat} (hc : c < 3) (hK : K (nI (setN (isSt V c) (V 2))) (bS σ B U)) : cI E 38 [.ref B, .int (nI c)] (bS σ B U) K := sg38_0 (c_stL H hB hw R hc hK (V 2) 0 (by omega))
theorem st0 (hw : WF m V) {b : Nat} (hb : b < V 2) : stOf V b = 0 ↔ opn V b = true := by
  have h3 := hw.2.2.1 b hb
  have e : opn V b = true ↔ V (72 + 8 * b + 4) = 0 ∧ 0 < V (72 + 8 * b + 3) := by
    unfold opn
    rw [Bool.and_eq_true, beq_iff', Nat.blt_eq]
  rw [e]
  unfold stOf pntd
  by_cases h : V (72 + 8 * b + 4) = 1
  · rw [if_pos (beq_iff'.mpr h)]; omega
  · rw [if_neg (fun z => h (beq_iff'.mp z))]
    split <;> omega
theorem c_oneL (H : MI σ) (hB : isB B) (hw : WF m V) (R : Rel U V) {x : Int32} {wo S : Nat} (hx : woI x wo) (hS : S < 2 ^ 8) (hK : Q (some (.int (nI (jac V wo S (V 2))))) (bS σ B U)) : ∀ d k : Nat, k + d = V 2 → wp E 40 5 [.ref B, .int (nI S), .int x, .int (nI (jac V wo S k)), .int (nI k)] [] (bS σ B U) Q := by
  have h1 := hw.1
  unfold W1 at h1
  intro d
  induction d with
  | zero =>
    intro k hk
    obtain rfl : k = V 2 := by omega
    refine sg40_5 ⟨shS H hB, fun _ => hK, fun h => absurd ?_ h⟩
    rw [bS_get0, R.1.2.1]
    exact nI_le (Nat.le_refl _) (by omega)
  | succ d ih =>
    intro k hk
    have nx := ih (k + 1) (by omega)
    have rb := R.2.2.2.2 k (by omega)
    have hj := jac_lt hw.ends (wo := wo) hS k (by omega)
    have he := ends_lt hw.ends (b := k) (by omega)
    have h3 := stOf_lt V k
    have e0 := nI_eq (a := stOf V k) (b := 0) (by omega) (by decide)
    have s0 := st0 hw (b := k) (by omega)
    rw [jac] at nx
    refine sg40_5 ⟨shS H hB, fun h => absurd h ?_, fun _ => ⟨shS H hB, _, rS1 H hB, 14, _, shBA H hB, vi (by omega) (by omega), rBAc H hB (by omega), shB H hB (by omega), ?_⟩⟩
    · rw [bS_get0, R.1.2.1]
      exact nI_ge (by omega) (by omega)
    · rw [gB (by omega), rb.2.2.2.2.2.1, gB (by omega), rb.2.2.1, nI_and (by omega) (by omega)]
      refine ⟨fun h => ?_, fun h => ⟨fun h2 => ?_, fun h2 => ⟨shB H hB (by omega), fun h4 => ?_, fun h4 => ⟨shB H hB (by omega), ?_⟩⟩⟩⟩
      · have e : opn V k = false := by
          cases hq : opn V k with
          | false => rfl
          | true => exact absurd (e0.mpr (s0.mpr hq)) h
        rw [if_neg (by unfold useB; rw [e]; exact ff)] at nx
        rw [nI_add]; exact nx
      · have e : Nat.beq k wo = true := beq_iff'.mpr ((hx k (by omega)).mp h2)
        rw [if_neg (by unfold useB; rw [e]; cases opn V k <;> exact ff)] at nx
        rw [nI_add]; exact nx
      · have h5 : S &&& endsM V k = 0 := (nI_eq (Nat.lt_of_le_of_lt Nat.and_le_left (by omega)) (by decide)).mp h4
        rw [if_neg (by unfold hit; rw [h5]; cases useB V wo k <;> exact ff)] at nx
        rw [nI_add]; exact nx
      · have h5 : S &&& endsM V k ≠ 0 := fun z => h4 (congrArg nI z)
        have e1 := s0.mp (e0.mp (Classical.not_not.mp h))
        have e2 : Nat.beq k wo = false := by
          cases hq : Nat.beq k wo with
          | false => rfl
          | true => exact absurd ((hx k (by omega)).mpr (beq_iff'.mp hq)) h2
        have e3 : Nat.beq (S &&& endsM V k) 0 = false := by
          cases hq : Nat.beq (S &&& endsM V k) 0 with
          | false => rfl
          | true => exact absurd (beq_iff'.mp hq) h5
        rw [if_pos (by unfold useB hit; rw [e1, e2, e3]; rfl)] at nx
        rw [nI_or (by omega) (by omega), nI_add]; exact nx
theorem c_one (H : MI σ) (hB : isB B) (hw : WF m V) (R : Rel U V) {x : Int32} {wo S : Nat} (hx : woI x wo) (hS : S < 2 ^ 8) (hK : K (nI (jac V wo S (V 2))) (bS σ B U)) : cI E 40 [.ref B, .int (nI S), .int x] (bS σ B U) K := sg40_0 (c_oneL H hB hw R hx hS hK (V 2) 0 (by omega))
theorem c_reaL (H : MI σ) (hB : isB B) (hw : WF m V) (R : Rel U V) {x : Int32} {i wo : Nat} (hi : i < 8) (hx : woI x wo) (hK : Q (some (.int (nI (reachV V i wo)))) (bS σ B U)) : ∀ d k : Nat, k + d = 8 → wp E 39 7 [.ref B, .int (nI i), .int x, .int (nI (itJ V wo (2 ^ i) k)), .int (nI k)] [] (bS σ B U) Q := by
  have hp : 2 ^ i < 2 ^ 8 := Nat.pow_lt_pow_right (by decide) hi
  intro d
  induction d with
  | zero =>
    intro k hk
    obtain rfl : k = 8 := by omega
    exact sg39_7 ⟨fun _ => hK, fun h => absurd (nI_le (Nat.le_refl _) (by decide)) h⟩
  | succ d ih =>
    intro k hk
    have nx := ih (k + 1) (by omega)
    have hS := itJ_lt hw.ends (wo := wo) hp k
    have hJ := jac_lt hw.ends (wo := wo) hS _ (Nat.le_refl _)
    rw [itJ] at nx
    refine sg39_7 ⟨fun h => absurd h (nI_ge (by omega) (by omega)), fun _ => ⟨shS H hB, c_one H hB hw R hx hS ⟨fun g => ?_, fun g => ?_⟩⟩⟩
    · rw [nI_add]; exact nx
    · have he := (nI_eq (by omega) (by omega)).mp (Classical.not_not.mp g)
      have e : itJ V wo (2 ^ i) k = reachV V i wo := (itJ_le (reach_closed hw.ends hi) (reach_ge V i wo) k).anti (reach_le (jac_fix he) (itJ_ge V wo _ k))
      rw [e]; exact hK
theorem c_rea (H : MI σ) (hB : isB B) (hw : WF m V) (R : Rel U V) {x : Int32} {i wo : Nat} (hi : i < 8) (hx : woI x wo) (hK : K (nI (reachV V i wo)) (bS σ B U)) : cI E 39 [.ref B, .int (nI i), .int x] (bS σ B U) K := by
  refine sg39_0 ?_
  rw [nI_shl (by omega)]
  exact c_reaL H hB hw R hi hx hK 8 0 (by omega)
theorem c_los (H : MI σ) (hB : isB B) (hw : WF m V) (R : Rel U V) {b : Nat} (hb : b < 14) (hK : K (nI (cutV V b)) (bS σ B U)) : cI E 41 [.ref B, .int (nI b)] (bS σ B U) K := by
  refine sg41_0 ⟨shS H hB, c_rea H hB hw R (by decide) woI_m ⟨shS H hB, c_rea H hB hw R (by decide) (woI_b hb) ?_⟩⟩
  have h1 := reach_lt hw.ends (i := 0) (wo := 99) (by decide)
  have h2 := reach_lt hw.ends (i := 0) (wo := b) (by decide)
  rw [nI_andn (by omega) (by omega)]
  exact hK
end COM1
end
section
/-! the component's questions about islands -/
section COM2
variable {E : AEnv} {σ τ : ASt} {B : Nat} {U : Nat → Nat → Int32} {V : Nat → Nat} {m n t : Nat} {Q : Option Value → ASt → Prop} {K : Int32 → ASt → Prop} {KV : ASt → Prop}
theorem cut0 (hw : WF m V) {b : Nat} : cutV V b = 0 ↔ reachV V 0 b = reachV V 0 99 := by
  have h1 := hw.1
  unfold W1 at h1
  unfold cutV
  constructor
  · intro h
    refine subM.anti (reach_wo hw.ends (by decide) fun c hc => by omega) fun i hi => ?_
    have h2 : (reachV V 0 99 ^^^ (reachV V 0 99 &&& reachV V 0 b)).testBit i = (0 : Nat).testBit i := by rw [h]
    rw [Nat.testBit_xor, Nat.testBit_and, hi, Nat.zero_testBit] at h2
    cases hq : (reachV V 0 b).testBit i with
    | true => rfl
    | false => rw [hq] at h2; exact absurd h2 (by decide)
  · intro h
    rw [h, Nat.and_self, Nat.xor_self]
theorem c_ndL (H : MI σ) (hB : isB B) (hw : WF m V) (R : Rel U V) (hK : Q (some (.int (nI (setN (isNd V) (V 2))))) (bS σ B U)) : ∀ d k : Nat, k + d = V 2 → wp E 42 11 [.ref B, .int (nI (reachV V 0 99)), .int (nI (setN (isNd V) k)), .int (nI k)] [] (bS σ B U) Q := by
  have h1 := hw.1
  unfold W1 at h1
  intro d
  induction d with
  | zero =>
    intro k hk
    obtain rfl : k = V 2 := by omega
    refine sg42_11 ⟨shS H hB, fun _ => hK, fun h => absurd ?_ h⟩
    rw [bS_get0, R.1.2.1]
    exact nI_le (Nat.le_refl _) (by omega)
  | succ d ih =>
    intro k hk
    have nx := ih (k + 1) (by omega)
    have hs := setN_lt' (isNd V) (n := k) (by omega)
    have h3 := stOf_lt V k
    have hp : 2 ^ k < 2 ^ 14 := Nat.pow_lt_pow_right (by decide) (by omega)
    have e0 := nI_eq (a := stOf V k) (b := 0) (by omega) (by decide)
    have s0 := st0 hw (b := k) (by omega)
    have rb := R.2.2.2.2 k (by omega)
    have r1 := reach_lt hw.ends (i := 0) (wo := 99) (by decide)
    have r2 := reach_lt hw.ends (i := 0) (wo := k) (by decide)
    have er := nI_eq (a := reachV V 0 k) (b := reachV V 0 99) (by omega) (by omega)
    have ec := cut0 hw (b := k)
    rw [setN] at nx
    refine sg42_11 ⟨shS H hB, fun h => absurd h ?_, fun _ => ⟨shS H hB, _, rS1 H hB, 14, _, shBA H hB, vi (by omega) (by omega), rBAc H hB (by omega), shB H hB (by omega), ?_⟩⟩
    · rw [bS_get0, R.1.2.1]
      exact nI_ge (by omega) (by omega)
    · rw [gB (by omega), rb.2.2.2.2.2.1]
      refine ⟨fun h => ?_, fun h => ⟨shS H hB, c_rea H hB hw R (by decide) (woI_b (by omega)) ⟨fun h2 => ?_, fun h2 => ?_⟩⟩⟩
      · have e : opn V k = false := by
          cases hq : opn V k with
          | false => rfl
          | true => exact absurd (e0.mpr (s0.mpr hq)) h
        rw [if_neg (by unfold isNd; rw [e]; exact ff)] at nx
        rw [nI_add]; exact nx
      · rw [if_neg (by unfold isNd; rw [ec.mpr (er.mp h2)]; cases opn V k <;> exact ff)] at nx
        rw [nI_add]; exact nx
      · rw [if_pos (by
          unfold isNd
          rw [s0.mp (e0.mp (Classical.not_not.mp h))]
          cases hq : Nat.beq (cutV V k) 0 with
          | false => rfl
          | true => exact absurd (er.mpr (ec.mp (beq_iff'.mp hq))) h2)] at nx
        rw [nI_shl (by omega), nI_or (by omega) (by omega), nI_add]; exact nx
theorem c_nd (H : MI σ) (hB : isB B) (hw : WF m V) (R : Rel U V) (hK : K (nI (setN (isNd V) (V 2))) (bS σ B U)) : cI E 42 [.ref B] (bS σ B U) K := sg42_0 ⟨shS H hB, c_rea H hB hw R (by decide) woI_m (c_ndL H hB hw R hK (V 2) 0 (by omega))⟩
def fwC (V : Nat → Nat) (i : Nat) : Nat → Nat → Nat → Int32
  | 0, _, _ => (-1000004 : Int32)
  | d + 1, S, k => if bt S i = true then nI k else fwC V i d (jac V 99 S (V 2)) (k + 1)
theorem fw_eq (hw : WF m V) {i : Nat} : ∀ d k : Nat, k + d = 8 → (k ≠ 0 → bt (itJ V 99 1 (k - 1)) i = false) → fwD V i d (itJ V 99 1 k) k = fwC V i d (itJ V 99 1 k) k := by
  intro d
  induction d with
  | zero =>
    intro k hk h
    obtain rfl : k = 8 := by omega
    rw [fwD, fwC]
    have g : itJ V 99 1 8 = itJ V 99 1 7 ∨ cntM 1 8 + 7 < cntM (itJ V 99 1 8) 8 := itJ_grow hw.ends (wo := 99) (S := 1) (by decide) 7
    have c1 : cntM 1 8 = 1 := by decide
    have c2 := cnt_le (itJ V 99 1 8) 8
    have e : itJ V 99 1 8 = itJ V 99 1 7 := by
      rcases g with g | g
      · exact g
      · omega
    rw [e, h (by decide), if_neg ff]
  | succ d ih =>
    intro k hk h
    rw [fwD, fwC]
    split
    · rfl
    · rename_i hb
      have hb' : bt (itJ V 99 1 k) i = false := by
        cases hq : bt (itJ V 99 1 k) i with
        | false => rfl
        | true => exact absurd hq hb
      exact ih (k + 1) (by omega) fun _ => hb'
theorem fw_is (hw : WF m V) {i : Nat} : fwD V i 8 1 0 = fwC V i 8 1 0 := fw_eq hw 8 0 (by decide) fun h => absurd rfl h
theorem c_btL (H : MI σ) (hB : isB B) (hw : WF m V) (R : Rel U V) {i : Nat} (hi : i < 8) : ∀ d k S : Nat, k + d = 8 → S < 2 ^ 8 → Q (some (.int (fwC V i d S k))) (bS σ B U) → wp E 43 4 [.ref B, .int (nI i), .int (nI S), .int (nI k)] [] (bS σ B U) Q := by
  intro d
  induction d with
  | zero =>
    intro k S hk hS hK
    obtain rfl : k = 8 := by omega
    exact sg43_4 ⟨fun _ => hK, fun h => absurd (nI_le (Nat.le_refl _) (by decide)) h⟩
  | succ d ih =>
    intro k S hk hS hK
    rw [fwC] at hK
    refine sg43_4 ⟨fun h => absurd h (nI_ge (by omega) (by omega)), fun _ => c_hol (by omega) (by omega) ⟨fun g => ⟨shS H hB, c_one H hB hw R woI_m hS ?_⟩, fun g => ?_⟩⟩
    · rw [if_neg (bI_3 g)] at hK
      rw [nI_add]
      exact ih (k + 1) _ (by omega) (jac_lt hw.ends hS _ (Nat.le_refl _)) hK
    · rw [if_pos (bI_1 g)] at hK
      exact hK
theorem c_bt (H : MI σ) (hB : isB B) (hw : WF m V) (R : Rel U V) {i : Nat} (hi : i < 8) (hK : K (fwD V i 8 1 0) (bS σ B U)) : cI E 43 [.ref B, .int (nI i)] (bS σ B U) K := by
  rw [fw_is hw] at hK
  exact sg43_0 (c_btL H hB hw R hi 8 0 1 (by omega) (by decide) hK)
theorem ends_b {b i : Nat} : bt (endsM V b) i = true ↔ V (72 + 8 * b + 0) = i ∨ V (72 + 8 * b + 1) = i := by
  rw [bt_tb]
  unfold endsM
  rw [Nat.testBit_or, Nat.testBit_two_pow, Nat.testBit_two_pow, Bool.or_eq_true, decide_eq_true_iff, decide_eq_true_iff]
theorem c_oaL (H : MI σ) (hB : isB B) (hw : WF m V) (R : Rel U V) {i : Nat} (hi : i < 8) (hK : Q (some (.int (nI (oaN V i (V 2))))) (bS σ B U)) : ∀ d k : Nat, k + d = V 2 → wp E 44 4 [.ref B, .int (nI i), .int (nI (oaN V i k)), .int (nI k)] [] (bS σ B U) Q := by
  have h1 := hw.1
  unfold W1 at h1
  intro d
  induction d with
  | zero =>
    intro k hk
    obtain rfl : k = V 2 := by omega
    refine sg44_4 ⟨shS H hB, fun _ => hK, fun h => absurd ?_ h⟩
    rw [bS_get0, R.1.2.1]
    exact nI_le (Nat.le_refl _) (by omega)
  | succ d ih =>
    intro k hk
    have nx := ih (k + 1) (by omega)
    have h3 := stOf_lt V k
    have e0 := nI_eq (a := stOf V k) (b := 0) (by omega) (by decide)
    have s0 := st0 hw (b := k) (by omega)
    have rb := R.2.2.2.2 k (by omega)
    have he := ends_lt hw.ends (b := k) (by omega)
    have eb := ends_b (V := V) (b := k) (i := i)
    rw [oaN] at nx
    refine sg44_4 ⟨shS H hB, fun h => absurd h ?_, fun _ => ⟨shS H hB, _, rS1 H hB, 14, _, shBA H hB, vi (by omega) (by omega), rBAc H hB (by omega), shB H hB (by omega), ?_⟩⟩
    · rw [bS_get0, R.1.2.1]
      exact nI_ge (by omega) (by omega)
    · rw [gB (by omega), rb.2.2.2.2.2.1]
      refine ⟨fun h => ?_, fun h => ⟨shS H hB, _, rS1 H hB, 14, _, shBA H hB, vi (by omega) (by omega), rBAc H hB (by omega), shB H hB (by omega), ?_⟩⟩
      · rw [if_neg (fun z => h (e0.mpr (s0.mpr z.1)))] at nx
        rw [nI_add]; exact nx
      · rw [gB (by omega), rb.2.2.1]
        have ho := s0.mp (e0.mp (Classical.not_not.mp h))
        refine c_hol (by omega) (by omega) ⟨fun g => ?_, fun g => ?_⟩
        · rw [if_neg (fun z => bI_3 g (eb.mpr z.2))] at nx
          rw [nI_add]; exact nx
        · rw [if_pos ⟨ho, eb.mp (bI_1 g)⟩] at nx
          rw [nI_add, nI_add]; exact nx
theorem c_oa (H : MI σ) (hB : isB B) (hw : WF m V) (R : Rel U V) {i : Nat} (hi : i < 8) (hK : K (nI (oaN V i (V 2))) (bS σ B U)) : cI E 44 [.ref B, .int (nI i)] (bS σ B U) K := sg44_0 (c_oaL H hB hw R hi hK (V 2) 0 (by omega))
end COM2
end
section
/-! the component's sums; how many are painted -/
section COM3
variable {E : AEnv} {σ τ : ASt} {B : Nat} {U : Nat → Nat → Int32} {V : Nat → Nat} {m n t : Nat} {Q : Option Value → ASt → Prop} {K : Int32 → ASt → Prop} {KV : ASt → Prop}
def bc1 (S : Nat) : Nat := S - (S / 2 ^ 1 &&& 1431655765)
def bc2 (x : Nat) : Nat := (x &&& 858993459) + (x / 2 ^ 2 &&& 858993459)
def bc3 (x : Nat) : Nat := (x + x / 2 ^ 4) &&& 252645135
def bc4 (x : Nat) : Nat := x + x / 2 ^ 8
def bc5 (x : Nat) : Nat := x + x / 2 ^ 16
def bcN (S : Nat) : Nat := bc5 (bc4 (bc3 (bc2 (bc1 S)))) &&& 63
theorem bc_all : (List.range 16384).all (fun S => Nat.beq (bcN S) (cntM S 14)) = true := by decide +kernel
end COM3
end
section
/-! free crews, reasons -/
section COM4
variable {E : AEnv} {σ τ : ASt} {B : Nat} {U : Nat → Nat → Int32} {V : Nat → Nat} {m n t : Nat} {Q : Option Value → ASt → Prop} {K : Int32 → ASt → Prop} {KV : ASt → Prop}
theorem ush {x : Nat} (hx : x < 2 ^ 31) {k : Nat} (hk : k < 31) : ((nI x).toUInt32 >>> ((nI k).toUInt32 &&& Int32.toUInt32 31)).toInt32 = nI (x / 2 ^ k) := by
  have h1 : ∀ k, k < 31 → (((nI k).toUInt32 &&& Int32.toUInt32 31).toBitVec % 32).toNat = k := by decide
  exact pk_ushrN (by omega) (nI k) k (h1 k hk)
theorem bc_is {S : Nat} (h : S < 16384) : bcN S = cntM S 14 := Nat.eq_of_beq_eq_true (List.all_eq_true.mp bc_all S (List.mem_range.mpr h))
theorem c_bc {s : ASt} {S : Nat} (h : S < 16384) (hK : K (nI (cntM S 14)) s) : cI E 170 [.int (nI S)] s K := by
  have d1 : S / 2 ^ 1 &&& 1431655765 ≤ S / 2 ^ 1 := Nat.and_le_left
  have h0 : S / 2 ^ 1 < 16384 := by omega
  have h1 : bc1 S < 16384 := by unfold bc1; omega
  have a1 : bc1 S &&& 858993459 ≤ bc1 S := Nat.and_le_left
  have a2 : bc1 S / 2 ^ 2 &&& 858993459 ≤ bc1 S / 2 ^ 2 := Nat.and_le_left
  have h2 : bc2 (bc1 S) < 32768 := by unfold bc2; omega
  have a3 : (bc2 (bc1 S) + bc2 (bc1 S) / 2 ^ 4) &&& 252645135 ≤ bc2 (bc1 S) + bc2 (bc1 S) / 2 ^ 4 := Nat.and_le_left
  have h3 : bc3 (bc2 (bc1 S)) < 65536 := by unfold bc3; omega
  have h4 : bc4 (bc3 (bc2 (bc1 S))) < 131072 := by unfold bc4; omega
  have h5 : bc5 (bc4 (bc3 (bc2 (bc1 S)))) < 262144 := by unfold bc5; omega
  rw [← bc_is h] at hK
  refine sg170_0 ?_
  rw [ush (x := S) (k := 1) (by omega) (by decide), nI_and (a := S / 2 ^ 1) (b := 1431655765) (by omega) (by decide), show nI S - nI (S / 2 ^ 1 &&& 1431655765) = nI (bc1 S) from pk_sub (by omega)]
  rw [nI_and (a := bc1 S) (b := 858993459) (by omega) (by decide), ush (x := bc1 S) (k := 2) (by omega) (by decide), nI_and (a := bc1 S / 2 ^ 2) (b := 858993459) (by omega) (by decide), show nI (bc1 S &&& 858993459) + nI (bc1 S / 2 ^ 2 &&& 858993459) = nI (bc2 (bc1 S)) from nI_add _ _]
  rw [ush (x := bc2 (bc1 S)) (k := 4) (by omega) (by decide), nI_add, nI_and (a := bc2 (bc1 S) + bc2 (bc1 S) / 2 ^ 4) (b := 252645135) (by omega) (by decide), show nI (bc2 (bc1 S) + bc2 (bc1 S) / 2 ^ 4 &&& 252645135) = nI (bc3 (bc2 (bc1 S))) from rfl]
  rw [ush (x := bc3 (bc2 (bc1 S))) (k := 8) (by omega) (by decide), nI_add, show nI (bc3 (bc2 (bc1 S)) + bc3 (bc2 (bc1 S)) / 2 ^ 8) = nI (bc4 (bc3 (bc2 (bc1 S)))) from rfl]
  rw [ush (x := bc4 (bc3 (bc2 (bc1 S)))) (k := 16) (by omega) (by decide), nI_add, show nI (bc4 (bc3 (bc2 (bc1 S))) + bc4 (bc3 (bc2 (bc1 S))) / 2 ^ 16) = nI (bc5 (bc4 (bc3 (bc2 (bc1 S))))) from rfl, nI_and (a := bc5 (bc4 (bc3 (bc2 (bc1 S))))) (b := 63) (by omega) (by decide)]
  exact hK
theorem c_max {s : ASt} {x y : Int32} (h1 : x < y → K y s) (h2 : ¬ x < y → K x s) : cI E 171 [.int x, .int y] s K := sg171_0 ⟨h1, h2⟩
theorem cnt_set (p : Nat → Bool) {N : Nat} : ∀ k, k ≤ N → cntM (setN p N) k = cntM (setN p k) k
  | 0, _ => rfl
  | k + 1, h => by
    have e : ∀ j, j ≤ k → cntM (setN p N) j = cntM (setN p (k + 1)) j := by
      intro j
      induction j with
      | zero => intro _; rfl
      | succ j ih =>
        intro hj
        rw [cntM, cntM, ih (by omega), setN_b, setN_b, decide_eq_true (by omega : j < N), decide_eq_true (by omega : j < k + 1)]
    rw [cntM, cntM, e k (Nat.le_refl _), setN_b, setN_b, decide_eq_true (by omega : k < N), decide_eq_true (by omega : k < k + 1)]
theorem cnt_pc (hw : WF m V) : ∀ k N, k ≤ N → k ≤ V 2 → cntM (setN (isSt V 1) N) k = pcN V k
  | 0, _, _, _ => rfl
  | k + 1, N, hN, hk => by
    have h3 := hw.2.2.1 k (by omega)
    rw [cntM, pcN, cnt_pc hw k N (by omega) (by omega), setN_b, decide_eq_true (by omega : k < N), Bool.true_and]
    congr 1
    have e : isSt V 1 k = true ↔ V (72 + 8 * k + 4) = 1 := by
      unfold isSt stOf
      rw [beq_iff']
      by_cases h : V (72 + 8 * k + 4) = 1
      · rw [if_pos (show pntd V k = true from beq_iff'.mpr h)]
        exact ⟨fun _ => h, fun _ => rfl⟩
      · rw [if_neg (show ¬ pntd V k = true from fun z => h (beq_iff'.mp z))]
        split <;> omega
    by_cases h : V (72 + 8 * k + 4) = 1
    · rw [if_pos (e.mpr h), h]
    · rw [if_neg (fun z => h (e.mp z))]; omega
theorem cnt_up {S : Nat} {k : Nat} (h : S < 2 ^ k) : ∀ n, k ≤ n → cntM S n = cntM S k := by
  intro n
  induction n with
  | zero => intro hk; rw [show k = 0 by omega]
  | succ n ih =>
    intro hk
    by_cases hkn : k = n + 1
    · rw [hkn]
    · have hz : S.testBit n = false := Nat.testBit_lt_two_pow (Nat.lt_of_lt_of_le h (Nat.pow_le_pow_right (by decide) (by omega)))
      rw [cntM, ih (by omega), hz, if_neg ff]
      rfl
theorem c_fc (H : MI σ) (hB : isB B) (hw : WF m V) (R : Rel U V) (hK : K (nI (V 3 - pcV V)) (bS σ B U)) : cI E 35 [.ref B] (bS σ B U) K := by
  have h1 := hw.1
  unfold W1 at h1
  have h2 := hw.2.1
  unfold W2 at h2
  have hp := pcV_le hw
  have hs := setN_lt' (isSt V 1) (n := V 2) (by omega)
  refine sg35_0 ⟨shS H hB, _, rS2 H hB, 8, shSe H hB, vi (by decide) (by decide), shS H hB, c_st H hB hw R (by decide) (c_bc hs ?_)⟩
  rw [cnt_up (setN_lt (isSt V 1) (V 2)) 14 (by omega), cnt_pc hw (V 2) (V 2) (Nat.le_refl _) (Nat.le_refl _), bS_get (by decide), R.2.1 0 (by decide)]
  show cI E 171 [.int (nI 0), .int (nI (V 3) - nI (pcV V))] (bS σ B U) _
  by_cases h : pcV V ≤ V 3
  · rw [pk_sub h]
    have e := nI_ltI (a := 0) (b := V 3 - pcV V) (by decide) (by omega)
    refine c_max (fun _ => hK) fun g => ?_
    have : V 3 - pcV V = 0 := by
      have : ¬ 0 < V 3 - pcV V := fun z => g (e.mpr z)
      omega
    rw [this] at hK
    exact hK
  · refine c_max (fun g => ?_) fun g => ?_
    · exfalso
      refine h (nI_subT (by omega) (by omega) ?_)
      rw [Int32.lt_iff_toInt_lt] at g
      rw [Int32.le_iff_toInt_le]
      omega
    · rw [show V 3 - pcV V = 0 by omega] at hK
      exact hK
end COM4
end
section
/-! the component's reasons and its best -/
section COM5
variable {E : AEnv} {σ τ : ASt} {B : Nat} {U : Nat → Nat → Int32} {V : Nat → Nat} {m n t : Nat} {Q : Option Value → ASt → Prop} {K : Int32 → ASt → Prop} {KV : ASt → Prop}
theorem st1 {b : Nat} : stOf V b = 1 ↔ pntd V b = true := by
  unfold stOf
  by_cases h : pntd V b = true
  · rw [if_pos h]; exact ⟨fun _ => h, fun _ => rfl⟩
  · rw [if_neg h]
    refine ⟨fun z => ?_, fun z => absurd z h⟩
    split at z <;> omega
theorem c_rsn (H : MI σ) (hB : isB B) (hw : WF m V) (R : Rel U V) {b : Nat} (hb : b < V 2) (hK : K (nI (rsn V b)) (bS σ B U)) : cI E 36 [.ref B, .int (nI b)] (bS σ B U) K := by
  have h1 := hw.1
  unfold W1 at h1
  have h2 := hw.2.1
  unfold W2 at h2
  have h3 := hw.2.2.1 b hb
  have rb := R.2.2.2.2 b hb
  have hs := stOf_lt V b
  have e1 := nI_eq (a := stOf V b) (b := 1) (by omega) (by decide)
  have e2 := nI_eq (a := V (72 + 8 * b + 3)) (b := 100) (by omega) (by decide)
  have e3 := nI_eq (a := V 3 - pcV V) (b := 0) (by omega) (by decide)
  have hc := cutV_lt hw b
  have e4 := nI_eq (a := cutV V b) (b := 0) (by omega) (by decide)
  have s1 := st1 (V := V) (b := b)
  unfold rsn at hK
  refine sg36_0 ⟨shS H hB, _, rS1 H hB, 14, _, shBA H hB, vi (by omega) (by omega), rBAc H hB (by omega), shB H hB (by omega), ?_⟩
  rw [gB (by omega), rb.2.2.2.2.2.1]
  refine ⟨fun g => ⟨shS H hB, _, rS1 H hB, 14, _, shBA H hB, vi (by omega) (by omega), rBAc H hB (by omega), shB H hB (by omega), ?_⟩, fun g => ?_⟩
  · rw [if_neg (fun z => g (e1.mpr (s1.mpr z)))] at hK
    rw [gB (by omega), rb.2.2.2.2.1]
    refine ⟨fun g2 => ⟨shS H hB, c_fc H hB hw R ⟨fun g3 => ⟨shS H hB, c_los H hB hw R (by omega) ⟨fun g4 => ?_, fun g4 => ?_⟩⟩, fun g3 => ?_⟩⟩, fun g2 => ?_⟩
    · rw [if_neg (fun z => g2 (e2.mpr z)), if_neg (fun z => g3 (e3.mpr (by omega))), if_neg (fun z => g4 (e4.mpr z))] at hK
      exact hK
    · rw [if_neg (fun z => g2 (e2.mpr z)), if_neg (fun z => g3 (e3.mpr (by omega))), if_pos (e4.mp (Classical.not_not.mp g4))] at hK
      exact hK
    · rw [if_neg (fun z => g2 (e2.mpr z)), if_pos (by have := e3.mp (Classical.not_not.mp g3); omega)] at hK
      exact hK
    · rw [if_pos (e2.mp (Classical.not_not.mp g2))] at hK
      exact hK
  · rw [if_pos (s1.mp (e1.mp (Classical.not_not.mp g)))] at hK
    exact hK
theorem rsn0 {b : Nat} : rsn V b = 0 ↔ ¬ pntd V b = true ∧ V (72 + 8 * b + 3) ≠ 100 ∧ ¬ V 3 ≤ pcV V ∧ cutV V b = 0 := by
  unfold rsn
  by_cases h1 : pntd V b = true
  · rw [if_pos h1]; exact ⟨fun z => by omega, fun z => absurd h1 z.1⟩
  rw [if_neg h1]
  by_cases h2 : V (72 + 8 * b + 3) = 100
  · rw [if_pos h2]; exact ⟨fun z => by omega, fun z => absurd h2 z.2.1⟩
  rw [if_neg h2]
  by_cases h3 : V 3 ≤ pcV V
  · rw [if_pos h3]; exact ⟨fun z => by omega, fun z => absurd h3 z.2.2.1⟩
  rw [if_neg h3]
  by_cases h4 : cutV V b = 0
  · rw [if_pos h4]; exact ⟨fun _ => ⟨h1, h2, h3, h4⟩, fun _ => rfl⟩
  · rw [if_neg h4]; exact ⟨fun z => by omega, fun z => absurd z.2.2.2 h4⟩
def lst (V : Nat → Nat) (k : Nat) : Nat := if bsN V k = 99 then V 10 + 1 else V (72 + 8 * bsN V k + 3)
theorem bsN_co : ∀ n, bsN V n ≠ 99 → V (72 + 8 * bsN V n + 3) ≤ V 10
  | 0, h => absurd rfl h
  | n + 1, h => by
    rw [bsN] at h ⊢
    split
    · rename_i h2
      exact h2.1
    · rename_i h2
      rw [if_neg h2] at h
      exact bsN_co n h
theorem bs_cond (hw : WF m V) (hf : pcV V < V 3) {k : Nat} : (V (72 + 8 * k + 3) ≤ V 10 ∧ rsn V k = 0 ∧ (bsN V k = 99 ∨ V (72 + 8 * k + 3) < V (72 + 8 * bsN V k + 3))) ↔ (¬ pntd V k = true ∧ V (72 + 8 * k + 3) < lst V k ∧ cutV V k = 0) := by
  have h2 := hw.2.1
  unfold W2 at h2
  rw [rsn0]
  unfold lst
  by_cases h : bsN V k = 99
  · rw [if_pos h]
    exact ⟨fun z => ⟨z.2.1.1, by omega, z.2.1.2.2.2⟩, fun z => ⟨by omega, ⟨z.1, by omega, by omega, z.2.2⟩, Or.inl h⟩⟩
  · rw [if_neg h]
    have := bsN_co k h
    exact ⟨fun z => ⟨z.2.1.1, z.2.2.elim (fun y => absurd y h) id, z.2.1.2.2.2⟩, fun z => ⟨by omega, ⟨z.1, by omega, by omega, z.2.2⟩, Or.inr z.2.1⟩⟩
theorem c_bsL (H : MI σ) (hB : isB B) (hw : WF m V) (R : Rel U V) (hf : pcV V < V 3) (hK : Q (some (.int (bsI (bsV V)))) (bS σ B U)) : ∀ d k : Nat, k + d = V 2 → wp E 37 33 [.ref B, .int (nI (reachV V 0 99)), .int (bsI (bsN V k)), .int (nI (lst V k)), .int (nI k)] [] (bS σ B U) Q := by
  have h1 := hw.1
  unfold W1 at h1
  have h2 := hw.2.1
  unfold W2 at h2
  intro d
  induction d with
  | zero =>
    intro k hk
    obtain rfl : k = V 2 := by omega
    refine sg37_33 ⟨shS H hB, fun _ => hK, fun h => absurd ?_ h⟩
    rw [bS_get0, R.1.2.1]
    exact nI_le (Nat.le_refl _) (by omega)
  | succ d ih =>
    intro k hk
    have nx := ih (k + 1) (by omega)
    have h3 := hw.2.2.1 k (by omega)
    have rb := R.2.2.2.2 k (by omega)
    have hs := stOf_lt V k
    have e1 := nI_eq (a := stOf V k) (b := 1) (by omega) (by decide)
    have s1 := st1 (V := V) (b := k)
    have bc := bs_cond hw hf (k := k)
    have hlst : lst V k < 2 ^ 31 := by
      unfold lst
      split
      · omega
      · have hl := bsN_lt V k
        have := hw.2.2.1 (bsN V k) (by omega)
        omega
    have el := nI_leI (a := lst V k) (b := V (72 + 8 * k + 3)) hlst (by omega)
    have r1 := reach_lt hw.ends (i := 0) (wo := 99) (by decide)
    have r2 := reach_lt hw.ends (i := 0) (wo := k) (by decide)
    have er := nI_eq (a := reachV V 0 k) (b := reachV V 0 99) (by omega) (by omega)
    have ec := cut0 hw (b := k)
    have keep : ¬ (¬ pntd V k = true ∧ V (72 + 8 * k + 3) < lst V k ∧ cutV V k = 0) → wp E 37 33 [.ref B, .int (nI (reachV V 0 99)), .int (bsI (bsN V k)), .int (nI (lst V k)), .int (nI k + nI 1)] [] (bS σ B U) Q := fun h => by
      have e : bsN V (k + 1) = bsN V k := by rw [bsN, if_neg (fun z => h (bc.mp z))]
      have e2 : lst V (k + 1) = lst V k := by unfold lst; rw [e]
      rw [e, e2] at nx
      rw [nI_add]; exact nx
    refine sg37_33 ⟨shS H hB, fun h => absurd h ?_, fun _ => ⟨shS H hB, _, rS1 H hB, 14, _, shBA H hB, vi (by omega) (by omega), rBAc H hB (by omega), shB H hB (by omega), ?_⟩⟩
    · rw [bS_get0, R.1.2.1]
      exact nI_ge (by omega) (by omega)
    · rw [gB (by omega), rb.2.2.2.2.2.1]
      refine ⟨fun g => keep fun z => z.1 (s1.mp (e1.mp g)), fun g => ⟨shB H hB (by omega), ?_⟩⟩
      rw [gB (by omega), rb.2.2.2.2.1]
      refine ⟨fun g2 => keep fun z => ?_, fun g2 => ⟨shS H hB, c_rea H hB hw R (by decide) (woI_b (by omega)) ⟨fun g3 => keep fun z => g3 (er.mpr (ec.mp z.2.2)), fun g3 => ⟨shB H hB (by omega), ?_⟩⟩⟩⟩
      · have := el.mp g2
        omega
      · have e : bsN V (k + 1) = k := by
          rw [bsN, if_pos (bc.mpr ⟨fun z => g (e1.mpr (s1.mpr z)), ?_, ec.mpr (er.mp (Classical.not_not.mp g3))⟩)]
          have : ¬ lst V k ≤ V (72 + 8 * k + 3) := fun z => g2 (el.mpr z)
          omega
        have e2 : lst V (k + 1) = V (72 + 8 * k + 3) := by
          unfold lst
          rw [e, if_neg (by omega)]
        rw [e, e2] at nx
        unfold bsI at nx
        rw [if_neg (by omega)] at nx
        rw [gB (by omega), rb.2.2.2.2.1, nI_add]
        exact nx
theorem c_bs (H : MI σ) (hB : isB B) (hw : WF m V) (R : Rel U V) (hK : K (bsI (bsV V)) (bS σ B U)) : cI E 37 [.ref B] (bS σ B U) K := by
  have h2 := hw.2.1
  unfold W2 at h2
  have e3 := nI_eq (a := V 3 - pcV V) (b := 0) (by omega) (by decide)
  refine sg37_0 ⟨shS H hB, c_fc H hB hw R ⟨fun g => ⟨shS H hB, c_rea H hB hw R (by decide) woI_m ⟨shS H hB, _, rS2 H hB, 8, shSe H hB, vi (by decide) (by decide), ?_⟩⟩, fun g => ?_⟩⟩
  · rw [bS_get (by decide), R.2.1 7 (by decide), nI_add]
    refine c_bsL H hB hw R ?_ hK (V 2) 0 (by omega)
    have : V 3 - pcV V ≠ 0 := fun z => g (e3.mpr z)
    omega
  · have hz := e3.mp (Classical.not_not.mp g)
    have e : bsV V = 99 := Classical.byContradiction fun h => by
      have := bs_free h
      omega
    rw [e] at hK
    exact hK
end COM5
end
section
/-! the component's sums; the lowest of a set -/
section COM6
variable {E : AEnv} {σ τ : ASt} {B : Nat} {U : Nat → Nat → Int32} {V : Nat → Nat} {m n t : Nat} {Q : Option Value → ASt → Prop} {K : Int32 → ASt → Prop} {KV : ASt → Prop}
def ctN (V : Nat → Nat) : Nat → Nat
  | 0 => 0
  | n + 1 => ctN V n + V (72 + 8 * n + 3)
theorem c_ctL (H : MI σ) (hB : isB B) (hw : WF m V) (R : Rel U V) (hK : Q (some (.int (nI (ctN V (V 2))))) (bS σ B U)) : ∀ d k : Nat, k + d = V 2 → wp E 47 4 [.ref B, .int (nI (ctN V k)), .int (nI k)] [] (bS σ B U) Q := by
  have h1 := hw.1
  unfold W1 at h1
  intro d
  induction d with
  | zero =>
    intro k hk
    obtain rfl : k = V 2 := by omega
    refine sg47_4 ⟨shS H hB, fun _ => hK, fun h => absurd ?_ h⟩
    rw [bS_get0, R.1.2.1]
    exact nI_le (Nat.le_refl _) (by omega)
  | succ d ih =>
    intro k hk
    have nx := ih (k + 1) (by omega)
    have rb := R.2.2.2.2 k (by omega)
    refine sg47_4 ⟨shS H hB, fun h => absurd h ?_, fun _ => ⟨shS H hB, _, rS1 H hB, 14, _, shBA H hB, vi (by omega) (by omega), rBAc H hB (by omega), shB H hB (by omega), ?_⟩⟩
    · rw [bS_get0, R.1.2.1]
      exact nI_ge (by omega) (by omega)
    · rw [gB (by omega), rb.2.2.2.2.1, nI_add, nI_add]
      exact nx
theorem c_ct (H : MI σ) (hB : isB B) (hw : WF m V) (R : Rel U V) (hK : K (nI (ctN V (V 2))) (bS σ B U)) : cI E 47 [.ref B] (bS σ B U) K := sg47_0 (c_ctL H hB hw R hK (V 2) 0 (by omega))
theorem c_smL (H : MI σ) (hB : isB B) (hw : WF m V) (R : Rel U V) (hK : Q (some (.int (nI (smN V 2 (V 1))))) (bS σ B U)) : ∀ d k : Nat, k + d = V 1 → wp E 48 4 [.ref B, .int (nI (smN V 2 k)), .int (nI k)] [] (bS σ B U) Q := by
  have h1 := hw.1
  unfold W1 at h1
  intro d
  induction d with
  | zero =>
    intro k hk
    obtain rfl : k = V 1 := by omega
    refine sg48_4 ⟨shS H hB, fun _ => hK, fun h => absurd ?_ h⟩
    rw [bS_get0, R.1.1]
    exact nI_le (Nat.le_refl _) (by omega)
  | succ d ih =>
    intro k hk
    have nx := ih (k + 1) (by omega)
    have ri := R.2.2.2.1 k (by omega)
    refine sg48_4 ⟨shS H hB, fun h => absurd h ?_, fun _ => ⟨shS H hB, _, rS0 H hB, 8, _, shIA H hB, vi (by omega) (by omega), rIAc H hB (by omega), shI H hB (by omega), ?_⟩⟩
    · rw [bS_get0, R.1.1]
      exact nI_ge (by omega) (by omega)
    · rw [gIl (by omega), ri.2.2.2.1, nI_add, nI_add]
      exact nx
theorem c_sm (H : MI σ) (hB : isB B) (hw : WF m V) (R : Rel U V) (hK : K (nI (smN V 2 (V 1))) (bS σ B U)) : cI E 48 [.ref B] (bS σ B U) K := sg48_0 (c_smL H hB hw R hK (V 1) 0 (by omega))
theorem c_mxL (H : MI σ) (hB : isB B) (hw : WF m V) (R : Rel U V) (hK : Q (some (.int (nI (mxN V 3 (V 1))))) (bS σ B U)) : ∀ d k : Nat, k + d = V 1 → wp E 49 4 [.ref B, .int (nI (mxN V 3 k)), .int (nI k)] [] (bS σ B U) Q := by
  have h1 := hw.1
  unfold W1 at h1
  have h5 := hw.2.2.2.2
  unfold W5 at h5
  intro d
  induction d with
  | zero =>
    intro k hk
    obtain rfl : k = V 1 := by omega
    refine sg49_4 ⟨shS H hB, fun _ => hK, fun h => absurd ?_ h⟩
    rw [bS_get0, R.1.1]
    exact nI_le (Nat.le_refl _) (by omega)
  | succ d ih =>
    intro k hk
    have nx := ih (k + 1) (by omega)
    have ri := R.2.2.2.1 k (by omega)
    have hx := mx_lt hw k (by omega)
    have h4 := hw.2.2.2.1 k (by omega)
    have e := nI_ltI (a := mxN V 3 k) (b := V (32 + 5 * k + 3)) (by omega) (by omega)
    rw [mxN] at nx
    refine sg49_4 ⟨shS H hB, fun h => absurd h ?_, fun _ => ⟨shS H hB, _, rS0 H hB, 8, _, shIA H hB, vi (by omega) (by omega), rIAc H hB (by omega), shI H hB (by omega), ?_⟩⟩
    · rw [bS_get0, R.1.1]
      exact nI_ge (by omega) (by omega)
    · rw [gIl (by omega), ri.2.2.1, nI_add]
      refine c_max (fun g => ?_) fun g => ?_
      · rw [if_neg (by have := e.mp g; omega)] at nx
        exact nx
      · rw [if_pos (by have : ¬ mxN V 3 k < V (32 + 5 * k + 3) := fun z => g (e.mpr z)
                       omega)] at nx
        exact nx
theorem c_mx (H : MI σ) (hB : isB B) (hw : WF m V) (R : Rel U V) (hK : K (nI (mxN V 3 (V 1))) (bS σ B U)) : cI E 49 [.ref B] (bS σ B U) K := sg49_0 (c_mxL H hB hw R hK (V 1) 0 (by omega))
def tzX (S : Nat) : Nat := (S - 1) ^^^ ((S - 1) &&& S)
def tzN (X : Nat) : Nat := if 0 < X then (if X ≤ 16 then (if X ≤ 4 then 1 + X / 2 ^ 1 else 1 + 2 + X / 2 ^ 2 / 2 ^ 1) else (if X / 2 ^ 4 ≤ 4 then 1 + 4 + X / 2 ^ 4 / 2 ^ 1 else 1 + 4 + 2 + X / 2 ^ 4 / 2 ^ 2 / 2 ^ 1)) else 0
theorem tz_all : (List.range 256).all (fun S => Nat.beq S 0 || (Nat.blt (tzX S) 256 && Nat.beq (tzN (tzX S)) (low S))) = true := by decide +kernel
theorem c_tz {s : ASt} {S : Nat} (h0 : 0 < S) (hS : S < 256) (hK : K (nI (low S)) s) : cI E 169 [.int (nI S)] s K := by
  have hz := List.all_eq_true.mp tz_all S (List.mem_range.mpr hS)
  rw [Bool.or_eq_true, Bool.and_eq_true, beq_iff', beq_iff', Nat.blt_eq] at hz
  obtain ⟨hx, ht⟩ : tzX S < 256 ∧ tzN (tzX S) = low S := by
    rcases hz with hz | hz
    · omega
    · exact hz
  rw [← ht] at hK
  unfold tzN at hK
  have e : (nI S ^^^ (-1 : Int32)) &&& (nI S - nI 1) = nI (tzX S) := by
    rw [pk_sub (by omega), Int32.and_comm]
    exact nI_andn (by omega) (by omega)
  refine sg169_0 ?_
  rw [e]
  generalize tzX S = X at hx hK ⊢
  have u : ∀ (x k : Nat), x < 2 ^ 31 → k < 31 → ((nI x).toUInt32 >>> ((nI k).toUInt32 &&& Int32.toUInt32 31)).toInt32 = nI (x / 2 ^ k) := fun x k hx hk => ush hx hk
  rw [u X 1 (by omega) (by decide), u X 2 (by omega) (by decide), u X 4 (by omega) (by decide), u (X / 2 ^ 2) 1 (by omega) (by decide), u (X / 2 ^ 4) 1 (by omega) (by decide), u (X / 2 ^ 4) 2 (by omega) (by decide), u (X / 2 ^ 4 / 2 ^ 2) 1 (by omega) (by decide)]
  have l0 := nI_ltI (a := 0) (b := X) (by decide) (by omega)
  have l4 := nI_leI (a := X) (b := 4) (by omega) (by decide)
  have l16 := nI_leI (a := X) (b := 16) (by omega) (by decide)
  have l44 := nI_leI (a := X / 2 ^ 4) (b := 4) (by omega) (by decide)
  refine ⟨fun g => ⟨fun _ => ⟨fun _ => ⟨fun g2 => ⟨fun g3 => ?_, fun g3 => ?_⟩, fun g2 => ⟨fun g3 => ?_, fun g3 => ?_⟩⟩, fun z => absurd (nI_le (by omega) (by decide)) z⟩, fun z => absurd (nI_le (by omega) (by decide)) z⟩, fun g => ?_⟩
  · rw [if_pos (l0.mp g), if_pos (l16.mp g2), if_pos (l4.mp g3)] at hK
    rw [nI_add]; exact hK
  · rw [if_pos (l0.mp g), if_pos (l16.mp g2), if_neg (fun z => g3 (l4.mpr z))] at hK
    rw [nI_add, nI_add]; exact hK
  · rw [if_pos (l0.mp g), if_neg (fun z => g2 (l16.mpr z)), if_pos (l44.mp g3)] at hK
    rw [nI_add, nI_add]; exact hK
  · rw [if_pos (l0.mp g), if_neg (fun z => g2 (l16.mpr z)), if_neg (fun z => g3 (l44.mpr z))] at hK
    rw [nI_add, nI_add, nI_add]; exact hK
  · have hX : X = 0 := by
      have : ¬ 0 < X := fun z => g (l0.mpr z)
      omega
    rw [if_neg (by omega)] at hK
    rw [hX]
    exact hK
theorem c_lo {s : ASt} {S : Nat} (h0 : 0 < S) (hS : S < 256) (hK : K (nI (low S)) s) : cI E 89 [.int (nI S)] s K := sg89_0 (c_tz h0 hS hK)
end COM6
end
section
/-! groups: counted greedily, counted by their lowest -/
section COM7
variable {E : AEnv} {σ τ : ASt} {B : Nat} {U : Nat → Nat → Int32} {V : Nat → Nat} {m n t : Nat} {Q : Option Value → ASt → Prop} {K : Int32 → ASt → Prop} {KV : ASt → Prop}
theorem one_sub {i S : Nat} : subM (2 ^ i) S ↔ S.testBit i = true := by
  constructor
  · intro h
    exact h i (by rw [Nat.testBit_two_pow]; exact decide_eq_true rfl)
  · intro h j hj
    rw [Nat.testBit_two_pow] at hj
    have : i = j := of_decide_eq_true hj
    rw [← this]; exact h
theorem rea_self {i wo : Nat} : (reachV V i wo).testBit i = true := one_sub.mp (reach_ge V i wo)
theorem rea_tr (hE : endsOK V) {i j : Nat} (hi : i < 8) (h : (reachV V i 99).testBit j = true) : subM (reachV V j 99) (reachV V i 99) := reach_le (reach_closed hE hi) (one_sub.mpr h)
theorem rea_sym (hE : endsOK V) {i j : Nat} (hi : i < 8) (hj : j < 8) (h : (reachV V i 99).testBit j = true) : (reachV V j 99).testBit i = true := by
  cases hq : (reachV V j 99).testBit i with
  | true => rfl
  | false =>
    exfalso
    have tb : ∀ x, (255 ^^^ reachV V j 99).testBit x = ((decide (x < 8)) ^^ (reachV V j 99).testBit x) := fun x => by
      rw [Nat.testBit_xor, show (255 : Nat) = 2 ^ 8 - 1 from rfl, Nat.testBit_two_pow_sub_one]
    have hc : closedM V 99 (255 ^^^ reachV V j 99) := by
      intro b hb hu hh x hx
      have he := ends_lt hE hb
      have x8 := lt_bit he hx
      rw [tb, decide_eq_true x8]
      cases hr : (reachV V j 99).testBit x with
      | false => rfl
      | true =>
        exfalso
        have hall := reach_closed hE hj (wo := 99) b hb hu (hit_iff.mpr ⟨x, hr, hx⟩)
        obtain ⟨y, hy1, hy2⟩ := hit_iff.mp hh
        have y8 := lt_bit he hy2
        rw [tb, decide_eq_true y8, hall y hy2] at hy1
        exact absurd hy1 (by decide)
    have h1 : (255 ^^^ reachV V j 99).testBit i = true := by rw [tb, hq, decide_eq_true hi]; rfl
    have h2 := reach_le hc (one_sub.mpr h1) j h
    rw [tb, rea_self, decide_eq_true hj] at h2
    exact absurd h2 (by decide)
theorem lowF_lo {S : Nat} : ∀ d k, (∀ j, k ≤ j → j < lowF S d k → bt S j = false) ∧ k ≤ lowF S d k ∧ (lowF S d k < k + d → bt S (lowF S d k) = true)
  | 0, k => ⟨fun j h1 h2 => by rw [lowF] at h2; omega, Nat.le_refl _, fun h => by rw [lowF] at h; omega⟩
  | d + 1, k => by
    rw [lowF]
    obtain ⟨a1, a2, a3⟩ := lowF_lo (S := S) d (k + 1)
    split
    · rename_i hb
      exact ⟨fun j h1 h2 => by omega, Nat.le_refl _, fun _ => hb⟩
    · rename_i hb
      refine ⟨fun j h1 h2 => ?_, by omega, fun h => a3 (by omega)⟩
      by_cases hj : j = k
      · rw [hj]
        cases hq : bt S k with
        | false => rfl
        | true => exact absurd hq hb
      · exact a1 j (by omega) h2
theorem low_is {S n : Nat} (hn : n < 8) (hb : bt S n = true) : low S = n ↔ ∀ j, j < n → bt S j = false := by
  obtain ⟨a1, _, a3⟩ := lowF_lo (S := S) 8 0
  have hl : low S ≤ n := by
    rcases Nat.lt_or_ge n (low S) with h | h
    · have := a1 n (Nat.zero_le _) h
      rw [hb] at this
      exact absurd this (by decide)
    · exact h
  constructor
  · intro h j hj
    exact a1 j (Nat.zero_le _) (by unfold low at h; omega)
  · intro h
    rcases Nat.lt_or_ge (low S) n with h2 | h2
    · have h3 := h _ h2
      have h4 : bt S (low S) = true := a3 (by unfold low at h2; omega)
      rw [h3] at h4
      exact absurd h4 (by decide)
    · omega
def gG (V : Nat → Nat) : Nat → Nat
  | 0 => 0
  | n + 1 => if bt (gG V n) n = true then gG V n else gG V n ||| reachV V n 99
theorem gG_lt (hE : endsOK V) : ∀ n, n ≤ 8 → gG V n < 2 ^ 8
  | 0, _ => by rw [gG]; decide
  | n + 1, h => by
    rw [gG]
    have ih := gG_lt hE n (by omega)
    split
    · exact ih
    · exact Nat.or_lt_two_pow ih (reach_lt hE (by omega))
theorem gG_b (hE : endsOK V) {x : Nat} : ∀ n, n ≤ 8 → ((gG V n).testBit x = true ↔ ∃ j, j < n ∧ (reachV V j 99).testBit x = true)
  | 0, _ => ⟨fun h => by rw [gG, Nat.zero_testBit] at h; exact absurd h ff, fun ⟨j, hj, _⟩ => absurd hj (Nat.not_lt_zero _)⟩
  | n + 1, h => by
    have ih := fun y => gG_b hE (x := y) n (by omega)
    rw [gG]
    split
    · rename_i hb
      rw [bt_tb, ih] at hb
      obtain ⟨k, hk, hkn⟩ := hb
      rw [ih]
      constructor
      · rintro ⟨j, hj, hx⟩
        exact ⟨j, by omega, hx⟩
      · rintro ⟨j, hj, hx⟩
        by_cases hjn : j = n
        · subst hjn
          exact ⟨k, hk, rea_tr hE (by omega) hkn x hx⟩
        · exact ⟨j, by omega, hx⟩
    · rw [Nat.testBit_or, Bool.or_eq_true, ih]
      constructor
      · rintro (⟨j, hj, hx⟩ | hx)
        · exact ⟨j, by omega, hx⟩
        · exact ⟨n, by omega, hx⟩
      · rintro ⟨j, hj, hx⟩
        by_cases hjn : j = n
        · subst hjn
          exact Or.inr hx
        · exact Or.inl ⟨j, by omega, hx⟩
theorem gG_low (hE : endsOK V) {n : Nat} (hn : n < 8) : low (reachV V n 99) = n ↔ ¬ bt (gG V n) n = true := by
  rw [low_is hn (by rw [bt_tb]; exact rea_self), bt_tb, gG_b hE n (by omega)]
  constructor
  · rintro h ⟨j, hj, hx⟩
    have h1 := h j hj
    rw [bt_tb, rea_sym hE (by omega) hn hx] at h1
    exact absurd h1 (by decide)
  · intro h j hj
    cases hq : bt (reachV V n 99) j with
    | false => rfl
    | true =>
      rw [bt_tb] at hq
      exact absurd ⟨j, hj, rea_sym hE hn (by omega) hq⟩ h
theorem c_grL (H : MI σ) (hB : isB B) (hw : WF m V) (R : Rel U V) (hK : Q (some (.int (nI (grN V (V 1))))) (bS σ B U)) : ∀ d k : Nat, k + d = V 1 → wp E 45 6 [.ref B, .int (nI (grN V k)), .int (nI (gG V k)), .int (nI k)] [] (bS σ B U) Q := by
  have h1 := hw.1
  unfold W1 at h1
  intro d
  induction d with
  | zero =>
    intro k hk
    obtain rfl : k = V 1 := by omega
    refine sg45_6 ⟨shS H hB, fun _ => hK, fun h => absurd ?_ h⟩
    rw [bS_get0, R.1.1]
    exact nI_le (Nat.le_refl _) (by omega)
  | succ d ih =>
    intro k hk
    have nx := ih (k + 1) (by omega)
    have hg := gG_lt hw.ends k (by omega)
    have hr := reach_lt hw.ends (i := k) (wo := 99) (by omega)
    have gl := gG_low hw.ends (n := k) (by omega)
    rw [grN, gG] at nx
    refine sg45_6 ⟨shS H hB, fun h => absurd h ?_, fun _ => c_hol (by omega) (by omega) ⟨fun g => ?_, fun g => ⟨shS H hB, c_rea H hB hw R (by omega) woI_m ?_⟩⟩⟩
    · rw [bS_get0, R.1.1]
      exact nI_ge (by omega) (by omega)
    · rw [if_pos (bI_1 g), if_neg (fun z => gl.mp z (bI_1 g))] at nx
      rw [nI_add]; exact nx
    · have hb : ¬ bt (gG V k) k = true := by rw [bI_2 g]; exact ff
      rw [if_neg hb, if_pos (gl.mpr hb)] at nx
      rw [nI_add, nI_or (by omega) (by omega), nI_add]; exact nx
theorem c_gr (H : MI σ) (hB : isB B) (hw : WF m V) (R : Rel U V) (hK : K (nI (grN V (V 1))) (bS σ B U)) : cI E 45 [.ref B] (bS σ B U) K := sg45_0 (c_grL H hB hw R hK (V 1) 0 (by omega))
theorem c_loL (H : MI σ) (hB : isB B) (hw : WF m V) (R : Rel U V) (hK : Q (some (.int (nI (grN V (V 1))))) (bS σ B U)) : ∀ d k : Nat, k + d = V 1 → wp E 46 4 [.ref B, .int (nI (grN V k)), .int (nI k)] [] (bS σ B U) Q := by
  have h1 := hw.1
  unfold W1 at h1
  intro d
  induction d with
  | zero =>
    intro k hk
    obtain rfl : k = V 1 := by omega
    refine sg46_4 ⟨shS H hB, fun _ => hK, fun h => absurd ?_ h⟩
    rw [bS_get0, R.1.1]
    exact nI_le (Nat.le_refl _) (by omega)
  | succ d ih =>
    intro k hk
    have nx := ih (k + 1) (by omega)
    have hr := reach_lt hw.ends (i := k) (wo := 99) (by omega)
    have hl := low_le (reachV V k 99)
    have e := nI_eq (a := low (reachV V k 99)) (b := k) (by omega) (by omega)
    have h0 : 0 < reachV V k 99 := by
      have := sub_le (reach_ge V k 99)
      have := Nat.two_pow_pos k
      omega
    rw [grN] at nx
    refine sg46_4 ⟨shS H hB, fun h => absurd h ?_, fun _ => ⟨shS H hB, c_rea H hB hw R (by omega) woI_m (c_lo h0 hr ⟨fun g => ?_, fun g => ?_⟩)⟩⟩
    · rw [bS_get0, R.1.1]
      exact nI_ge (by omega) (by omega)
    · rw [if_neg (fun z => g (e.mpr z))] at nx
      rw [nI_add]; exact nx
    · rw [if_pos (e.mp (Classical.not_not.mp g))] at nx
      rw [nI_add, nI_add]; exact nx
theorem c_lw (H : MI σ) (hB : isB B) (hw : WF m V) (R : Rel U V) (hK : K (nI (grN V (V 1))) (bS σ B U)) : cI E 46 [.ref B] (bS σ B U) K := sg46_0 (c_loL H hB hw R hK (V 1) 0 (by omega))
end COM7
end
section
/-! the component's changes to one bridge -/
section COM8
variable {E : AEnv} {σ τ : ASt} {B : Nat} {U U' : Nat → Nat → Int32} {V W : Nat → Nat} {m n t : Nat} {Q : Option Value → ASt → Prop} {K : Int32 → ASt → Prop} {KV : ASt → Prop}
/-- only the coins and the days, and bridge b, differ -/
theorem Rel.brg (R : Rel U V) {b : Nat} (hg : RG U' W) (hU : ∀ c k, c ≠ 0 → c ≠ 15 + b → U' c k = U c k) (hW : ∀ j, j ≠ 0 → j ≠ 11 → j ≠ 12 → j ≠ 13 → j ≠ 14 → (j < 72 + 8 * b ∨ 72 + 8 * b + 8 ≤ j) → W j = V j) (hb : RB U' W b) (hV : V 1 ≤ 8 ∧ V 15 ≤ 8) : Rel U' W := by
  obtain ⟨_, r2, r3, r4, r5⟩ := R
  have w15 := hW 15 (by omega) (by omega) (by omega) (by omega) (by omega) (by omega)
  refine ⟨hg, fun s hs => ?_, ⟨?_, fun a ha => ?_⟩, fun i hi => ?_, fun c hc => ?_⟩
  · rw [hU 3 s (by omega) (by omega), hW _ (by omega) (by omega) (by omega) (by omega) (by omega) (by omega)]
    exact r2 s hs
  · rw [hU 4 2 (by omega) (by omega), w15]
    exact r3.1
  · rw [w15] at ha ⊢
    · rw [hU 5 _ (by omega) (by omega), hU 6 _ (by omega) (by omega), hW (16 + 2 * a) (by omega) (by omega) (by omega) (by omega) (by omega) (by omega), hW (17 + 2 * a) (by omega) (by omega) (by omega) (by omega) (by omega) (by omega)]
      exact r3.2 a ha
  · rw [hW 1 (by omega) (by omega) (by omega) (by omega) (by omega) (by omega)] at hi
    have := r4 i hi
    unfold RI at this ⊢
    rw [hU _ 0 (by omega) (by omega), hU _ 1 (by omega) (by omega), hU _ 2 (by omega) (by omega), hU _ 3 (by omega) (by omega), hU _ 4 (by omega) (by omega), hW (32 + 5 * i + 0) (by omega) (by omega) (by omega) (by omega) (by omega) (by omega), hW (32 + 5 * i + 1) (by omega) (by omega) (by omega) (by omega) (by omega) (by omega), hW (32 + 5 * i + 2) (by omega) (by omega) (by omega) (by omega) (by omega) (by omega), hW (32 + 5 * i + 3) (by omega) (by omega) (by omega) (by omega) (by omega) (by omega), hW (32 + 5 * i + 4) (by omega) (by omega) (by omega) (by omega) (by omega) (by omega)]
    exact this
  · rw [hW 2 (by omega) (by omega) (by omega) (by omega) (by omega) (by omega)] at hc
    by_cases hcb : c = b
    · rw [hcb]; exact hb
    · have := r5 c hc
      have w : ∀ k, k < 8 → W (72 + 8 * c + k) = V (72 + 8 * c + k) := fun k hk => hW _ (by omega) (by omega) (by omega) (by omega) (by omega) (by omega)
      have ee : endsM W c = endsM V c := by unfold endsM; rw [w 0 (by omega), w 1 (by omega)]
      have es : stOf W c = stOf V c := by unfold stOf pntd; rw [w 4 (by omega), w 3 (by omega)]
      unfold RB at this ⊢
      rw [ee, es, hU _ 0 (by omega) (by omega), hU _ 1 (by omega) (by omega), hU _ 2 (by omega) (by omega), hU _ 3 (by omega) (by omega), hU _ 4 (by omega) (by omega), hU _ 5 (by omega) (by omega), hU _ 6 (by omega) (by omega), hU _ 7 (by omega) (by omega), hU _ 8 (by omega) (by omega), w 0 (by omega), w 1 (by omega), w 2 (by omega), w 3 (by omega), w 5 (by omega), w 6 (by omega), w 7 (by omega)]
      exact this
theorem RG.keep (h : RG U V) (hU : ∀ k, U' 0 k = U 0 k) (h0 : W 0 = V 0) (h1 : W 1 = V 1) (h2 : W 2 = V 2) (h11 : W 11 = V 11) (h12 : W 12 = V 12) (h13 : W 13 = V 13) (h14 : W 14 = V 14) : RG U' W := by
  unfold RG at h ⊢
  rw [hU, hU, hU, hU, hU, hU, hU, h0, h1, h2, h11, h12, h13, h14]
  exact h
end COM8
end
section
/-! the component's crews: takeCrew, loseCrew; days until rusted -/
section COM9
variable {E : AEnv} {σ τ : ASt} {B : Nat} {U U' : Nat → Nat → Int32} {V W : Nat → Nat} {m n t : Nat} {Q : Option Value → ASt → Prop} {K : Int32 → ASt → Prop} {KV : ASt → Prop}
theorem WF.w1 (hw : WF m V) : V 1 ≤ 8 ∧ V 15 ≤ 8 := by
  have h1 := hw.1
  unfold W1 at h1
  omega
theorem stOf_cr {b : Nat} (h : V (72 + 8 * b + 4) = 1) : stOf V b = 1 := st1.mpr (beq_iff'.mpr h)
theorem stOf_no {b : Nat} (h : V (72 + 8 * b + 4) = 0) : stOf V b = if 0 < V (72 + 8 * b + 3) then 0 else 2 := by
  unfold stOf
  rw [if_neg (fun z => by have := beq_iff'.mp z; omega)]
theorem c_tak (H : MI σ) (hB : isB B) (hw : WF m V) (R : Rel U V) {b : Nat} (hb : b < V 2) (hK : ∀ U', Rel U' (dSnd V b) → KV (bS σ B U')) : cV E 9 [.ref (B + 15 + b)] (bS σ B U) KV := by
  have h1 := hw.1
  unfold W1 at h1
  have rb := R.2.2.2.2 b hb
  refine sg9_0 ⟨shB H hB (by omega), nw_e (wB (by omega)) ⟨shB H hB (by omega), shB H hB (by omega), ?_⟩⟩
  rw [gB (by omega), upU_k (by decide), rb.2.2.2.2.2.2.1, nI_add]
  refine nw_e (wB (by omega)) (hK _ ?_)
  have o : ∀ j, (j < 72 + 8 * b + 4 ∨ 72 + 8 * b + 6 ≤ j) → dSnd V b j = V j := fun j h => dSnd_o h
  have e4 : dSnd V b (72 + 8 * b + 4) = 1 := by unfold dSnd; simp (disch := omega) only [upN_n, upN_s]
  have e5 : dSnd V b (72 + 8 * b + 5) = V (72 + 8 * b + 5) + 1 := by unfold dSnd; simp (disch := omega) only [upN_n, upN_s]
  refine R.brg (b := b) (R.1.keep (fun k => ?_) (o 0 (by omega)) (o 1 (by omega)) (o 2 (by omega)) (o 11 (by omega)) (o 12 (by omega)) (o 13 (by omega)) (o 14 (by omega))) (fun c k h1 h2 => ?_) (fun j _ _ _ _ _ h => o j (by omega)) ?_ hw.w1
  · simp (disch := omega) only [upU_s, upU_k, upU_c]
  · simp (disch := omega) only [upU_s, upU_k, upU_c]
  · have ee : endsM (dSnd V b) b = endsM V b := by unfold endsM; rw [o _ (by omega), o _ (by omega)]
    unfold RB at rb ⊢
    rw [ee, stOf_cr e4, e5, o (72 + 8 * b + 0) (by omega), o (72 + 8 * b + 1) (by omega), o (72 + 8 * b + 2) (by omega), o (72 + 8 * b + 3) (by omega), o (72 + 8 * b + 6) (by omega), o (72 + 8 * b + 7) (by omega)]
    simp (disch := omega) only [upU_s, upU_k, upU_c]
    exact ⟨rb.1, rb.2.1, rb.2.2.1, rb.2.2.2.1, rb.2.2.2.2.1, trivial, trivial, rb.2.2.2.2.2.2.2.1, rb.2.2.2.2.2.2.2.2⟩
theorem c_los2 (H : MI σ) (hB : isB B) (hw : WF m V) (R : Rel U V) {b : Nat} (hb : b < V 2) (hK : ∀ U', Rel U' (dRec V b) → KV (bS σ B U')) : cV E 10 [.ref (B + 15 + b)] (bS σ B U) KV := by
  have h1 := hw.1
  unfold W1 at h1
  have h3 := hw.2.2.1 b hb
  have rb := R.2.2.2.2 b hb
  have o : ∀ j, j ≠ 72 + 8 * b + 4 → dRec V b j = V j := fun j h => upN_n h
  have e4 : dRec V b (72 + 8 * b + 4) = 0 := upN_s _ _ _
  have e0 := nI_eq (a := V (72 + 8 * b + 3)) (b := 0) (by omega) (by decide)
  have fin : ∀ x : Int32, x = nI (stOf (dRec V b) b) → Rel (upU U (15 + b) 5 x) (dRec V b) := fun x hx => by
    refine R.brg (b := b) (R.1.keep (fun k => ?_) (o 0 (by omega)) (o 1 (by omega)) (o 2 (by omega)) (o 11 (by omega)) (o 12 (by omega)) (o 13 (by omega)) (o 14 (by omega))) (fun c k h1 h2 => ?_) (fun j _ _ _ _ _ h => o j (by omega)) ?_ hw.w1
    · simp (disch := omega) only [upU_s, upU_k, upU_c]
    · simp (disch := omega) only [upU_s, upU_k, upU_c]
    · have ee : endsM (dRec V b) b = endsM V b := by unfold endsM; rw [o _ (by omega), o _ (by omega)]
      unfold RB at rb ⊢
      rw [ee, ← hx, o (72 + 8 * b + 0) (by omega), o (72 + 8 * b + 1) (by omega), o (72 + 8 * b + 2) (by omega), o (72 + 8 * b + 3) (by omega), o (72 + 8 * b + 5) (by omega), o (72 + 8 * b + 6) (by omega), o (72 + 8 * b + 7) (by omega)]
      simp (disch := omega) only [upU_s, upU_k, upU_c]
      exact ⟨rb.1, rb.2.1, rb.2.2.1, rb.2.2.2.1, rb.2.2.2.2.1, trivial, rb.2.2.2.2.2.2.1, rb.2.2.2.2.2.2.2.1, rb.2.2.2.2.2.2.2.2⟩
  refine sg10_0 ⟨shB H hB (by omega), ?_⟩
  rw [gB (by omega), rb.2.2.2.2.1]
  refine ⟨fun g => ⟨shB H hB (by omega), nw_e (wB (by omega)) (hK _ (fin _ ?_))⟩, fun g => ⟨shB H hB (by omega), nw_e (wB (by omega)) (hK _ (fin _ ?_))⟩⟩
  · have : V (72 + 8 * b + 3) ≠ 0 := fun z => g (e0.mpr z)
    rw [stOf_no e4, o _ (by omega), if_pos (by omega)]
  · have := e0.mp (Classical.not_not.mp g)
    rw [stOf_no e4, o _ (by omega), if_neg (by omega)]
theorem c_runL (H : MI σ) (hB : isB B) (hw : WF m V) (R : Rel U V) {b : Nat} (hb : b < V 2) (hK : Q (some (.int (nI ((V (72 + 8 * b + 3) + V (72 + 8 * b + 2) - 1) / V (72 + 8 * b + 2))))) (bS σ B U)) : ∀ d k : Nat, k + d = 100 → (k = 0 ∨ (k - 1) * V (72 + 8 * b + 2) < V (72 + 8 * b + 3)) → wp E 13 2 [.ref (B + 15 + b), .int (nI k)] [] (bS σ B U) Q := by
  have h1 := hw.1
  unfold W1 at h1
  have h3 := hw.2.2.1 b hb
  have rb := R.2.2.2.2 b hb
  generalize hw2 : V (72 + 8 * b + 2) = w at hK h3 rb ⊢
  generalize hw3 : V (72 + 8 * b + 3) = c at hK h3 rb ⊢
  have is : ∀ k, c ≤ k * w → (k = 0 ∨ (k - 1) * w < c) → (c + w - 1) / w = k := by
    intro k h1 h2
    rcases h2 with h2 | h2
    · subst h2
      have hc : c = 0 := by omega
      rw [hc]
      exact Nat.div_eq_of_lt (by omega)
    · have hk : k = (k - 1) + 1 := by
        rcases Nat.eq_zero_or_pos k with hz | hz
        · subst hz; omega
        · omega
      have e : k * w = (k - 1) * w + w := by
        rw [hk, Nat.add_sub_cancel, Nat.succ_mul]
      apply Nat.div_eq_of_lt_le
      · omega
      · rw [Nat.succ_mul]; omega
  intro d
  induction d with
  | zero =>
    intro k hk hi
    obtain rfl : k = 100 := by omega
    rw [is 100 (by omega) hi] at hK
    exact sg13_2 ⟨fun _ => hK, fun h => absurd (nI_le (Nat.le_refl _) (by decide)) h⟩
  | succ d ih =>
    intro k hk hi
    have hkw : k * w ≤ 100 * 9 := Nat.mul_le_mul (by omega) (by omega)
    refine sg13_2 ⟨fun h => absurd h (nI_ge (by omega) (by omega)), fun _ => ⟨shB H hB (by omega), shB H hB (by omega), ?_⟩⟩
    rw [gB (by omega), gB (by omega), rb.2.2.2.2.1, rb.2.2.2.1, hw2, hw3, pk_mul]
    have e := nI_leI (a := c) (b := k * w) (by omega) (by omega)
    refine ⟨fun g => ?_, fun g => ?_⟩
    · rw [is k (e.mp g) hi] at hK
      exact hK
    · rw [nI_add]
      refine ih (k + 1) (by omega) (Or.inr ?_)
      rw [Nat.add_sub_cancel]
      have : ¬ c ≤ k * w := fun z => g (e.mpr z)
      omega
theorem c_run (H : MI σ) (hB : isB B) (hw : WF m V) (R : Rel U V) {b : Nat} (hb : b < V 2) (hK : K (nI ((V (72 + 8 * b + 3) + V (72 + 8 * b + 2) - 1) / V (72 + 8 * b + 2))) (bS σ B U)) : cI E 13 [.ref (B + 15 + b)] (bS σ B U) K := sg13_0 (c_runL H hB hw R hb hK 100 0 (by omega) (Or.inl rfl))
end COM9
end
section
/-! the component's wear -/
section COM10
variable {E : AEnv} {σ τ : ASt} {B : Nat} {U U' : Nat → Nat → Int32} {V W : Nat → Nat} {m n t : Nat} {Q : Option Value → ASt → Prop} {K : Int32 → ASt → Prop} {KV : ASt → Prop}
theorem c_wea (H : MI σ) (hB : isB B) (hw : WF m V) (R : Rel U V) {b : Nat} (hb : b < V 2) (ho : V (72 + 8 * b + 4) = 0) (hp : 0 < V (72 + 8 * b + 3)) (hK : ∀ U', Rel U' (dWea V b) → KV (bS σ B U')) : cV E 12 [.ref (B + 15 + b)] (bS σ B U) KV := by
  have h1 := hw.1
  unfold W1 at h1
  have h3 := hw.2.2.1 b hb
  have rb := R.2.2.2.2 b hb
  have o : ∀ j, j ≠ 72 + 8 * b + 3 → dWea V b j = V j := fun j h => dWea_o h
  have e3 : dWea V b (72 + 8 * b + 3) = V (72 + 8 * b + 3) - V (72 + 8 * b + 2) := upN_s _ _ _
  have e4 : dWea V b (72 + 8 * b + 4) = 0 := (o _ (by omega)).trans ho
  have es : stOf V b = 0 := by rw [stOf_no ho, if_pos hp]
  have ee : endsM (dWea V b) b = endsM V b := by unfold endsM; rw [o _ (by omega), o _ (by omega)]
  have ez := nI_eq (a := V (72 + 8 * b + 3) - V (72 + 8 * b + 2)) (b := 0) (by omega) (by decide)
  have fin : ∀ U', (∀ c k, c ≠ 15 + b → U' c k = U c k) → (∀ k, k ≠ 4 → k ≠ 5 → U' (15 + b) k = U (15 + b) k) → U' (15 + b) 4 = nI (V (72 + 8 * b + 3) - V (72 + 8 * b + 2)) → U' (15 + b) 5 = nI (stOf (dWea V b) b) → Rel U' (dWea V b) := fun U' u1 u2 u4 u5 => by
    refine R.brg (b := b) (R.1.keep (fun k => u1 0 k (by omega)) (o 0 (by omega)) (o 1 (by omega)) (o 2 (by omega)) (o 11 (by omega)) (o 12 (by omega)) (o 13 (by omega)) (o 14 (by omega))) (fun c k h1 h2 => u1 c k h2) (fun j _ _ _ _ _ h => o j (by omega)) ?_ hw.w1
    unfold RB at rb ⊢
    rw [ee, u4, u5, e3, o (72 + 8 * b + 0) (by omega), o (72 + 8 * b + 1) (by omega), o (72 + 8 * b + 2) (by omega), o (72 + 8 * b + 5) (by omega), o (72 + 8 * b + 6) (by omega), o (72 + 8 * b + 7) (by omega), u2 0 (by decide) (by decide), u2 1 (by decide) (by decide), u2 2 (by decide) (by decide), u2 3 (by decide) (by decide), u2 6 (by decide) (by decide), u2 7 (by decide) (by decide), u2 8 (by decide) (by decide)]
    exact ⟨rb.1, rb.2.1, rb.2.2.1, rb.2.2.2.1, rfl, rfl, rb.2.2.2.2.2.2.1, rb.2.2.2.2.2.2.2.1, rb.2.2.2.2.2.2.2.2⟩
  have tail : sh (bS σ B U) (B + 15 + b) 1 9 ∧ nw (wrI (bS σ B U) (B + 15 + b) 4 (nI (V (72 + 8 * b + 3) - V (72 + 8 * b + 2)))) (fun s3 => sh s3 (B + 15 + b) 1 9 ∧ ((gI s3 (B + 15 + b) 4) ≠ (nI 0) → QV KV none s3) ∧ (¬ (gI s3 (B + 15 + b) 4) ≠ (nI 0) → sh s3 (B + 15 + b) 1 9 ∧ nw (wrI s3 (B + 15 + b) 5 (nI 2)) (fun s4 => QV KV none s4))) := by
    refine ⟨shB H hB (by omega), nw_e (wB (by omega)) ⟨shB H hB (by omega), ?_⟩⟩
    rw [gB (by omega), upU_s]
    refine ⟨fun g => hK _ (fin _ (fun c k h => ?_) (fun k h4 h5 => ?_) ?_ ?_), fun g => ⟨shB H hB (by omega), nw_e (wB (by omega)) (hK _ (fin _ (fun c k h => ?_) (fun k h4 h5 => ?_) ?_ ?_))⟩⟩
    · simp (disch := omega) only [upU_s, upU_k, upU_c]
    · simp (disch := omega) only [upU_s, upU_k, upU_c]
    · simp (disch := omega) only [upU_s, upU_k, upU_c]
    · have : V (72 + 8 * b + 3) - V (72 + 8 * b + 2) ≠ 0 := fun z => g (ez.mpr z)
      rw [upU_k (by decide), rb.2.2.2.2.2.1, es, stOf_no e4, e3, if_pos (by omega)]
    · simp (disch := omega) only [upU_s, upU_k, upU_c]
    · simp (disch := omega) only [upU_s, upU_k, upU_c]
    · simp (disch := omega) only [upU_s, upU_k, upU_c]
    · have := ez.mp (Classical.not_not.mp g)
      rw [upU_s, stOf_no e4, e3, if_neg (by omega)]
  refine sg12_0 ⟨shB H hB (by omega), shB H hB (by omega), ?_⟩
  rw [gB (by omega), gB (by omega), rb.2.2.2.2.1, rb.2.2.2.1]
  by_cases h : V (72 + 8 * b + 2) ≤ V (72 + 8 * b + 3)
  · rw [pk_sub h]
    refine c_max (fun g => ?_) fun g => tail
    have := (nI_ltI (by omega) (by decide)).mp g
    omega
  · rw [show V (72 + 8 * b + 3) - V (72 + 8 * b + 2) = 0 by omega] at tail
    refine c_max (fun g => tail) fun g => ?_
    exfalso
    refine h (nI_subT (by omega) (by omega) ?_)
    rw [Int32.lt_iff_toInt_lt] at g
    rw [Int32.le_iff_toInt_le]
    omega
end COM10
end
section
/-! the component's painting -/
section COM11
variable {E : AEnv} {σ τ : ASt} {B : Nat} {U U' : Nat → Nat → Int32} {V W : Nat → Nat} {m n t : Nat} {Q : Option Value → ASt → Prop} {K : Int32 → ASt → Prop} {KV : ASt → Prop}
theorem c_min {s : ASt} {x y : Int32} (h1 : y < x → K y s) (h2 : ¬ y < x → K x s) : cI E 172 [.int x, .int y] s K := sg172_0 ⟨h1, h2⟩
/-- a crew has painted with c coins, the coat is x -/
def dMid (V : Nat → Nat) (b c x : Nat) : Nat → Nat := upN (upN V (72 + 8 * b + 7) (V (72 + 8 * b + 7) + c)) (72 + 8 * b + 3) x
theorem WF.mid (hw : WF m V) {b c x : Nat} (hb : b < V 2) (hx : x ≤ 100) : WF m (dMid V b c x) := by
  have h3 := hw.2.2.1 b hb
  have o : ∀ j, j ≠ 72 + 8 * b + 3 → j ≠ 72 + 8 * b + 7 → dMid V b c x j = V j := fun j h1 h2 => by
    unfold dMid
    simp (disch := omega) only [upN_n, upN_s]
  refine hw.brg (b := b) (fun j h1 h2 h3 => o j (by omega) (by omega)) (Nat.le_of_eq (o _ (by omega) (by omega))) (fun j h1 h2 => o j (by omega) (by omega)) (fun _ => ?_) (fun _ => ?_)
  · unfold dMid; rw [upN_s]; exact hx
  · rw [o _ (by omega) (by omega)]; omega
theorem c_pai (H : MI σ) (hB : isB B) (hw : WF m V) (R : Rel U V) {b p c : Nat} (hb : b < V 2) (ho : V (72 + 8 * b + 4) = 1) (hp : p ≤ 100)
    (hK1 : V (72 + 8 * b + 3) + p < 100 → ∀ U', Rel U' (dMid V b c (V (72 + 8 * b + 3) + p)) → KV (bS σ B U')) (hK2 : ¬ V (72 + 8 * b + 3) + p < 100 → ∀ U', Rel U' (dRec (dMid V b c 100) b) → KV (bS σ B U')) : cV E 11 [.ref (B + 15 + b), .int (nI p), .int (nI c)] (bS σ B U) KV := by
  have h1 := hw.1
  unfold W1 at h1
  have h3 := hw.2.2.1 b hb
  have rb := R.2.2.2.2 b hb
  have es : stOf V b = 1 := stOf_cr ho
  have fin : ∀ x, Rel (upU (upU U (15 + b) 8 (nI (V (72 + 8 * b + 7) + c))) (15 + b) 4 (nI x)) (dMid V b c x) := fun x => by
    have o : ∀ j, j ≠ 72 + 8 * b + 3 → j ≠ 72 + 8 * b + 7 → dMid V b c x j = V j := fun j h1 h2 => by
      unfold dMid
      simp (disch := omega) only [upN_n, upN_s]
    have e3 : dMid V b c x (72 + 8 * b + 3) = x := by unfold dMid; rw [upN_s]
    have e7 : dMid V b c x (72 + 8 * b + 7) = V (72 + 8 * b + 7) + c := by unfold dMid; simp (disch := omega) only [upN_n, upN_s]
    have ee : endsM (dMid V b c x) b = endsM V b := by unfold endsM; rw [o _ (by omega) (by omega), o _ (by omega) (by omega)]
    have e4 : stOf (dMid V b c x) b = 1 := stOf_cr ((o _ (by omega) (by omega)).trans ho)
    refine R.brg (b := b) (R.1.keep (fun k => ?_) (o 0 (by omega) (by omega)) (o 1 (by omega) (by omega)) (o 2 (by omega) (by omega)) (o 11 (by omega) (by omega)) (o 12 (by omega) (by omega)) (o 13 (by omega) (by omega)) (o 14 (by omega) (by omega))) (fun c k h1 h2 => ?_) (fun j _ _ _ _ _ h => o j (by omega) (by omega)) ?_ hw.w1
    · simp (disch := omega) only [upU_s, upU_k, upU_c]
    · simp (disch := omega) only [upU_s, upU_k, upU_c]
    · unfold RB at rb ⊢
      rw [ee, e4, e3, e7, o (72 + 8 * b + 0) (by omega) (by omega), o (72 + 8 * b + 1) (by omega) (by omega), o (72 + 8 * b + 2) (by omega) (by omega), o (72 + 8 * b + 5) (by omega) (by omega), o (72 + 8 * b + 6) (by omega) (by omega)]
      rw [es] at rb
      simp (disch := omega) only [upU_s, upU_k, upU_c]
      exact ⟨rb.1, rb.2.1, rb.2.2.1, rb.2.2.2.1, trivial, rb.2.2.2.2.2.1, rb.2.2.2.2.2.2.1, rb.2.2.2.2.2.2.2.1, trivial⟩
  have em := nI_ltI (a := 100) (b := V (72 + 8 * b + 3) + p) (by decide) (by omega)
  have tail : ∀ x, x ≤ 100 → (x ≠ 100 → x = V (72 + 8 * b + 3) + p) → (x = 100 → 100 ≤ V (72 + 8 * b + 3) + p) → (sh (bS σ B (upU U (15 + b) 8 (nI (V (72 + 8 * b + 7) + c)))) (B + 15 + b) 1 9 ∧ nw (wrI (bS σ B (upU U (15 + b) 8 (nI (V (72 + 8 * b + 7) + c)))) (B + 15 + b) 4 (nI x)) (fun s4 => sh s4 (B + 15 + b) 1 9 ∧ ((gI s4 (B + 15 + b) 4) ≠ (nI 100) → QV KV none s4) ∧ (¬ (gI s4 (B + 15 + b) 4) ≠ (nI 100) → sh s4 (B + 15 + b) 1 9 ∧ cV E 10 [.ref (B + 15 + b)] s4 (fun s5 => QV KV none s5)))) := by
    intro x hx h1x h2x
    have ex := nI_eq (a := x) (b := 100) (by omega) (by decide)
    refine ⟨shB H hB (by omega), nw_e (wB (by omega)) ⟨shB H hB (by omega), ?_⟩⟩
    rw [gB (by omega), upU_s]
    refine ⟨fun g => ?_, fun g => ⟨shB H hB (by omega), ?_⟩⟩
    · have hne : x ≠ 100 := fun z => g (ex.mpr z)
      have := fin x
      have hx2 := h1x hne
      rw [hx2] at this ⊢
      exact hK1 (by omega) _ this
    · have hx2 := ex.mp (Classical.not_not.mp g)
      subst hx2
      have e2 : dMid V b c 100 2 = V 2 := by unfold dMid; simp (disch := omega) only [upN_n, upN_s]
      exact c_los2 H hB (hw.mid hb (Nat.le_refl _)) (fin 100) (by omega) (hK2 (by have := h2x rfl; omega))
  refine sg11_0 ⟨shB H hB (by omega), shB H hB (by omega), ?_⟩
  rw [gB (by omega), rb.2.2.2.2.2.2.2.2, nI_add]
  refine nw_e (wB (by omega)) ⟨shB H hB (by omega), ?_⟩
  rw [gB (by omega), upU_k (by decide), rb.2.2.2.2.1, nI_add]
  refine c_min (fun g => ?_) fun g => ?_
  · have := em.mp g
    exact tail 100 (by omega) (fun z => absurd rfl z) (fun _ => by omega)
  · have : ¬ 100 < V (72 + 8 * b + 3) + p := fun z => g (em.mpr z)
    exact tail _ (by omega) (fun _ => rfl) (fun z => by omega)
end COM11
end
section
/-! the component's islands -/
section COM12
variable {E : AEnv} {σ τ : ASt} {B : Nat} {U U' : Nat → Nat → Int32} {V W : Nat → Nat} {m n t : Nat} {Q : Option Value → ASt → Prop} {K : Int32 → ASt → Prop} {KV : ASt → Prop}
/-- only the coins and the days, and island i, differ -/
theorem Rel.isl (R : Rel U V) {i : Nat} (hg : RG U' W) (hU : ∀ c k, c ≠ 0 → c ≠ 7 + i → U' c k = U c k) (hW : ∀ j, j ≠ 0 → j ≠ 11 → j ≠ 12 → j ≠ 13 → j ≠ 14 → (j < 32 + 5 * i ∨ 32 + 5 * i + 5 ≤ j) → W j = V j) (hb : RI U' W i) (hi8 : i < 8) (hV : V 1 ≤ 8 ∧ V 15 ≤ 8) : Rel U' W := by
  obtain ⟨_, r2, r3, r4, r5⟩ := R
  have w15 := hW 15 (by omega) (by omega) (by omega) (by omega) (by omega) (by omega)
  refine ⟨hg, fun s hs => ?_, ⟨?_, fun a ha => ?_⟩, fun j hj => ?_, fun c hc => ?_⟩
  · rw [hU 3 s (by omega) (by omega), hW _ (by omega) (by omega) (by omega) (by omega) (by omega) (by omega)]
    exact r2 s hs
  · rw [hU 4 2 (by omega) (by omega), w15]
    exact r3.1
  · rw [w15] at ha ⊢
    rw [hU 5 _ (by omega) (by omega), hU 6 _ (by omega) (by omega), hW (16 + 2 * a) (by omega) (by omega) (by omega) (by omega) (by omega) (by omega), hW (17 + 2 * a) (by omega) (by omega) (by omega) (by omega) (by omega) (by omega)]
    exact r3.2 a ha
  · rw [hW 1 (by omega) (by omega) (by omega) (by omega) (by omega) (by omega)] at hj
    by_cases hji : j = i
    · rw [hji]; exact hb
    · have := r4 j hj
      unfold RI at this ⊢
      rw [hU _ 0 (by omega) (by omega), hU _ 1 (by omega) (by omega), hU _ 2 (by omega) (by omega), hU _ 3 (by omega) (by omega), hU _ 4 (by omega) (by omega), hW (32 + 5 * j + 0) (by omega) (by omega) (by omega) (by omega) (by omega) (by omega), hW (32 + 5 * j + 1) (by omega) (by omega) (by omega) (by omega) (by omega) (by omega), hW (32 + 5 * j + 2) (by omega) (by omega) (by omega) (by omega) (by omega) (by omega), hW (32 + 5 * j + 3) (by omega) (by omega) (by omega) (by omega) (by omega) (by omega), hW (32 + 5 * j + 4) (by omega) (by omega) (by omega) (by omega) (by omega) (by omega)]
      exact this
  · rw [hW 2 (by omega) (by omega) (by omega) (by omega) (by omega) (by omega)] at hc
    have := r5 c hc
    have w : ∀ k, k < 8 → W (72 + 8 * c + k) = V (72 + 8 * c + k) := fun k hk => hW _ (by omega) (by omega) (by omega) (by omega) (by omega) (by omega)
    have ee : endsM W c = endsM V c := by unfold endsM; rw [w 0 (by omega), w 1 (by omega)]
    have es : stOf W c = stOf V c := by unfold stOf pntd; rw [w 4 (by omega), w 3 (by omega)]
    unfold RB at this ⊢
    rw [ee, es, hU _ 0 (by omega) (by omega), hU _ 1 (by omega) (by omega), hU _ 2 (by omega) (by omega), hU _ 3 (by omega) (by omega), hU _ 4 (by omega) (by omega), hU _ 5 (by omega) (by omega), hU _ 6 (by omega) (by omega), hU _ 7 (by omega) (by omega), hU _ 8 (by omega) (by omega), w 0 (by omega), w 1 (by omega), w 2 (by omega), w 3 (by omega), w 5 (by omega), w 6 (by omega), w 7 (by omega)]
    exact this
end COM12
end
section
/-! the component's island waits alone -/
section COM13
variable {E : AEnv} {σ τ : ASt} {B : Nat} {U U' : Nat → Nat → Int32} {V W : Nat → Nat} {m n t : Nat} {Q : Option Value → ASt → Prop} {K : Int32 → ASt → Prop} {KV : ASt → Prop}
theorem c_wta (H : MI σ) (hB : isB B) {i : Nat} (hw : WL m i V) (R : Rel U V) (hi : i < V 1) (hno : ¬ (V 6 = 1 ∧ V (32 + 5 * i + 0) ≤ V 11)) (hK : ∀ U', Rel U' (dWai V i false) → K (nI (cWai V i false)) (bS σ B U')) : cI E 17 [.ref (B + 7 + i), .int (nI (V 7))] (bS σ B U) K := by
  have h1 := hw.1
  unfold W1 at h1
  have h2 := hw.2.1
  unfold W2 at h2
  have h5 := hw.2.2.2.2
  unfold W5 at h5
  have h4 := hw.2.2.2.1 i hi
  have ri := R.2.2.2.1 i hi
  have o : ∀ j, (j < 32 + 5 * i + 1 ∨ 32 + 5 * i + 4 ≤ j) → dWai V i false j = V j := fun j h => by
    unfold dWai
    dsimp only
    rw [if_neg ff, if_neg hno]
    split
    · simp (disch := omega) only [upN_n, upN_s]
    · simp (disch := omega) only [upN_n, upN_s]
  have e1 : dWai V i false (32 + 5 * i + 1) = V (32 + 5 * i + 1) + 1 := by
    unfold dWai
    dsimp only
    rw [if_neg ff, if_neg hno]
    split
    · simp (disch := omega) only [upN_n, upN_s]
    · simp (disch := omega) only [upN_n, upN_s]
  have e3 : dWai V i false (32 + 5 * i + 3) = (if V (32 + 5 * i + 1) + 1 ≤ V (32 + 5 * i + 3) then V (32 + 5 * i + 3) else V (32 + 5 * i + 1) + 1) := by
    unfold dWai
    dsimp only
    rw [if_neg ff, if_neg hno]
    split
    · simp (disch := omega) only [upN_n, upN_s]
    · simp (disch := omega) only [upN_n, upN_s]
  have e2 : dWai V i false (32 + 5 * i + 2) = V (32 + 5 * i + 2) + (if V 7 < V (32 + 5 * i + 1) + 1 then 1 else 0) := by
    unfold dWai
    dsimp only
    rw [if_neg ff, if_neg hno]
    split
    · simp (disch := omega) only [upN_n, upN_s]
    · simp (disch := omega) only [upN_n, upN_s]
      omega
  have ec : cWai V i false = if V 7 < V (32 + 5 * i + 1) + 1 then 1 else 0 := by
    unfold cWai
    rw [if_neg ff, if_neg hno]
  have fin : ∀ U', (∀ c k, c ≠ 7 + i → U' c k = U c k) → U' (7 + i) 0 = U (7 + i) 0 → U' (7 + i) 4 = U (7 + i) 4 → U' (7 + i) 1 = nI (dWai V i false (32 + 5 * i + 1)) → U' (7 + i) 2 = nI (dWai V i false (32 + 5 * i + 3)) → U' (7 + i) 3 = nI (dWai V i false (32 + 5 * i + 2)) → Rel U' (dWai V i false) := fun U' u u0 u4 u1 u2 u3 => by
    refine R.isl (i := i) (R.1.keep (fun k => u 0 k (by omega)) (o 0 (by omega)) (o 1 (by omega)) (o 2 (by omega)) (o 11 (by omega)) (o 12 (by omega)) (o 13 (by omega)) (o 14 (by omega))) (fun c k h1 h2 => u c k h2) (fun j _ _ _ _ _ h => o j (by omega)) ?_ (by omega) ⟨h1.2.1, h1.2.2.2⟩
    unfold RI at ri ⊢
    rw [u0, u1, u2, u3, u4, o (32 + 5 * i + 0) (by omega), o (32 + 5 * i + 4) (by omega)]
    exact ⟨ri.1, rfl, rfl, rfl, ri.2.2.2.2⟩
  have em := nI_ltI (a := V (32 + 5 * i + 3)) (b := V (32 + 5 * i + 1) + 1) (by omega) (by omega)
  have eb := nI_ltI (a := V 7) (b := V (32 + 5 * i + 1) + 1) (by omega) (by omega)
  refine sg17_0 ⟨shI H hB (by omega), shI H hB (by omega), ?_⟩
  rw [gIl (by omega), ri.2.1, nI_add]
  refine nw_e (wIl (by omega)) ⟨shI H hB (by omega), shI H hB (by omega), ?_⟩
  rw [gIl (by omega), gIl (by omega), upU_k (by decide), upU_s, ri.2.2.1]
  have tail : ∀ x, x = dWai V i false (32 + 5 * i + 3) → (sh (bS σ B (upU U (7 + i) 1 (nI (V (32 + 5 * i + 1) + 1)))) (B + 7 + i) 2 5 ∧ nw (wrI (bS σ B (upU U (7 + i) 1 (nI (V (32 + 5 * i + 1) + 1)))) (B + 7 + i) 2 (nI x)) (fun s4 => sh s4 (B + 7 + i) 2 5 ∧ (nI (V 7) < (gI s4 (B + 7 + i) 1) → sh s4 (B + 7 + i) 2 5 ∧ sh s4 (B + 7 + i) 2 5 ∧ nw (wrI s4 (B + 7 + i) 3 ((gI s4 (B + 7 + i) 3) + (nI 1))) (fun s5 => fN .boolean (nI 1) = true ∧ QI K (some (.int (nI 1))) s5)) ∧ (¬ nI (V 7) < (gI s4 (B + 7 + i) 1) → fN .boolean (nI 0) = true ∧ QI K (some (.int (nI 0))) s4))) := by
    intro x hx
    refine ⟨shI H hB (by omega), nw_e (wIl (by omega)) ⟨shI H hB (by omega), ?_⟩⟩
    rw [gIl (by omega), upU_k (by decide), upU_s]
    refine ⟨fun g => ⟨shI H hB (by omega), shI H hB (by omega), ?_⟩, fun g => ⟨fb0, ?_⟩⟩
    · rw [gIl (by omega), upU_k (by decide), upU_k (by decide), ri.2.2.2.1, nI_add]
      have g2 := eb.mp g
      rw [if_pos g2] at ec e2
      rw [ec] at hK
      refine nw_e (wIl (by omega)) ⟨fb1, hK _ (fin _ (fun c k h => ?_) ?_ ?_ ?_ ?_ ?_)⟩
      · simp (disch := omega) only [upU_s, upU_k, upU_c]
      · simp (disch := omega) only [upU_s, upU_k, upU_c]
      · simp (disch := omega) only [upU_s, upU_k, upU_c]
      · rw [e1]; simp (disch := omega) only [upU_s, upU_k, upU_c]
      · rw [← hx]; simp (disch := omega) only [upU_s, upU_k, upU_c]
      · rw [e2]; simp (disch := omega) only [upU_s, upU_k, upU_c]
    · have g2 : ¬ V 7 < V (32 + 5 * i + 1) + 1 := fun z => g (eb.mpr z)
      rw [if_neg g2] at ec e2
      rw [ec] at hK
      refine hK _ (fin _ (fun c k h => ?_) ?_ ?_ ?_ ?_ ?_)
      · simp (disch := omega) only [upU_s, upU_k, upU_c]
      · simp (disch := omega) only [upU_s, upU_k, upU_c]
      · simp (disch := omega) only [upU_s, upU_k, upU_c]
      · rw [e1]; simp (disch := omega) only [upU_s, upU_k, upU_c]
      · rw [← hx]; simp (disch := omega) only [upU_s, upU_k, upU_c]
      · rw [e2]; simp (disch := omega) only [upU_s, upU_k, upU_c]
        exact ri.2.2.2.1
  refine c_max (fun g => tail _ ?_) fun g => tail _ ?_
  · have := em.mp g
    rw [e3, if_neg (by omega)]
  · have : ¬ V (32 + 5 * i + 3) < V (32 + 5 * i + 1) + 1 := fun z => g (em.mpr z)
    rw [e3, if_pos (by omega)]
end COM13
end
section
/-! the component's crews paint -/
section COM14
variable {E : AEnv} {σ τ : ASt} {B : Nat} {U U' : Nat → Nat → Int32} {V W : Nat → Nat} {m n t : Nat} {Q : Option Value → ASt → Prop} {K : Int32 → ASt → Prop} {KV : ASt → Prop}
/-- only the coins and the days differ -/
theorem Rel.coi (R : Rel U V) (hg : RG U' W) (hU : ∀ c k, c ≠ 0 → U' c k = U c k) (hW : ∀ j, j ≠ 0 → j ≠ 11 → j ≠ 12 → j ≠ 13 → j ≠ 14 → W j = V j) : Rel U' W := by
  obtain ⟨_, r2, r3, r4, r5⟩ := R
  have w15 := hW 15 (by omega) (by omega) (by omega) (by omega) (by omega)
  refine ⟨hg, fun s hs => ?_, ⟨?_, fun a ha => ?_⟩, fun i hi => ?_, fun c hc => ?_⟩
  · rw [hU 3 s (by omega), hW _ (by omega) (by omega) (by omega) (by omega) (by omega)]
    exact r2 s hs
  · rw [hU 4 2 (by omega), w15]
    exact r3.1
  · rw [w15] at ha ⊢
    rw [hU 5 _ (by omega), hU 6 _ (by omega), hW (16 + 2 * a) (by omega) (by omega) (by omega) (by omega) (by omega), hW (17 + 2 * a) (by omega) (by omega) (by omega) (by omega) (by omega)]
    exact r3.2 a ha
  · rw [hW 1 (by omega) (by omega) (by omega) (by omega) (by omega)] at hi
    have := r4 i hi
    unfold RI at this ⊢
    rw [hU _ 0 (by omega), hU _ 1 (by omega), hU _ 2 (by omega), hU _ 3 (by omega), hU _ 4 (by omega), hW (32 + 5 * i + 0) (by omega) (by omega) (by omega) (by omega) (by omega), hW (32 + 5 * i + 1) (by omega) (by omega) (by omega) (by omega) (by omega), hW (32 + 5 * i + 2) (by omega) (by omega) (by omega) (by omega) (by omega), hW (32 + 5 * i + 3) (by omega) (by omega) (by omega) (by omega) (by omega), hW (32 + 5 * i + 4) (by omega) (by omega) (by omega) (by omega) (by omega)]
    exact this
  · rw [hW 2 (by omega) (by omega) (by omega) (by omega) (by omega)] at hc
    have := r5 c hc
    have w : ∀ k, k < 8 → W (72 + 8 * c + k) = V (72 + 8 * c + k) := fun k hk => hW _ (by omega) (by omega) (by omega) (by omega) (by omega)
    have ee : endsM W c = endsM V c := by unfold endsM; rw [w 0 (by omega), w 1 (by omega)]
    have es : stOf W c = stOf V c := by unfold stOf pntd; rw [w 4 (by omega), w 3 (by omega)]
    unfold RB at this ⊢
    rw [ee, es, hU _ 0 (by omega), hU _ 1 (by omega), hU _ 2 (by omega), hU _ 3 (by omega), hU _ 4 (by omega), hU _ 5 (by omega), hU _ 6 (by omega), hU _ 7 (by omega), hU _ 8 (by omega), w 0 (by omega), w 1 (by omega), w 2 (by omega), w 3 (by omega), w 5 (by omega), w 6 (by omega), w 7 (by omega)]
    exact this
theorem upN_up {k x y : Nat} : upN (upN V k x) k y = upN V k y := by
  funext j
  unfold upN
  by_cases h : j = k
  · rw [if_pos h, if_pos h]
  · rw [if_neg h, if_neg h, if_neg h]
def dCoi (V : Nat → Nat) : Nat → Nat := upN (upN V 11 (V 11 - V 5)) 12 (V 12 + V 5)
theorem dPnt_is {b : Nat} (h : V 5 ≤ V 11) : dPnt V b = if V (72 + 8 * b + 3) + V 4 < 100 then dMid (dCoi V) b (V 5) (V (72 + 8 * b + 3) + V 4) else dRec (dMid (dCoi V) b (V 5) 100) b := by
  have e : dCoi V (72 + 8 * b + 7) = V (72 + 8 * b + 7) := by unfold dCoi; simp (disch := omega) only [upN_n, upN_s]
  unfold dPnt
  rw [if_pos h]
  dsimp only
  split
  · unfold dMid
    rw [e]
    rfl
  · unfold dRec dMid
    rw [e, upN_up]
    rfl
theorem c_paL (H : MI σ) (hB : isB B) (hw : WF m V) (hK : ∀ U', Rel U' (dPA V (V 2)) → Q none (bS σ B U')) : ∀ (d k : Nat) (U : Nat → Nat → Int32), k + d = V 2 → Rel U (dPA V k) → wp E 30 9 [.ref B, .int (nI (V 5)), .int (nI k)] [] (bS σ B U) Q := by
  have h1 := hw.1
  unfold W1 at h1
  intro d
  induction d with
  | zero =>
    intro k U hk R
    obtain rfl : k = V 2 := by omega
    refine sg30_9 ⟨shS H hB, fun _ => hK U R, fun h => absurd ?_ h⟩
    rw [bS_get0, R.1.2.1, dPA_o _ (by decide) (by decide) (by omega)]
    exact nI_le (Nat.le_refl _) (by omega)
  | succ d ih =>
    intro k U hk R
    have nx := fun U' => ih (k + 1) U' (by omega)
    have hw2 := hw.pa k (by omega)
    have e2 : dPA V k 2 = V 2 := dPA_o _ (by decide) (by decide) (by omega)
    have e4 : dPA V k 4 = V 4 := dPA_o _ (by decide) (by decide) (by omega)
    have e5 : dPA V k 5 = V 5 := dPA_o _ (by decide) (by decide) (by omega)
    rw [dPA] at nx
    generalize dPA V k = W at R nx hw2 e2 e4 e5
    have rb := R.2.2.2.2 k (by omega)
    have h3 := hw2.2.2.1 k (by omega)
    have h22 := hw2.2.1
    unfold W2 at h22
    have h55 := hw2.2.2.2.2
    unfold W5 at h55
    have hs := stOf_lt W k
    have e1 := nI_eq (a := stOf W k) (b := 1) (by omega) (by decide)
    have s1 := st1 (V := W) (b := k)
    have el := nI_ltI (a := W 11) (b := V 5) (by omega) (by omega)
    refine sg30_9 ⟨shS H hB, fun h => absurd h ?_, fun _ => ⟨shS H hB, _, rS1 H hB, 14, _, shBA H hB, vi (by omega) (by omega), rBAc H hB (by omega), shB H hB (by omega), ?_⟩⟩
    · rw [bS_get0, R.1.2.1, e2]
      exact nI_ge (by omega) (by omega)
    · rw [gB (by omega), rb.2.2.2.2.2.1]
      refine ⟨fun g => ?_, fun g => ⟨shS H hB, ?_⟩⟩
      · rw [if_neg (fun z => g (e1.mpr (s1.mpr z)))] at nx
        rw [nI_add]; exact nx U R
      · have hp := s1.mp (e1.mp (Classical.not_not.mp g))
        rw [if_pos hp] at nx
        rw [bS_get0, R.1.2.2.2.1]
        refine ⟨fun g2 => ?_, fun g2 => ⟨shS H hB, shS H hB, ?_⟩⟩
        · have := el.mp g2
          have e : dPnt W k = W := by unfold dPnt; rw [if_neg (by omega)]
          rw [e] at nx
          rw [nI_add]; exact nx U R
        · have hle : W 5 ≤ W 11 := by
            have : ¬ W 11 < V 5 := fun z => g2 (el.mpr z)
            omega
          rw [dPnt_is hle] at nx
          rw [pk_sub (by omega)]
          refine nw_e bS_put0 ⟨shS H hB, shS H hB, ?_⟩
          rw [bS_get0, upU_k (by decide), R.1.2.2.2.2.1, nI_add]
          refine nw_e bS_put0 ⟨shS H hB, _, rS1 H hB, 14, _, shBA H hB, vi (by omega) (by omega), rBAc H hB (by omega), shS H hB, _, rS2 H hB, 8, shSe H hB, vi (by decide) (by decide), shB H hB (by omega), ?_⟩
          have R2 : Rel (upU (upU U 0 7 (nI (W 11 - V 5))) 0 8 (nI (W 12 + V 5))) (dCoi W) := by
            refine R.coi ?_ (fun c k h => ?_) (fun j h0 h11 h12 h13 h14 => ?_)
            · have rg := R.1
              unfold RG at rg ⊢
              unfold dCoi
              simp (disch := omega) only [upN_n, upN_s]
              simp (disch := omega) only [upU_s, upU_k, upU_c]
              rw [e5]
              exact ⟨rg.1, rg.2.1, rg.2.2.1, rfl, rfl, rg.2.2.2.2.2.1, rg.2.2.2.2.2.2⟩
            · simp (disch := omega) only [upU_s, upU_k, upU_c]
            · unfold dCoi; simp (disch := omega) only [upN_n, upN_s]
          have hwc : WF m (dCoi W) := by
            refine hw2.brg (b := k) (fun j a b c => ?_) ?_ (fun j a b => ?_) (fun _ => ?_) (fun _ => ?_)
            · unfold dCoi; simp (disch := omega) only [upN_n, upN_s]
            · unfold dCoi; simp (disch := omega) only [upN_n, upN_s]; omega
            · unfold dCoi; simp (disch := omega) only [upN_n, upN_s]
            · unfold dCoi; simp (disch := omega) only [upN_n, upN_s]; omega
            · unfold dCoi; simp (disch := omega) only [upN_n, upN_s]; omega
          have c2 : dCoi W 2 = W 2 := by unfold dCoi; simp (disch := omega) only [upN_n, upN_s]
          have c3 : dCoi W (72 + 8 * k + 3) = W (72 + 8 * k + 3) := by unfold dCoi; simp (disch := omega) only [upN_n, upN_s]
          have c4 : dCoi W (72 + 8 * k + 4) = W (72 + 8 * k + 4) := by unfold dCoi; simp (disch := omega) only [upN_n, upN_s]
          have cs : dCoi W (3 + 1) = W 4 := by unfold dCoi; simp (disch := omega) only [upN_n, upN_s]
          rw [bS_get (by decide), R2.2.1 1 (by decide), cs, e4, nI_add]
          rw [e4, e5] at nx
          refine c_pai H hB hwc R2 (by omega) (c4.trans (beq_iff'.mp hp)) (by omega) (fun g3 U' r => ?_) (fun g3 U' r => ?_)
          · rw [c3] at g3 r
            rw [if_pos g3] at nx
            exact nx U' r
          · rw [c3] at g3
            rw [if_neg g3] at nx
            exact nx U' r
theorem c_paA (H : MI σ) (hB : isB B) (hw : WF m V) (R : Rel U V) (hK : ∀ U', Rel U' (dPA V (V 2)) → KV (bS σ B U')) : cV E 30 [.ref B] (bS σ B U) KV := by
  refine sg30_0 ⟨shS H hB, _, rS2 H hB, 8, shSe H hB, vi (by decide) (by decide), ?_⟩
  rw [bS_get (by decide), R.2.1 2 (by decide)]
  exact c_paL H hB hw hK (V 2) 0 U (by omega) R
end COM14
end
section
/-! the component's bridges wear -/
section COM15
variable {E : AEnv} {σ τ : ASt} {B : Nat} {U U' : Nat → Nat → Int32} {V W : Nat → Nat} {m n t : Nat} {Q : Option Value → ASt → Prop} {K : Int32 → ASt → Prop} {KV : ASt → Prop}
theorem upN_id {k : Nat} : upN V k (V k) = V := by
  funext j
  unfold upN
  by_cases h : j = k
  · rw [if_pos h, h]
  · rw [if_neg h]
theorem Rel.clo (hw : WF m V) (R : Rel U V) {b x : Nat} (hb : b < V 2) : Rel (upU U (15 + b) 7 (nI x)) (upN V (72 + 8 * b + 6) x) := by
  have rb := R.2.2.2.2 b hb
  have o : ∀ j, j ≠ 72 + 8 * b + 6 → upN V (72 + 8 * b + 6) x j = V j := fun j h => upN_n h
  refine R.brg (b := b) (R.1.keep (fun k => ?_) (o 0 (by omega)) (o 1 (by omega)) (o 2 (by omega)) (o 11 (by omega)) (o 12 (by omega)) (o 13 (by omega)) (o 14 (by omega))) (fun c k h1 h2 => ?_) (fun j _ _ _ _ _ h => o j (by omega)) ?_ hw.w1
  · simp (disch := omega) only [upU_s, upU_k, upU_c]
  · simp (disch := omega) only [upU_s, upU_k, upU_c]
  · have ee : endsM (upN V (72 + 8 * b + 6) x) b = endsM V b := by unfold endsM; rw [o _ (by omega), o _ (by omega)]
    have es : stOf (upN V (72 + 8 * b + 6) x) b = stOf V b := by unfold stOf pntd; rw [o _ (by omega), o _ (by omega)]
    unfold RB at rb ⊢
    rw [ee, es, upN_s, o (72 + 8 * b + 0) (by omega), o (72 + 8 * b + 1) (by omega), o (72 + 8 * b + 2) (by omega), o (72 + 8 * b + 3) (by omega), o (72 + 8 * b + 5) (by omega), o (72 + 8 * b + 7) (by omega)]
    simp (disch := omega) only [upU_s, upU_k, upU_c]
    exact ⟨rb.1, rb.2.1, rb.2.2.1, rb.2.2.2.1, rb.2.2.2.2.1, rb.2.2.2.2.2.1, rb.2.2.2.2.2.2.1, trivial, rb.2.2.2.2.2.2.2.2⟩
theorem c_weL (H : MI σ) (hB : isB B) (hw : WF m V) {S : Nat} {o : Nat → Bool} (hS : S < 2 ^ 31) (hSo : ∀ k, k < V 2 → bt S k = o k) (ho : ∀ k, k < V 2 → o k = true → V (72 + 8 * k + 4) = 0 ∧ 0 < V (72 + 8 * k + 3)) (hK : ∀ U', Rel U' (dWA o V (V 2)) → Q none (bS σ B U')) :
    ∀ (d k : Nat) (U : Nat → Nat → Int32), k + d = V 2 → Rel U (dWA o V k) → wp E 31 2 [.ref B, .int (nI S), .int (nI k)] [] (bS σ B U) Q := by
  have h1 := hw.1
  unfold W1 at h1
  intro d
  induction d with
  | zero =>
    intro k U hk R
    obtain rfl : k = V 2 := by omega
    refine sg31_2 ⟨shS H hB, fun _ => hK U R, fun h => absurd ?_ h⟩
    rw [bS_get0, R.1.2.1, dWA_o _ (by omega)]
    exact nI_le (Nat.le_refl _) (by omega)
  | succ d ih =>
    intro k U hk R
    have nx := fun U' => ih (k + 1) U' (by omega)
    have hw2 := hw.wa o k (by omega)
    have e2 : dWA o V k 2 = V 2 := dWA_o _ (by omega)
    have x4 : dWA o V k (72 + 8 * k + 4) = V (72 + 8 * k + 4) := dWA_o _ (by omega)
    have x3 : dWA o V k (72 + 8 * k + 3) = V (72 + 8 * k + 3) := dWA_o _ (by omega)
    have hbt := hSo k (by omega)
    have hok := ho k (by omega)
    rw [dWA] at nx
    generalize dWA o V k = W at R nx hw2 e2 x4 x3
    have shut : ∀ (U' : Nat → Nat → Int32) (X : Nat → Nat), WF m X → k < X 2 → Rel U' X → (∀ U', Rel U' (upN X (72 + 8 * k + 6) (X (72 + 8 * k + 6) + (if opn X k = true then 0 else 1))) → wp E 31 2 [.ref B, .int (nI S), .int (nI k + nI 1)] [] (bS σ B U') Q) →
        ((gI (bS σ B U') (B + 15 + k) 5) = (nI 0) → wp E 31 2 [.ref B, .int (nI S), .int (nI k + (nI 1))] [] (bS σ B U') Q) ∧
        (¬ (gI (bS σ B U') (B + 15 + k) 5) = (nI 0) → sh (bS σ B U') B 3 11 ∧ ∃ r6, rf (bS σ B U') B 1 r6 ∧ ∃ n7 r8, sh (bS σ B U') r6 14 n7 ∧ vp_in (nI k) n7 ∧ rf (bS σ B U') r6 (nI k).toNatClampNeg r8 ∧ sh (bS σ B U') r8 1 9 ∧ sh (bS σ B U') r8 1 9 ∧ nw (wrI (bS σ B U') r8 7 ((gI (bS σ B U') r8 7) + (nI 1))) (fun s9 => wp E 31 2 [.ref B, .int (nI S), .int (nI k + (nI 1))] [] s9 Q)) := by
      intro U' X hX hkX RX hN
      have rb := RX.2.2.2.2 k hkX
      have hs := stOf_lt X k
      have e0 := nI_eq (a := stOf X k) (b := 0) (by omega) (by decide)
      have s0 := st0 hX hkX
      have hX1 := hX.1
      unfold W1 at hX1
      rw [gB (by omega), rb.2.2.2.2.2.1]
      refine ⟨fun g => ?_, fun g => ⟨shS H hB, _, rS1 H hB, 14, _, shBA H hB, vi (by omega) (by omega), rBAc H hB (by omega), shB H hB (by omega), shB H hB (by omega), ?_⟩⟩
      · rw [if_pos (s0.mp (e0.mp g))] at hN
        have e : upN X (72 + 8 * k + 6) (X (72 + 8 * k + 6) + 0) = X := upN_id
        rw [e] at hN
        exact hN U' RX
      · rw [if_neg (fun z => g (e0.mpr (s0.mpr z)))] at hN
        rw [gB (by omega), rb.2.2.2.2.2.2.2.1, nI_add]
        exact nw_e (wB (by omega)) (hN _ (RX.clo hX hkX))
    refine sg31_2 ⟨shS H hB, fun h => absurd h ?_, fun _ => c_hol hS (by omega) ?_⟩
    · rw [bS_get0, R.1.2.1, e2]
      exact nI_ge (by omega) (by omega)
    · rw [hbt]
      refine ⟨fun g => ⟨shS H hB, _, rS1 H hB, 14, _, shBA H hB, vi (by omega) (by omega), rBAc H hB (by omega), shB H hB (by omega), shut U W hw2 (by omega) R fun U' r => ?_⟩, fun g => ⟨shS H hB, _, rS1 H hB, 14, _, shBA H hB, vi (by omega) (by omega), rBAc H hB (by omega), shB H hB (by omega), c_wea H hB hw2 R (by omega) ?_ ?_ fun U' r => ⟨shS H hB, _, rS1 H hB, 14, _, shBA H hB, vi (by omega) (by omega), rBAc H hB (by omega), shB H hB (by omega), shut U' (dWea W k) (hw2.wea (by omega)) ?_ r fun U'' r2 => ?_⟩⟩⟩
      · have e : dWA1 o W k = W := by unfold dWA1; rw [if_neg (bI_3 g)]
        rw [e] at nx
        rw [nI_add]; exact nx U' r
      · rw [x4]; exact (hok (bI_1 g)).1
      · rw [x3]; exact (hok (bI_1 g)).2
      · rw [dWea_o (by omega)]; omega
      · have e : dWA1 o W k = dWea W k := by unfold dWA1; rw [if_pos (bI_1 g)]
        rw [e] at nx
        rw [nI_add]; exact nx U'' r2
theorem dPA_op {k : Nat} (h : opn V k = true) : ∀ n j, 72 + 8 * k ≤ j → j < 72 + 8 * k + 8 → dPA V n j = V j
  | 0, _, _, _ => rfl
  | n + 1, j, h1, h2 => by
    have ih := dPA_op h n
    rw [dPA]
    by_cases hn : n = k
    · subst hn
      have h4 : V (72 + 8 * n + 4) = 0 := by
        unfold opn at h
        rw [Bool.and_eq_true] at h
        exact beq_iff'.mp h.1
      have : ¬ pntd (dPA V n) n = true := fun z => by
        have h5 := beq_iff'.mp z
        rw [ih _ (by omega) (by omega)] at h5
        omega
      rw [if_neg this]
      exact ih j h1 h2
    · split
      · rw [dPnt_o (by omega) (by omega) (by omega)]
        exact ih j h1 h2
      · exact ih j h1 h2
theorem c_weA (H : MI σ) (hB : isB B) (hw : WF m V) (R : Rel U (dPA V (V 2))) (hK : ∀ U', Rel U' (dW3 V) → KV (bS σ B U')) : cV E 31 [.ref B, .int (nI (setN (isSt V 0) (V 2)))] (bS σ B U) KV := by
  have h1 := hw.1
  unfold W1 at h1
  have hs := setN_lt' (isSt V 0) (n := V 2) (by omega)
  have e2 : dPA V (V 2) 2 = V 2 := dPA_o _ (by decide) (by decide) (by omega)
  have h := c_weL (E := E) (Q := QV KV) (o := opn V) H hB (hw.pa _ (Nat.le_refl _)) (S := setN (isSt V 0) (V 2)) (by omega) (fun k hk => ?_) (fun k hk ho => ?_) (fun U' r => ?_) (V 2) 0 U (by omega) R
  · exact sg31_0 h
  · rw [e2] at hk
    rw [bt_tb, setN_b, decide_eq_true hk, Bool.true_and]
    have s0 := st0 hw hk
    unfold isSt
    cases hq : opn V k with
    | true => exact beq_iff'.mpr (s0.mpr hq)
    | false =>
      cases hz : Nat.beq (stOf V k) 0 with
      | false => rfl
      | true => rw [s0.mp (beq_iff'.mp hz)] at hq; exact absurd hq (by decide)
  · rw [dPA_op ho _ _ (by omega) (by omega), dPA_op ho _ _ (by omega) (by omega)]
    unfold opn at ho
    rw [Bool.and_eq_true, beq_iff', Nat.blt_eq] at ho
    exact ho
  · rw [e2] at r
    exact hK U' r
end COM15
end
section
/-! the component's islands wait -/
section COM16
variable {E : AEnv} {σ τ : ASt} {B : Nat} {U U' : Nat → Nat → Int32} {V W : Nat → Nat} {m n t : Nat} {Q : Option Value → ASt → Prop} {K : Int32 → ASt → Prop} {KV : ASt → Prop}
theorem WL.w1 {k : Nat} (hw : WL m k V) : V 1 ≤ 8 ∧ V 15 ≤ 8 := by
  have h1 := hw.1
  unfold W1 at h1
  omega
theorem c_fer (H : MI σ) (hB : isB B) {i : Nat} (hw : WL m i V) (R : Rel U V) (hi : i < V 1) (hf : V 6 = 1 ∧ V (32 + 5 * i + 0) ≤ V 11) (hK : ∀ U', Rel U' (dWai V i false) → KV (bS σ B U')) : cV E 33 [.ref B, .ref (B + 7 + i)] (bS σ B U) KV := by
  have h1 := hw.1
  unfold W1 at h1
  have ri := R.2.2.2.1 i hi
  have rg := R.1
  unfold RG at rg
  refine sg33_0 ⟨shS H hB, shI H hB (by omega), shS H hB, ?_⟩
  rw [bS_get0, gIl (by omega), rg.2.2.2.1, ri.1, pk_sub hf.2]
  refine nw_e bS_put0 ⟨shS H hB, shI H hB (by omega), shS H hB, ?_⟩
  rw [bS_get0, gIl (by omega), upU_k (by decide), upU_c (by omega), rg.2.2.2.2.2.1, ri.1, nI_add]
  refine nw_e bS_put0 ⟨shI H hB (by omega), shI H hB (by omega), ?_⟩
  rw [gIl (by omega), upU_c (by omega), upU_c (by omega), ri.2.2.2.2, nI_add]
  refine nw_e (wIl (by omega)) ⟨shI H hB (by omega), nw_e (wIl (by omega)) (hK _ ?_)⟩
  have e : dWai V i false = upN (upN (upN (upN V 11 (V 11 - V (32 + 5 * i + 0))) 13 (V 13 + V (32 + 5 * i + 0))) (32 + 5 * i + 4) (V (32 + 5 * i + 4) + 1)) (32 + 5 * i + 1) 0 := by
    unfold dWai
    rw [if_neg ff, if_pos hf]
  rw [e]
  refine R.isl (i := i) ?_ (fun c k h1 h2 => ?_) (fun j _ _ _ _ _ h => ?_) ?_ (by omega) hw.w1
  · unfold RG
    simp (disch := omega) only [upN_n, upN_s]
    simp (disch := omega) only [upU_s, upU_k, upU_c]
    exact ⟨rg.1, rg.2.1, rg.2.2.1, trivial, rg.2.2.2.2.1, trivial, rg.2.2.2.2.2.2⟩
  · simp (disch := omega) only [upU_s, upU_k, upU_c]
  · simp (disch := omega) only [upN_n, upN_s]
  · unfold RI at ri ⊢
    simp (disch := omega) only [upN_n, upN_s]
    simp (disch := omega) only [upU_s, upU_k, upU_c]
    exact ⟨ri.1, trivial, ri.2.2.1, ri.2.2.2.1, trivial⟩
theorem c_wtr (H : MI σ) (hB : isB B) {i : Nat} (hw : WL m i V) (R : Rel U V) (hi : i < V 1) (hK : ∀ U', Rel U' (dWai V i true) → KV (bS σ B U')) : nw (wrI (bS σ B U) (B + 7 + i) 1 (nI 0)) KV := by
  have h1 := hw.1
  unfold W1 at h1
  have ri := R.2.2.2.1 i hi
  refine nw_e (wIl (by omega)) (hK _ ?_)
  have e : dWai V i true = upN V (32 + 5 * i + 1) 0 := by
    unfold dWai
    rw [if_pos rfl]
  rw [e]
  refine R.isl (i := i) (R.1.keep (fun k => ?_) ?_ ?_ ?_ ?_ ?_ ?_ ?_) (fun c k h1 h2 => ?_) (fun j _ _ _ _ _ h => ?_) ?_ (by omega) hw.w1
  · simp (disch := omega) only [upU_s, upU_k, upU_c]
  · simp (disch := omega) only [upN_n, upN_s]
  · simp (disch := omega) only [upN_n, upN_s]
  · simp (disch := omega) only [upN_n, upN_s]
  · simp (disch := omega) only [upN_n, upN_s]
  · simp (disch := omega) only [upN_n, upN_s]
  · simp (disch := omega) only [upN_n, upN_s]
  · simp (disch := omega) only [upN_n, upN_s]
  · simp (disch := omega) only [upU_s, upU_k, upU_c]
  · simp (disch := omega) only [upN_n, upN_s]
  · unfold RI at ri ⊢
    simp (disch := omega) only [upN_n, upN_s]
    simp (disch := omega) only [upU_s, upU_k, upU_c]
    exact ⟨ri.1, trivial, ri.2.2.1, ri.2.2.2.1, ri.2.2.2.2⟩
theorem c_waL (H : MI σ) (hB : isB B) (hw : WF m V) {S : Nat} (hS : S < 2 ^ 31) (hK : ∀ U', Rel U' (dIA V S (V 1)) → Q (some (.int (nI (cIA V S (V 1))))) (bS σ B U')) :
    ∀ (d k : Nat) (U : Nat → Nat → Int32), 1 ≤ k → k + d = V 1 → Rel U (dIA V S k) → wp E 32 11 [.ref B, .int (nI S), .int (nI (cIA V S k)), .int (nI k)] [] (bS σ B U) Q := by
  have h1 := hw.1
  unfold W1 at h1
  intro d
  induction d with
  | zero =>
    intro k U hk0 hk R
    obtain rfl : k = V 1 := by omega
    refine sg32_11 ⟨shS H hB, fun _ => hK U R, fun h => absurd ?_ h⟩
    rw [bS_get0, R.1.1, dIA_o _ (by decide) (by decide) (by omega)]
    exact nI_le (Nat.le_refl _) (by omega)
  | succ d ih =>
    intro k U hk0 hk R
    have nx := fun U' => ih (k + 1) U' (by omega) (by omega)
    rw [dIA, cIA, if_neg (by omega), if_neg (by omega)] at nx
    have hL := hw.ia S k (by omega)
    have e1 : dIA V S k 1 = V 1 := dIA_o k (by decide) (by decide) (by omega)
    generalize dIA V S k = W at R nx hL e1
    generalize cIA V S k = c at nx ⊢
    have h2 := hL.2.1
    unfold W2 at h2
    have h5 := hL.2.2.2.2
    unfold W5 at h5
    have h4 := hL.2.2.2.1 k (by omega)
    have ri := R.2.2.2.1 k (by omega)
    have e6 := nI_eq (a := W 6) (b := 1) (by omega) (by decide)
    have ep := nI_ltI (a := W 11) (b := W (32 + 5 * k + 0)) (by omega) (by omega)
    have alone : bt S k = false → ¬ (W 6 = 1 ∧ W (32 + 5 * k + 0) ≤ W 11) → (sh (bS σ B U) B 3 11 ∧ ∃ r8, rf (bS σ B U) B 2 r8 ∧ ∃ n9, sh (bS σ B U) r8 10 n9 ∧ vp_in (nI 4) n9 ∧ sh (bS σ B U) (B + 7 + k) 2 5 ∧ cI E 17 [.ref (B + 7 + k), .int (gI (bS σ B U) r8 4)] (bS σ B U) (fun x11 s10 =>
        (x11 = (nI 0) → wp E 32 11 [.ref B, .int (nI S), .int (nI c), .int (nI k + (nI 1))] [] s10 Q) ∧
        (¬ x11 = (nI 0) → wp E 32 11 [.ref B, .int (nI S), .int (nI c + (nI 1)), .int (nI k + (nI 1))] [] s10 Q))) := by
      intro hb hno
      rw [hb] at nx
      refine ⟨shS H hB, _, rS2 H hB, 8, shSe H hB, vi (by decide) (by decide), shI H hB (by omega), ?_⟩
      rw [bS_get (by decide), R.2.1 4 (by decide)]
      have hc : cWai W k false = 0 ∨ cWai W k false = 1 := by
        unfold cWai
        repeat' split
        all_goals omega
      refine c_wta H hB hL R (by omega) hno fun U' r => ⟨fun g => ?_, fun g => ?_⟩
      · have hc0 : cWai W k false = 0 := (nI_eq (by omega) (by decide)).mp g
        rw [hc0] at nx
        rw [nI_add]; exact nx U' r
      · have hc1 : cWai W k false = 1 := by
          rcases hc with hc | hc
          · exact absurd (congrArg nI hc) g
          · exact hc
        rw [hc1] at nx
        rw [nI_add, nI_add]; exact nx U' r
    refine sg32_11 ⟨shS H hB, fun h => absurd h ?_, fun _ => ⟨shS H hB, _, rS0 H hB, 8, _, shIA H hB, vi (by omega) (by omega), rIAc H hB (by omega), c_hol hS (by omega) ⟨fun g => ⟨shS H hB, _, rS2 H hB, 8, shSe H hB, vi (by decide) (by decide), ?_⟩, fun g => ⟨shI H hB (by omega), ?_⟩⟩⟩⟩
    · rw [bS_get0, R.1.1, e1]
      exact nI_ge (by omega) (by omega)
    · have hb := (bI_0 _).mp g
      rw [bS_get (by decide), R.2.1 3 (by decide)]
      refine ⟨fun g2 => alone hb fun z => g2 (e6.mpr z.1), fun g2 => ⟨shS H hB, shI H hB (by omega), ?_⟩⟩
      rw [bS_get0, gIl (by omega), R.1.2.2.2.1, ri.1]
      refine ⟨fun g3 => alone hb fun z => ?_, fun g3 => ⟨shS H hB, ?_⟩⟩
      · have := ep.mp g3
        omega
      · have hf : W 6 = 1 ∧ W (32 + 5 * k + 0) ≤ W 11 := ⟨e6.mp (Classical.not_not.mp g2), by
          have : ¬ W 11 < W (32 + 5 * k + 0) := fun z => g3 (ep.mpr z)
          omega⟩
        have hc : cWai W k false = 0 := by
          unfold cWai
          rw [if_neg ff, if_pos hf]
        rw [hb, hc] at nx
        refine c_fer H hB hL R (by omega) hf fun U' r => ?_
        rw [nI_add]; exact nx U' r
    · have hb := bI_1 g
      have hc : cWai W k true = 0 := by
        unfold cWai
        rw [if_pos rfl]
      rw [hb, hc] at nx
      refine c_wtr H hB hL R (by omega) fun U' r => ?_
      rw [nI_add]; exact nx U' r
theorem c_waA (H : MI σ) (hB : isB B) (hw : WF m V) (R : Rel U V) (hK : ∀ U', Rel U' (dIA V (reachV V 0 99) (V 1)) → K (nI (cIA V (reachV V 0 99) (V 1))) (bS σ B U')) : cI E 32 [.ref B] (bS σ B U) K := by
  have h1 := hw.1
  unfold W1 at h1
  have hr := reach_lt hw.ends (i := 0) (wo := 99) (by decide)
  exact sg32_0 ⟨shS H hB, c_rea H hB hw R (by decide) woI_m (c_waL H hB hw (by omega) hK (V 1 - 1) 1 U (by omega) (by omega) R)⟩
end COM16
end
section
/-! the component's book, the day -/
section COM17
variable {E : AEnv} {σ τ : ASt} {B : Nat} {U U' : Nat → Nat → Int32} {V W : Nat → Nat} {m n t : Nat} {Q : Option Value → ASt → Prop} {K : Int32 → ASt → Prop} {KV : ASt → Prop}
theorem Rel.bok (R : Rel U V) (hU : ∀ c k, c ≠ 4 → c ≠ 5 → c ≠ 6 → U' c k = U c k) (hW : ∀ j, j < 15 ∨ 32 ≤ j → W j = V j) (hk : RK U' W) (h8 : V 1 ≤ 8) : Rel U' W := by
  obtain ⟨r1, r2, r3, r4, r5⟩ := R
  refine ⟨r1.keep (fun k => hU 0 k (by decide) (by decide) (by decide)) (hW _ (by omega)) (hW _ (by omega)) (hW _ (by omega)) (hW _ (by omega)) (hW _ (by omega)) (hW _ (by omega)) (hW _ (by omega)), fun s hs => ?_, hk, fun i hi => ?_, fun b hb => ?_⟩
  · rw [hU _ _ (by decide) (by decide) (by decide), hW _ (by omega)]
    exact r2 s hs
  · rw [hW _ (by omega)] at hi
    have := r4 i hi
    unfold RI at this ⊢
    rw [hU _ 0 (by omega) (by omega) (by omega), hU _ 1 (by omega) (by omega) (by omega), hU _ 2 (by omega) (by omega) (by omega), hU _ 3 (by omega) (by omega) (by omega), hU _ 4 (by omega) (by omega) (by omega), hW _ (by omega), hW _ (by omega), hW _ (by omega), hW _ (by omega), hW _ (by omega)]
    exact this
  · rw [hW _ (by omega)] at hb
    have := r5 b hb
    have w : ∀ k, W (72 + 8 * b + k) = V (72 + 8 * b + k) := fun k => hW _ (by omega)
    have ee : endsM W b = endsM V b := by unfold endsM; rw [w, w]
    have es : stOf W b = stOf V b := by unfold stOf pntd; rw [w, w]
    unfold RB at this ⊢
    rw [ee, es, hU _ 0 (by omega) (by omega) (by omega), hU _ 1 (by omega) (by omega) (by omega), hU _ 2 (by omega) (by omega) (by omega), hU _ 3 (by omega) (by omega) (by omega), hU _ 4 (by omega) (by omega) (by omega), hU _ 5 (by omega) (by omega) (by omega), hU _ 6 (by omega) (by omega) (by omega), hU _ 7 (by omega) (by omega) (by omega), hU _ 8 (by omega) (by omega) (by omega), w, w, w, w, w, w, w]
    exact this
theorem dNot_16 {c : Nat} : dNot V c 16 = V 0 := by unfold dNot; simp (disch := omega) only [upN_n, upN_s]
theorem dNot_17 {c : Nat} : dNot V c 17 = c := by unfold dNot; simp (disch := omega) only [upN_n, upN_s]
theorem dNot_15 {c : Nat} : dNot V c 15 = if 8 ≤ V 15 then V 15 else V 15 + 1 := by unfold dNot; simp (disch := omega) only [upN_n, upN_s]
theorem dNot_v {c j : Nat} (h : 18 ≤ j) (h2 : j < 32) : dNot V c j = V (j - 2) := by
  unfold dNot
  simp (disch := omega) only [upN_n, upN_s]
  exact shN_v 14 (by omega) (by omega) h2
def shU (U : Nat → Nat → Int32) : Nat → (Nat → Nat → Int32)
  | 0 => U
  | n + 1 => upU (upU (shU U n) 5 n (U 5 (n + 1))) 6 n (U 6 (n + 1))
theorem shU_o {c k : Nat} (h5 : c ≠ 5) (h6 : c ≠ 6) : ∀ n, shU U n c k = U c k
  | 0 => rfl
  | n + 1 => by rw [shU, upU_c h6, upU_c h5]; exact shU_o h5 h6 n
theorem shU_5 {s : Nat} : ∀ n, shU U n 5 s = if s < n then U 5 (s + 1) else U 5 s
  | 0 => by rw [if_neg (by omega)]; rfl
  | n + 1 => by
    rw [shU, upU_c (by decide)]
    by_cases h : s = n
    · rw [h, upU_s, if_pos (by omega)]
    · rw [upU_k h, shU_5 n]
      by_cases h2 : s < n
      · rw [if_pos h2, if_pos (by omega)]
      · rw [if_neg h2, if_neg (by omega)]
theorem shU_6 {s : Nat} : ∀ n, shU U n 6 s = if s < n then U 6 (s + 1) else U 6 s
  | 0 => by rw [if_neg (by omega)]; rfl
  | n + 1 => by
    rw [shU]
    by_cases h : s = n
    · rw [h, upU_s, if_pos (by omega)]
    · rw [upU_k h, upU_c (by decide), shU_6 n]
      by_cases h2 : s < n
      · rw [if_pos h2, if_pos (by omega)]
      · rw [if_neg h2, if_neg (by omega)]
theorem c_drpL (H : MI σ) (hB : isB B) (hK : Q none (bS σ B (upU (shU U 7) 4 2 (nI 7)))) : ∀ d k : Nat, k + d = 7 → wp E 3 2 [.ref (B + 4), .int (nI (k + 1))] [] (bS σ B (shU U k)) Q := by
  intro d
  induction d with
  | zero =>
    intro k hk
    obtain rfl : k = 7 := by omega
    exact sg3_2 ⟨fun _ => ⟨shBk H hB, nw_e (bS_put (by decide)) hK⟩, fun h => absurd (nI_le (by decide) (by decide)) h⟩
  | succ d ih =>
    intro k hk
    have nx := ih (k + 1) (by omega)
    have e1 : nI (k + 1) - nI 1 = nI k := pk_sub (by omega)
    refine sg3_2 ⟨fun h => absurd h (nI_ge (by omega) (by omega)), fun _ => ⟨shBk H hB, _, rK0 H hB, shBk H hB, _, rK0 H hB, 8, shD H hB, vi (by omega) (by decide), 8, shD H hB, ?_, ?_⟩⟩
    · rw [e1]; exact vi (by omega) (by decide)
    · rw [e1, cl _ (by omega), cl _ (by omega), bS_get (by decide), shU_5, if_neg (by omega)]
      refine nw_e (bS_put (by decide)) ⟨shBk H hB, _, rK1 H hB, shBk H hB, _, rK1 H hB, 8, shC H hB, vi (by omega) (by decide), 8, shC H hB, vi (by omega) (by decide), ?_⟩
      rw [bS_get (by decide), upU_c (by decide), shU_6, if_neg (by omega)]
      refine nw_e (bS_put (by decide)) ?_
      rw [nI_add]
      exact nx
theorem c_not (H : MI σ) (hB : isB B) (h1 : V 1 ≤ 8) (h15 : V 15 ≤ 8) (R : Rel U V) {c : Nat} (hK : ∀ U', Rel U' (dNot V c) → KV (bS σ B U')) : cV E 2 [.ref (B + 4), .int (nI (V 0)), .int (nI c)] (bS σ B U) KV := by
  have rk := R.2.2.1
  have eL := nI_ltI (a := V 15) (b := 8) (by omega) (by decide)
  have rd : ∀ X, gI (bS σ B X) (B + 4) 2 = X 4 2 := fun X => bS_get (by decide)
  refine sg2_0 ⟨shBk H hB, ?_, ?_⟩
  · rw [rd, rk.1]
    intro g
    have h8 := eL.mp g
    refine ⟨shBk H hB, _, rK0 H hB, shBk H hB, 8, shD H hB, vi (by omega) (by decide), ?_⟩
    rw [cl _ (by omega)]
    refine nw_e (bS_put (by decide)) ⟨shBk H hB, _, rK1 H hB, shBk H hB, 8, shC H hB, ?_⟩
    rw [rd, upU_c (by decide), rk.1]
    refine ⟨vi (by omega) (by decide), ?_⟩
    rw [cl _ (by omega)]
    refine nw_e (bS_put (by decide)) ⟨shBk H hB, shBk H hB, ?_⟩
    rw [rd, upU_c (by decide), upU_c (by decide), rk.1, nI_add]
    refine nw_e (bS_put (by decide)) (hK _ ?_)
    refine R.bok (fun c k h4 h5 h6 => ?_) (fun j h => dNot_o h) ?_ h1
    · simp (disch := omega) only [upU_s, upU_k, upU_c]
    · unfold RK
      rw [dNot_15, if_neg (by omega)]
      refine ⟨by simp (disch := omega) only [upU_s, upU_k, upU_c], fun a ha => ?_⟩
      by_cases h0 : a = 0
      · subst h0
        rw [dNot_16, dNot_17, show V 15 + 1 - 1 - 0 = V 15 by omega]
        simp (disch := omega) only [upU_s, upU_k, upU_c]
        exact ⟨trivial, trivial⟩
      · rw [dNot_v (by omega) (by omega), dNot_v (by omega) (by omega)]
        have := rk.2 (a - 1) (by omega)
        rw [show V 15 + 1 - 1 - a = V 15 - 1 - (a - 1) by omega, show 16 + 2 * a - 2 = 16 + 2 * (a - 1) by omega, show 17 + 2 * a - 2 = 17 + 2 * (a - 1) by omega]
        simp (disch := omega) only [upU_s, upU_k, upU_c]
        exact this
  · rw [rd, rk.1]
    intro g
    have h8 : V 15 = 8 := by
      have : ¬ V 15 < 8 := fun z => g (eL.mpr z)
      omega
    refine ⟨shBk H hB, sg3_0 (c_drpL H hB ?_ 7 0 rfl)⟩
    refine ⟨shBk H hB, _, rK0 H hB, shBk H hB, 8, shD H hB, ?_⟩
    rw [rd, upU_s]
    refine ⟨vi (by decide) (by decide), ?_⟩
    rw [cl _ (by decide)]
    refine nw_e (bS_put (by decide)) ⟨shBk H hB, _, rK1 H hB, shBk H hB, 8, shC H hB, ?_⟩
    rw [rd, upU_c (by decide), upU_s]
    refine ⟨vi (by decide) (by decide), ?_⟩
    rw [cl _ (by decide)]
    refine nw_e (bS_put (by decide)) ⟨shBk H hB, shBk H hB, ?_⟩
    rw [rd, upU_c (by decide), upU_c (by decide), upU_s, nI_add]
    refine nw_e (bS_put (by decide)) (hK _ ?_)
    refine R.bok (fun c k h4 h5 h6 => ?_) (fun j h => dNot_o h) ?_ h1
    · simp (disch := omega) only [upU_s, upU_k, upU_c]
      exact shU_o h5 h6 7
    · unfold RK
      rw [dNot_15, if_pos (by omega), h8]
      refine ⟨by simp (disch := omega) only [upU_s, upU_k, upU_c], fun a ha => ?_⟩
      by_cases h0 : a = 0
      · subst h0
        rw [dNot_16, dNot_17, show 8 - 1 - 0 = 7 from rfl]
        simp (disch := omega) only [upU_s, upU_k, upU_c]
        exact ⟨trivial, trivial⟩
      · rw [dNot_v (by omega) (by omega), dNot_v (by omega) (by omega)]
        have := rk.2 (a - 1) (by omega)
        rw [h8, show 8 - 1 - (a - 1) = 8 - 1 - a + 1 by omega] at this
        rw [show 16 + 2 * a - 2 = 16 + 2 * (a - 1) by omega, show 17 + 2 * a - 2 = 17 + 2 * (a - 1) by omega]
        simp (disch := omega) only [upU_s, upU_k, upU_c]
        rw [shU_5, shU_6, if_pos (by omega), if_pos (by omega)]
        exact this
theorem c_dag (H : MI σ) (hB : isB B) (hw : WF m V) (R : Rel U V) {a : Nat} (ha : a < 2 ^ 31) (h1 : V 15 ≤ a → K (-1000004 : Int32) (bS σ B U)) (h2 : a < V 15 → K (nI (V (16 + 2 * a))) (bS σ B U)) : cI E 4 [.ref (B + 4), .int (nI a)] (bS σ B U) K := by
  have w1 := hw.1
  unfold W1 at w1
  have rk := R.2.2.1
  have e := nI_leI (a := V 15) (b := a) (by omega) ha
  have rd : gI (bS σ B U) (B + 4) 2 = U 4 2 := bS_get (by decide)
  refine sg4_0 ⟨shBk H hB, ?_, ?_⟩
  · rw [rd, rk.1]
    exact fun g => h1 (e.mp g)
  · rw [rd, rk.1]
    intro g
    have hl : a < V 15 := by
      have : ¬ V 15 ≤ a := fun z => g (e.mpr z)
      omega
    rw [show nI (V 15) - nI 1 = nI (V 15 - 1) from pk_sub (by omega), show nI (V 15 - 1) - nI a = nI (V 15 - 1 - a) from pk_sub (by omega)]
    refine ⟨shBk H hB, _, rK0 H hB, shBk H hB, 8, shD H hB, vi (by omega) (by decide), ?_⟩
    rw [cl _ (by omega), bS_get (by decide), (rk.2 a hl).1]
    exact h2 hl
theorem c_cag (H : MI σ) (hB : isB B) (hw : WF m V) (R : Rel U V) {a : Nat} (ha : a < 2 ^ 31) (h1 : V 15 ≤ a → K (-1000004 : Int32) (bS σ B U)) (h2 : a < V 15 → K (nI (V (17 + 2 * a))) (bS σ B U)) : cI E 5 [.ref (B + 4), .int (nI a)] (bS σ B U) K := by
  have w1 := hw.1
  unfold W1 at w1
  have rk := R.2.2.1
  have e := nI_leI (a := V 15) (b := a) (by omega) ha
  have rd : gI (bS σ B U) (B + 4) 2 = U 4 2 := bS_get (by decide)
  refine sg5_0 ⟨shBk H hB, ?_, ?_⟩
  · rw [rd, rk.1]
    exact fun g => h1 (e.mp g)
  · rw [rd, rk.1]
    intro g
    have hl : a < V 15 := by
      have : ¬ V 15 ≤ a := fun z => g (e.mpr z)
      omega
    rw [show nI (V 15) - nI 1 = nI (V 15 - 1) from pk_sub (by omega), show nI (V 15 - 1) - nI a = nI (V 15 - 1 - a) from pk_sub (by omega)]
    refine ⟨shBk H hB, _, rK1 H hB, shBk H hB, 8, shC H hB, vi (by omega) (by decide), ?_⟩
    rw [cl _ (by omega), bS_get (by decide), (rk.2 a hl).2]
    exact h2 hl
theorem c_rcv (H : MI σ) (hB : isB B) (R : Rel U V) (h8 : V 1 ≤ 8) {a : Nat} (hK : ∀ U', Rel U' (dPay V a) → KV (bS σ B U')) : cV E 34 [.ref B, .int (nI a)] (bS σ B U) KV := by
  have rg := R.1
  unfold RG at rg
  refine sg34_0 ⟨shS H hB, shS H hB, ?_⟩
  rw [bS_get0, rg.2.2.2.1, nI_add]
  refine nw_e bS_put0 ⟨shS H hB, shS H hB, ?_⟩
  rw [bS_get0, upU_k (by decide), rg.2.2.2.2.2.2, nI_add]
  refine nw_e bS_put0 (hK _ ?_)
  refine R.coi ?_ (fun c k h => ?_) (fun j _ h1 _ _ h2 => ?_)
  · unfold RG dPay
    simp (disch := omega) only [upN_n, upN_s]
    simp (disch := omega) only [upU_s, upU_k, upU_c]
    exact ⟨rg.1, rg.2.1, rg.2.2.1, trivial, rg.2.2.2.2.1, rg.2.2.2.2.2.1, trivial⟩
  · simp (disch := omega) only [upU_s, upU_k, upU_c]
  · unfold dPay
    simp (disch := omega) only [upN_n, upN_s]
theorem c_autL (H : MI σ) (hB : isB B) {x y : Int32} : ∀ (d k m : Nat) (V : Nat → Nat) (U : Nat → Nat → Int32), k + d = 4 → WF m V → V 9 = 1 → Rel U V → (∀ U', Rel U' (aut d V) → Q (some (.int y)) (bS σ B U')) → wp E 29 58 [.ref B, .int x, .int y, .int (nI k)] [] (bS σ B U) Q := by
  intro d
  induction d with
  | zero =>
    intro k m V U hk hw h9 R hK
    exact sg29_58 ⟨fun _ => hK U R, fun h => absurd (nI_le (by omega) (by omega)) h⟩
  | succ d ih =>
    intro k m V U hk hw h9 R hK
    have h1 := hw.1
    unfold W1 at h1
    have h14 : V 2 ≤ 14 := by omega
    have hl : bsV V = 99 ∨ bsV V < V 2 := bsN_lt V (V 2)
    have ii := inBr_i (x := bsI (bsV V)) hw
    rw [aut] at hK
    refine sg29_58 ⟨fun h => absurd h (nI_ge (by omega) (by omega)), fun _ => ⟨shS H hB, _, rS2 H hB, 8, shSe H hB, vi (by decide) (by decide), ?_⟩⟩
    rw [bS_get (by decide), R.2.1 6 (by decide)]
    refine ⟨fun g => absurd (congrArg nI h9) g, fun _ => ⟨shS H hB, c_bs H hB hw R ⟨shS H hB, c_isB H hB hw R ⟨fun g => ?_, fun g => ?_⟩⟩⟩⟩
    · obtain ⟨j, hj, e⟩ := ii.mp (bI_1 g)
      by_cases h99 : bsV V = 99
      · rw [h99] at e
        unfold bsI at e
        rw [if_pos rfl] at e
        have h0 := nI_pos (n := j) (by omega)
        rw [← e] at h0
        exact absurd (by decide) h0
      · rw [if_neg h99] at hK
        have eb : bsI (bsV V) = nI (bsV V) := by unfold bsI; rw [if_neg h99]
        rw [eb]
        have hb2 := hl.resolve_left h99
        have hb3 := Nat.lt_of_lt_of_le hb2 h14
        have hw2 := hw.snd hb2
        have hn9 : dSnd V (bsV V) 9 = 1 := (dSnd_o (Or.inl (Nat.lt_of_lt_of_le (by decide : 9 < 72) (Nat.le_trans (Nat.le_add_right 72 _) (Nat.le_add_right _ 4))))).trans h9
        clear hl e
        generalize bsV V = b at *
        refine ⟨shS H hB, _, rS1 H hB, 14, _, shBA H hB, vi hb3 (by decide), rBAc H hB hb3, shB H hB hb3, c_tak H hB hw R hb2 fun U' r => ?_⟩
        rw [nI_add]
        exact ih (k + 1) m _ U' (by omega) hw2 hn9 r hK
    · have hf := bI_2 g
      by_cases h99 : bsV V = 99
      · rw [if_pos h99] at hK
        exact hK U R
      · have eb : bsI (bsV V) = nI (bsV V) := by unfold bsI; rw [if_neg h99]
        have := ii.mpr ⟨bsV V, hl.resolve_left h99, eb⟩
        rw [hf] at this
        exact absurd this (by decide)
theorem c_end (H : MI σ) (hB : isB B) {N : Nat → Nat} (hw : WF n (dEnd N)) (h1 : N 1 ≤ 8) (h9 : N 9 ≤ 1) (R : Rel U N) {x y : Int32} (hK : ∀ U', Rel U' (dFin N) → Q (some (.int y)) (bS σ B U')) : sh (bS σ B U) B 3 11 ∧ sh (bS σ B U) B 3 11 ∧ nw (wrI (bS σ B U) B 6 ((gI (bS σ B U) B 6) + (nI 1))) (fun s7 =>
    sh s7 B 3 11 ∧ ∃ r8, rf s7 B 2 r8 ∧ ∃ n9, sh s7 r8 10 n9 ∧ vp_in (nI 5) n9 ∧ sh s7 B 3 11 ∧ cV E 34 [.ref B, .int (gI s7 r8 5)] s7 (fun s10 =>
    wp E 29 58 [.ref B, .int x, .int y, .int (nI 0)] [] s10 Q)) := by
  have rg := R.1
  unfold RG at rg
  refine ⟨shS H hB, shS H hB, ?_⟩
  rw [bS_get0, rg.2.2.1, nI_add]
  have R1 : Rel (upU U 0 6 (nI (N 0 + 1))) (upN N 0 (N 0 + 1)) := by
    refine R.coi ?_ (fun c k h => ?_) (fun j h1 _ _ _ h2 => ?_)
    · unfold RG
      simp (disch := omega) only [upN_n, upN_s]
      simp (disch := omega) only [upU_s, upU_k, upU_c]
      exact ⟨rg.1, rg.2.1, trivial, rg.2.2.2.1, rg.2.2.2.2.1, rg.2.2.2.2.2.1, rg.2.2.2.2.2.2⟩
    · simp (disch := omega) only [upU_s, upU_k, upU_c]
    · simp (disch := omega) only [upN_n, upN_s]
  refine nw_e bS_put0 ⟨shS H hB, _, rS2 H hB, 8, shSe H hB, vi (by decide) (by decide), shS H hB, ?_⟩
  rw [bS_get (by decide), R1.2.1 5 (by decide)]
  refine c_rcv H hB R1 (by simp (disch := omega) only [upN_n, upN_s]; exact h1) fun U' r => ?_
  have e : dPay (upN N 0 (N 0 + 1)) (upN N 0 (N 0 + 1) (3 + 5)) = dEnd N := by
    unfold dEnd dPay
    simp (disch := omega) only [upN_n, upN_s]
  rw [e] at r
  have e9 : dEnd N 9 = N 9 := by unfold dEnd; simp (disch := omega) only [upN_n, upN_s]
  unfold dFin at hK
  by_cases h : N 9 = 1
  · rw [if_pos h] at hK
    exact c_autL H hB 4 0 n _ U' rfl hw (e9.trans h) r hK
  · rw [if_neg h] at hK
    refine sg29_58 ⟨fun g => absurd g (nI_ge (by omega) (by omega)), fun _ => ⟨shS H hB, _, rS2 H hB, 8, shSe H hB, vi (by decide) (by decide), ?_⟩⟩
    rw [bS_get (by decide), r.2.1 6 (by decide), e9]
    exact ⟨fun _ => hK U' r, fun g => absurd ((nI_eq (by omega) (by decide)).mp (Classical.not_not.mp g)) h⟩
theorem c_day (H : MI σ) (hB : isB B) (hw : WF m V) (hm : m < 100000) (R : Rel U V) (hK : ∀ U', Rel U' (dDay V) → K (nI (cDay V)) (bS σ B U')) : cI E 29 [.ref B] (bS σ B U) K := by
  have h1 := hw.1
  unfold W1 at h1
  have hW := hw.w3
  have e1 : dW3 V 1 = V 1 := dW3_o (by omega) (by omega) (by omega)
  have hc : cDay V ≤ V 1 := cIA_le _
  have hbk := hw.bk.fin hm
  refine sg29_0 ⟨shS H hB, c_st H hB hw R (c := 0) (by decide) ⟨shS H hB, c_paA H hB hw R fun U1 r1 => ⟨shS H hB, c_weA H hB hw r1 fun U2 r2 => ⟨shS H hB, c_waA H hB hW r2 fun U3 r3 => ?_⟩⟩⟩⟩
  rw [e1] at r3 ⊢
  have e0 := nI_leI (a := cDay V) (b := 0) (by omega) (by decide)
  have o : ∀ j, j ≠ 11 → j ≠ 13 → j < 32 → dIA (dW3 V) (reachV (dW3 V) 0 99) (V 1) j = dW3 V j := fun j h1 h2 h3 => dIA_o _ h1 h2 (by omega)
  unfold dDay at hK
  unfold cDay at hK hbk hc e0
  generalize hN : dIA (dW3 V) (reachV (dW3 V) 0 99) (V 1) = N at hK hbk r3 o ⊢
  generalize hcc : cIA (dW3 V) (reachV (dW3 V) 0 99) (V 1) = cc at hK hbk hc e0 ⊢
  have n1 : N 1 ≤ 8 := by rw [o 1 (by omega) (by omega) (by omega), e1]; omega
  have n9 : N 9 ≤ 1 := by rw [o 9 (by omega) (by omega) (by omega)]; have := hW.2.1; unfold W2 at this; omega
  have n15 : N 15 ≤ 8 := by rw [o 15 (by omega) (by omega) (by omega)]; have := hW.1; unfold W1 at this; omega
  refine ⟨fun g => ?_, fun g => ?_⟩
  · have hc0 := Nat.le_zero.mp (e0.mp g)
    have eb : dBok N cc = N := by unfold dBok; rw [if_pos hc0]
    rw [eb] at hK hbk
    exact c_end H hB hbk n1 n9 r3 hK
  · have eb : dBok N cc = dNot N cc := by unfold dBok; rw [if_neg (fun z => g (e0.mpr (Nat.le_of_eq z)))]
    rw [eb] at hK hbk
    have rg := r3.1
    unfold RG at rg
    refine ⟨shS H hB, _, rS3 H hB, shS H hB, shBk H hB, ?_⟩
    rw [bS_get0, rg.2.2.1]
    refine c_not H hB n1 n15 r3 fun U4 r4 => ?_
    refine c_end H hB hbk ?_ ?_ r4 hK
    · rw [dNot_o (by omega)]; exact n1
    · rw [dNot_o (by omega)]; exact n9
theorem c_dysL (H : MI σ) (hB : isB B) {n : Nat} (hn : n < 2 ^ 31) : ∀ (d k c m : Nat) (V : Nat → Nat) (U : Nat → Nat → Int32), k + d = n → WF m V → m + d ≤ 100000 → Rel U V → (∀ U', Rel U' (dDays d V) → Q (some (.int (nI (c + cDays d V)))) (bS σ B U')) →
    wp E 28 33 [.ref B, .int (nI n), .int (nI c), .int (nI k)] [] (bS σ B U) Q := by
  intro d
  induction d with
  | zero =>
    intro k c m V U hk hw hm R hK
    exact sg28_33 ⟨fun _ => hK U R, fun h => absurd (nI_le (by omega) (by omega)) h⟩
  | succ d ih =>
    intro k c m V U hk hw hm R hK
    refine sg28_33 ⟨fun h => absurd h (nI_ge (by omega) (by omega)), fun _ => ⟨shS H hB, c_day H hB hw (by omega) R fun U1 r1 => ?_⟩⟩
    rw [nI_add, nI_add]
    refine ih (k + 1) (c + cDay V) (m + 1) (dDay V) U1 (by omega) (hw.day (by omega)) (by omega) r1 fun U' r' => ?_
    have := hK U' r'
    rw [cDays, ← Nat.add_assoc] at this
    exact this
end COM17
end
section
/-! the component's changes -/
section COM18
variable {E : AEnv} {σ τ : ASt} {B : Nat} {U U' : Nat → Nat → Int32} {V W : Nat → Nat} {m n t : Nat} {Q : Option Value → ASt → Prop} {K : Int32 → ASt → Prop} {KV : ASt → Prop}
theorem cop_y {e : Int32} (h : nI 0 ≤ e) {a : Nat} (hK : ∀ U', Rel U' (opV e V W) → K (opA e a) (bS σ B U')) : ∀ U', Rel U' W → K (nI a) (bS σ B U') := by
  unfold opV opA at hK
  rw [if_pos h, if_pos h] at hK
  exact hK
theorem cop_n {e : Int32} (h : ¬ nI 0 ≤ e) (R : Rel U V) {a : Nat} (hK : ∀ U', Rel U' (opV e V W) → K (opA e a) (bS σ B U')) : K e (bS σ B U) := by
  unfold opV opA at hK
  rw [if_neg h, if_neg h] at hK
  exact hK U R
theorem le00 : nI 0 ≤ nI 0 := by decide
theorem inRg_lt {x : Int32} {a b : Nat} (ha : a < 2 ^ 31) (hb : b < 2 ^ 31) (h : x < nI a) : ¬ inRg x (nI a) (nI b) = true := fun z => by
  obtain ⟨j, h1, h2, rfl⟩ := (inRg_nn ha hb).mp z
  rw [nI_ltI (by omega) ha] at h
  omega
theorem inRg_gt {x : Int32} {a b : Nat} (ha : a < 2 ^ 31) (hb : b < 2 ^ 31) (h : ¬ x ≤ nI b) : ¬ inRg x (nI a) (nI b) = true := fun z => by
  obtain ⟨j, h1, h2, rfl⟩ := (inRg_nn ha hb).mp z
  exact h (nI_le h2 hb)
theorem inRg_mk {x : Int32} {a b : Nat} (ha : a < 2 ^ 31) (hb : b < 2 ^ 31) (h : ¬ x < nI a) (h2 : x ≤ nI b) : inRg x (nI a) (nI b) = true := by
  refine (inRg_nn ha hb).mpr ?_
  have h3 : ¬ x < nI 0 := fun z => h (by
    rw [Int32.lt_iff_toInt_lt] at z ⊢
    rw [nI_toInt ha]
    rw [nI_toInt (by decide)] at z
    omega)
  obtain ⟨j, hj, rfl⟩ := nI_of h3
  rw [nI_ltI hj ha] at h
  rw [nI_leI hj hb] at h2
  exact ⟨j, by omega, h2, rfl⟩
theorem c_isl (H : MI σ) (hB : isB B) (hw : WF m V) (R : Rel U V) {x : Int32} (hK : ∀ U', Rel U' (opV (eIsl V x) V (dIsl V (toN x))) → K (opA (eIsl V x) (V 1)) (bS σ B U')) : cI E 22 [.ref B, .int x] (bS σ B U) K := by
  have h1 := hw.1
  unfold W1 at h1
  have rg := R.1
  unfold RG at rg
  have e8 := nI_ltI (a := V 1) (b := 8) (by omega) (by decide)
  have no : ¬ inRg x (nI 0) (nI 99) = true → K (-1000001 : Int32) (bS σ B U) := fun h => by
    have e : eIsl V x = (-1000001 : Int32) := by unfold eIsl; rw [if_neg h]
    have := cop_n (by rw [e]; exact lt01) R hK
    rw [e] at this
    exact this
  refine sg22_0 ⟨fun g => no (inRg_lt (by decide) (by decide) g), fun g => ⟨fun g2 => ⟨shS H hB, ?_⟩, fun g2 => no (inRg_gt (by decide) (by decide) g2)⟩⟩
  have hr := inRg_mk (by decide) (by decide) g g2
  rw [bS_get0, rg.1]
  refine ⟨fun g3 => ?_, fun g3 => ?_⟩
  · have h8 := e8.mp g3
    have e : eIsl V x = nI 0 := by unfold eIsl; rw [if_pos hr, if_neg (by omega)]
    have hK' := cop_y (by rw [e]; exact le00) hK
    obtain ⟨j, _, hj, rfl⟩ := (inRg_nn (by decide) (by decide)).mp hr
    rw [toN_nI (by omega)] at hK'
    refine ⟨shS H hB, _, rS0 H hB, shS H hB, 8, _, shIA H hB, ?_, ?_, shI H hB (i := V 1) (by omega), ?_⟩
    · exact vi (by omega) (by decide)
    · exact rIAc H hB (by omega)
    · refine sg15_0 ⟨shI H hB (by omega), nw_e (wIl (by omega)) ⟨shI H hB (by omega), nw_e (wIl (by omega)) ⟨shI H hB (by omega), nw_e (wIl (by omega)) ⟨shI H hB (by omega), nw_e (wIl (by omega)) ⟨shI H hB (by omega), nw_e (wIl (by omega)) ⟨shS H hB, shS H hB, ?_⟩⟩⟩⟩⟩⟩
      rw [bS_get0]
      have c0 : (0 : Nat) ≠ 7 + V 1 := by omega
      rw [upU_c c0, upU_c c0, upU_c c0, upU_c c0, upU_c c0, rg.1, nI_add]
      refine nw_e bS_put0 ⟨shS H hB, ?_⟩
      rw [bS_get0, upU_s, show nI (V 1 + 1) - nI 1 = nI (V 1) from pk_sub (by omega)]
      refine hK' _ ?_
      have w1 : dIsl V j 1 = V 1 + 1 := by unfold dIsl; simp (disch := omega) only [upN_n, upN_s]
      have o : ∀ k, k ≠ 1 → (k < 32 + 5 * V 1 ∨ 37 + 5 * V 1 ≤ k) → dIsl V j k = V k := fun k h1 h2 => dIsl_o h1 h2
      obtain ⟨_, r2, r3, r4, r5⟩ := R
      refine ⟨?_, fun s hs => ?_, ⟨?_, fun a ha => ?_⟩, fun i hi => ?_, fun b hb => ?_⟩
      · unfold RG
        rw [w1, o 2 (by omega) (by omega), o 0 (by omega) (by omega), o 11 (by omega) (by omega), o 12 (by omega) (by omega), o 13 (by omega) (by omega), o 14 (by omega) (by omega)]
        simp (disch := omega) only [upU_s, upU_k, upU_c]
        exact ⟨trivial, rg.2⟩
      · rw [o _ (by omega) (by omega)]
        simp (disch := omega) only [upU_s, upU_k, upU_c]
        exact r2 s hs
      · rw [o _ (by omega) (by omega)]
        simp (disch := omega) only [upU_s, upU_k, upU_c]
        exact r3.1
      · rw [o 15 (by omega) (by omega)] at ha ⊢
        rw [o _ (by omega) (by omega), o _ (by omega) (by omega)]
        simp (disch := omega) only [upU_s, upU_k, upU_c]
        exact r3.2 a ha
      · rw [w1] at hi
        by_cases hiv : i = V 1
        · subst hiv
          have z : ∀ k, 32 + 5 * V 1 < k → k < 37 + 5 * V 1 → dIsl V j k = 0 := fun k h1 h2 => by
            unfold dIsl
            simp (disch := omega) only [upN_n, upN_s]
            exact zI_z 5 (by omega) (by omega)
          have e0 : dIsl V j (32 + 5 * V 1 + 0) = j := by unfold dIsl; simp (disch := omega) only [upN_n, upN_s]
          unfold RI
          rw [e0, z _ (by omega) (by omega), z _ (by omega) (by omega), z _ (by omega) (by omega), z _ (by omega) (by omega)]
          simp (disch := omega) only [upU_s, upU_k, upU_c]
          exact ⟨trivial, trivial, trivial, trivial, trivial⟩
        · have := r4 i (by omega)
          unfold RI at this ⊢
          rw [o _ (by omega) (by omega), o _ (by omega) (by omega), o _ (by omega) (by omega), o _ (by omega) (by omega), o _ (by omega) (by omega)]
          simp (disch := omega) only [upU_s, upU_k, upU_c]
          exact this
      · rw [o _ (by omega) (by omega)] at hb
        have := r5 b hb
        have w : ∀ k, dIsl V j (72 + 8 * b + k) = V (72 + 8 * b + k) := fun k => o _ (by omega) (by omega)
        have ee : endsM (dIsl V j) b = endsM V b := by unfold endsM; rw [w, w]
        have es : stOf (dIsl V j) b = stOf V b := by unfold stOf pntd; rw [w, w]
        unfold RB at this ⊢
        rw [ee, es, w, w, w, w, w, w, w]
        simp (disch := omega) only [upU_s, upU_k, upU_c]
        exact this
  · have e : eIsl V x = (-1000003 : Int32) := by
      unfold eIsl
      rw [if_pos hr, if_pos (by have : ¬ V 1 < 8 := fun z => g3 (e8.mpr z); omega)]
    have := cop_n (by rw [e]; exact lt03) R hK
    rw [e] at this
    exact this
theorem c_nbr (H : MI σ) (hB : isB B) (hw : WF m V) (R : Rel U V) {x y w : Int32} (hK : ∀ U', Rel U' (opV (eBrg V x y w) V (dBrg V (toN x) (toN y) (toN w))) → K (opA (eBrg V x y w) (V 2)) (bS σ B U')) : cI E 23 [.ref B, .int x, .int y, .int w] (bS σ B U) K := by
  have h1 := hw.1
  unfold W1 at h1
  have rg := R.1
  unfold RG at rg
  have e8 := nI_ltI (a := V 2) (b := 14) (by omega) (by decide)
  have no : ¬ (inIs V x = true ∧ inIs V y = true ∧ x ≠ y ∧ inRg w (nI 1) (nI 9) = true) → K (-1000001 : Int32) (bS σ B U) := fun h => by
    have e : eBrg V x y w = (-1000001 : Int32) := by unfold eBrg; rw [if_neg h]
    have := cop_n (by rw [e]; exact lt01) R hK
    rw [e] at this
    exact this
  refine sg23_0 ⟨shS H hB, c_isI H hB hw R ⟨fun g => no fun z => bI_3 g z.1, fun g => ⟨shS H hB, c_isI H hB hw R ⟨fun g2 => no fun z => bI_3 g2 z.2.1, fun g2 => ⟨fun g3 => no fun z => z.2.2.1 g3, fun g3 => ⟨fun g4 => no fun z => inRg_lt (by decide) (by decide) g4 z.2.2.2, fun g4 => ⟨fun g5 => ⟨shS H hB, ?_⟩, fun g5 => no fun z => inRg_gt (by decide) (by decide) g5 z.2.2.2⟩⟩⟩⟩⟩⟩⟩
  have hr := inRg_mk (by decide) (by decide) g4 g5
  have hall : inIs V x = true ∧ inIs V y = true ∧ x ≠ y ∧ inRg w (nI 1) (nI 9) = true := ⟨bI_1 g, bI_1 g2, g3, hr⟩
  rw [bS_get0, rg.2.1]
  refine ⟨fun g6 => ?_, fun g6 => ?_⟩
  · have h8 := e8.mp g6
    have e : eBrg V x y w = nI 0 := by unfold eBrg; rw [if_pos hall, if_neg (by omega)]
    have hK' := cop_y (by rw [e]; exact le00) hK
    obtain ⟨a1, a2⟩ := inIs_n hw (bI_1 g)
    obtain ⟨b1, b2⟩ := inIs_n hw (bI_1 g2)
    obtain ⟨c1, c2, c3⟩ := inRg_n (by decide) (by decide) hr
    generalize toN x = p at hK' a1 a2
    generalize toN y = q at hK' b1 b2
    generalize toN w = r at hK' c1 c2 c3
    subst a2 b2 c3
    refine ⟨shS H hB, _, rS1 H hB, shS H hB, 14, _, shBA H hB, ?_, ?_, shB H hB (i := V 2) (by omega), ?_⟩
    · exact vi (by omega) (by decide)
    · exact rBAc H hB (by omega)
    · have hp : 2 ^ p < 2 ^ 8 := Nat.pow_lt_pow_right (by decide) (by omega)
      have hq : 2 ^ q < 2 ^ 8 := Nat.pow_lt_pow_right (by decide) (by omega)
      refine sg7_0 ⟨shB H hB (by omega), nw_e (wB (by omega)) ⟨shB H hB (by omega), nw_e (wB (by omega)) ⟨shB H hB (by omega), ?_⟩⟩⟩
      rw [nI_shl (by omega), nI_shl (by omega), nI_or (by omega) (by omega)]
      refine nw_e (wB (by omega)) ⟨shB H hB (by omega), nw_e (wB (by omega)) ⟨shB H hB (by omega), nw_e (wB (by omega)) ⟨shB H hB (by omega), nw_e (wB (by omega)) ⟨shB H hB (by omega), nw_e (wB (by omega)) ⟨shB H hB (by omega), nw_e (wB (by omega)) ⟨shB H hB (by omega), nw_e (wB (by omega)) ⟨shS H hB, shS H hB, ?_⟩⟩⟩⟩⟩⟩⟩
      rw [bS_get0]
      have c0 : (0 : Nat) ≠ 15 + V 2 := by omega
      rw [upU_c c0, upU_c c0, upU_c c0, upU_c c0, upU_c c0, upU_c c0, upU_c c0, upU_c c0, upU_c c0, rg.2.1, nI_add]
      refine nw_e bS_put0 ⟨shS H hB, ?_⟩
      rw [bS_get0, upU_s, show nI (V 2 + 1) - nI 1 = nI (V 2) from pk_sub (by omega)]
      refine hK' _ ?_
      have w2 : dBrg V p q r 2 = V 2 + 1 := by unfold dBrg; simp (disch := omega) only [upN_n, upN_s]
      have o : ∀ k, k ≠ 2 → (k < 72 + 8 * V 2 ∨ 80 + 8 * V 2 ≤ k) → dBrg V p q r k = V k := fun k h1 h2 => dBrg_o h1 h2
      obtain ⟨_, r2, r3, r4, r5⟩ := R
      refine ⟨?_, fun s hs => ?_, ⟨?_, fun a ha => ?_⟩, fun i hi => ?_, fun b hb => ?_⟩
      · unfold RG
        rw [w2, o 1 (by omega) (by omega), o 0 (by omega) (by omega), o 11 (by omega) (by omega), o 12 (by omega) (by omega), o 13 (by omega) (by omega), o 14 (by omega) (by omega)]
        simp (disch := omega) only [upU_s, upU_k, upU_c]
        exact ⟨rg.1, trivial, rg.2.2⟩
      · rw [o _ (by omega) (by omega)]
        simp (disch := omega) only [upU_s, upU_k, upU_c]
        exact r2 s hs
      · rw [o _ (by omega) (by omega)]
        simp (disch := omega) only [upU_s, upU_k, upU_c]
        exact r3.1
      · rw [o 15 (by omega) (by omega)] at ha ⊢
        rw [o _ (by omega) (by omega), o _ (by omega) (by omega)]
        simp (disch := omega) only [upU_s, upU_k, upU_c]
        exact r3.2 a ha
      · rw [o _ (by omega) (by omega)] at hi
        have := r4 i hi
        unfold RI at this ⊢
        rw [o _ (by omega) (by omega), o _ (by omega) (by omega), o _ (by omega) (by omega), o _ (by omega) (by omega), o _ (by omega) (by omega)]
        simp (disch := omega) only [upU_s, upU_k, upU_c]
        exact this
      · rw [w2] at hb
        by_cases hbv : b = V 2
        · subst hbv
          have z : ∀ k, 72 + 8 * V 2 + 4 ≤ k → k < 80 + 8 * V 2 → dBrg V p q r k = 0 := fun k h1 h2 => by
            unfold dBrg
            simp (disch := omega) only [upN_n, upN_s]
            exact zB_z 8 (by omega) (by omega)
          have e0 : dBrg V p q r (72 + 8 * V 2 + 0) = p := by unfold dBrg; simp (disch := omega) only [upN_n, upN_s]
          have e1 : dBrg V p q r (72 + 8 * V 2 + 1) = q := by unfold dBrg; simp (disch := omega) only [upN_n, upN_s]
          have e2 : dBrg V p q r (72 + 8 * V 2 + 2) = r := by unfold dBrg; simp (disch := omega) only [upN_n, upN_s]
          have e3 : dBrg V p q r (72 + 8 * V 2 + 3) = 100 := by unfold dBrg; simp (disch := omega) only [upN_n, upN_s]
          have ee : endsM (dBrg V p q r) (V 2) = 2 ^ p ||| 2 ^ q := by unfold endsM; rw [e0, e1]
          have es : stOf (dBrg V p q r) (V 2) = 0 := by rw [stOf_no (z _ (by omega) (by omega)), e3]; rfl
          unfold RB
          rw [ee, es, e0, e1, e2, e3, z _ (by omega) (by omega), z _ (by omega) (by omega), z _ (by omega) (by omega)]
          simp (disch := omega) only [upU_s, upU_k, upU_c]
          exact ⟨trivial, trivial, trivial, trivial, trivial, trivial, trivial, trivial, trivial⟩
        · have := r5 b (by omega)
          have w : ∀ k, k < 8 → dBrg V p q r (72 + 8 * b + k) = V (72 + 8 * b + k) := fun k hk => o _ (by omega) (by omega)
          have ee : endsM (dBrg V p q r) b = endsM V b := by unfold endsM; rw [w _ (by omega), w _ (by omega)]
          have es : stOf (dBrg V p q r) b = stOf V b := by unfold stOf pntd; rw [w _ (by omega), w _ (by omega)]
          unfold RB at this ⊢
          rw [ee, es, w _ (by omega), w _ (by omega), w _ (by omega), w _ (by omega), w _ (by omega), w _ (by omega), w _ (by omega)]
          simp (disch := omega) only [upU_s, upU_k, upU_c]
          exact this
  · have e : eBrg V x y w = (-1000003 : Int32) := by
      unfold eBrg
      rw [if_pos hall, if_pos (by have : ¬ V 2 < 14 := fun z => g6 (e8.mpr z); omega)]
    have := cop_n (by rw [e]; exact lt03) R hK
    rw [e] at this
    exact this
theorem c_snd (H : MI σ) (hB : isB B) (hw : WF m V) (R : Rel U V) {x f : Int32} (hK : ∀ U', Rel U' (opV (eSnd V x f) V (dSnd V (toN x))) → K (opA (eSnd V x f) (cutV V (toN x))) (bS σ B U')) : cI E 24 [.ref B, .int x, .int f] (bS σ B U) K := by
  have h1 := hw.1
  unfold W1 at h1
  have no : ¬ (inBr V x = true ∧ inRg f (nI 0) (nI 1) = true) → K (-1000001 : Int32) (bS σ B U) := fun h => by
    have e : eSnd V x f = (-1000001 : Int32) := by unfold eSnd; rw [if_neg h]
    have := cop_n (by rw [e]; exact lt01) R hK
    rw [e] at this
    exact this
  refine sg24_0 ⟨shS H hB, c_isB H hB hw R ⟨fun g => no fun z => bI_3 g z.1, fun g => ⟨fun g2 => no fun z => inRg_lt (by decide) (by decide) g2 z.2, fun g2 => ⟨fun g3 => ⟨shS H hB, ?_⟩, fun g3 => no fun z => inRg_gt (by decide) (by decide) g3 z.2⟩⟩⟩⟩
  have hall : inBr V x = true ∧ inRg f (nI 0) (nI 1) = true := ⟨bI_1 g, inRg_mk (by decide) (by decide) g2 g3⟩
  obtain ⟨hx, ex⟩ := inBr_n hw (bI_1 g)
  have h5 := rsn_lt V (toN x)
  have r0 := nI_eq (a := rsn V (toN x)) (b := 0) (by omega) (by decide)
  have r4 := nI_eq (a := rsn V (toN x)) (b := 4) (by omega) (by decide)
  have no2 : ¬ (rsn V (toN x) = 0 ∨ (rsn V (toN x) = 4 ∧ f = nI 1)) → K (-1000002 : Int32) (bS σ B U) := fun h => by
    have e : eSnd V x f = (-1000002 : Int32) := by unfold eSnd; rw [if_pos hall, if_neg h]
    have := cop_n (by rw [e]; exact lt02) R hK
    rw [e] at this
    exact this
  have ok : (rsn V (toN x) = 0 ∨ (rsn V (toN x) = 4 ∧ f = nI 1)) → (sh (bS σ B U) B 3 11 ∧ cI E 41 [.ref B, .int x] (bS σ B U) (fun x6 s5 =>
            sh s5 B 3 11 ∧ ∃ r7, rf s5 B 1 r7 ∧ ∃ n8 r9, sh s5 r7 14 n8 ∧ vp_in x n8 ∧ rf s5 r7 (x).toNatClampNeg r9 ∧ sh s5 r9 1 9 ∧ cV E 9 [.ref r9] s5 (fun s10 =>
            K x6 s10))) := fun h => by
    have e : eSnd V x f = nI 0 := by unfold eSnd; rw [if_pos hall, if_pos h]
    have hK' := cop_y (by rw [e]; exact le00) hK
    generalize toN x = b at hK' hx ex
    subst ex
    exact ⟨shS H hB, c_los H hB hw R (by omega) ⟨shS H hB, _, rS1 H hB, 14, _, shBA H hB, vi (by omega) (by omega), rBAc H hB (by omega), shB H hB (by omega), c_tak H hB hw R hx hK'⟩⟩
  rw [show cI E 36 [.ref B, .int x] = cI E 36 [.ref B, .int (nI (toN x))] by rw [← ex]]
  have z00 : ¬ (nI 0 ≠ nI 0) := fun z => z rfl
  have z10 : nI 1 ≠ nI 0 := by decide
  refine c_rsn H hB hw R hx ⟨fun g4 => ⟨fun g5 => ok (Or.inl (r0.mp g5)), fun g5 => ⟨fun z => absurd z z00, fun _ => no2 fun z => z.elim (fun y => g5 (r0.mpr y)) (fun y => g4 y.2)⟩⟩, fun g4 => ⟨fun g5 => ⟨fun g6 => ok (Or.inl (r0.mp g6)), fun g6 => ⟨fun z => absurd z z00, fun _ => no2 fun z => z.elim (fun y => g6 (r0.mpr y)) (fun y => g5 (r4.mpr y.1))⟩⟩, fun g5 => ⟨fun g6 => ok (Or.inl (r0.mp g6)), fun g6 => ⟨fun _ => ok (Or.inr ⟨r4.mp (Classical.not_not.mp g5), Classical.not_not.mp g4⟩), fun z => absurd z10 z⟩⟩⟩⟩
theorem c_rec (H : MI σ) (hB : isB B) (hw : WF m V) (R : Rel U V) {x : Int32} (hK : ∀ U', Rel U' (opV (eRec V x) V (dRec V (toN x))) → K (opA (eRec V x) (V (72 + 8 * toN x + 3))) (bS σ B U')) : cI E 25 [.ref B, .int x] (bS σ B U) K := by
  have h1 := hw.1
  unfold W1 at h1
  refine sg25_0 ⟨shS H hB, c_isB H hB hw R ⟨fun g => ?_, fun g => ?_⟩⟩
  · obtain ⟨hx, ex⟩ := inBr_n hw (bI_1 g)
    have hin := bI_1 g
    have s1 : stOf V (toN x) = 1 ↔ pntd V (toN x) = true := st1
    have h3 := stOf_lt V (toN x)
    have ec := nI_eq (a := stOf V (toN x)) (b := 1) (by omega) (by decide)
    generalize hb : toN x = b at hK hx ex s1 h3 ec
    subst ex
    have rb := R.2.2.2.2 b hx
    refine ⟨shS H hB, _, rS1 H hB, 14, _, shBA H hB, vi (by omega) (by omega), rBAc H hB (by omega), shB H hB (by omega), ?_⟩
    rw [gB (by omega), rb.2.2.2.2.2.1]
    refine ⟨fun g2 => ?_, fun g2 => ?_⟩
    · have hp := s1.mp (ec.mp g2)
      have e : eRec V (nI b) = nI 0 := by unfold eRec; rw [if_pos hin, hb, if_pos hp]
      have hK' := cop_y (by rw [e]; exact le00) hK
      refine ⟨shS H hB, _, rS1 H hB, 14, _, shBA H hB, vi (by omega) (by omega), rBAc H hB (by omega), shB H hB (by omega), c_los2 H hB hw R hx fun U' r => ⟨shS H hB, _, rS1 H hB, 14, _, shBA H hB, vi (by omega) (by omega), rBAc H hB (by omega), shB H hB (by omega), ?_⟩⟩
      have rb' := r.2.2.2.2 b (by rw [show dRec V b 2 = V 2 from upN_n (by omega)]; exact hx)
      rw [gB (by omega), rb'.2.2.2.2.1, show dRec V b (72 + 8 * b + 3) = V (72 + 8 * b + 3) from upN_n (by omega)]
      exact hK' U' r
    · have hp : ¬ pntd V b = true := fun z => g2 (ec.mpr (s1.mpr z))
      have e : eRec V (nI b) = (-1000002 : Int32) := by unfold eRec; rw [if_pos hin, hb, if_neg hp]
      have := cop_n (by rw [e]; exact lt02) R hK
      rw [e] at this
      exact this
  · have e : eRec V x = (-1000001 : Int32) := by unfold eRec; rw [if_neg (fun z => ff (by rw [← bI_2 g]; exact z))]
    have := cop_n (by rw [e]; exact lt01) R hK
    rw [e] at this
    exact this
theorem c_pay (H : MI σ) (hB : isB B) (hw : WF m V) (R : Rel U V) {x : Int32} (hK : ∀ U', Rel U' (opV (ePay V x) V (dPay V (toN x))) → K (opA (ePay V x) (V 11 + toN x)) (bS σ B U')) : cI E 26 [.ref B, .int x] (bS σ B U) K := by
  have h1 := hw.1
  unfold W1 at h1
  have h5 := hw.2.2.2.2
  unfold W5 at h5
  have rg := R.1
  unfold RG at rg
  have no : ¬ inRg x (nI 1) (nI 999) = true → K (-1000001 : Int32) (bS σ B U) := fun h => by
    have e : ePay V x = (-1000001 : Int32) := by unfold ePay; rw [if_neg h]
    have := cop_n (by rw [e]; exact lt01) R hK
    rw [e] at this
    exact this
  refine sg26_0 ⟨fun g => no (inRg_lt (by decide) (by decide) g), fun g => ⟨fun g2 => ⟨shS H hB, ?_⟩, fun g2 => no (inRg_gt (by decide) (by decide) g2)⟩⟩
  have hr := inRg_mk (by decide) (by decide) g g2
  obtain ⟨c1, c2, c3⟩ := inRg_n (by decide) (by decide) hr
  have e0 : ePay V x = if V 11 + toN x ≤ 999999 then nI 0 else (-1000003 : Int32) := by unfold ePay; rw [if_pos hr]
  generalize toN x = a at hK c1 c2 c3 e0
  subst c3
  rw [bS_get0, rg.2.2.2.1, nI_add]
  have ec := nI_leI (a := V 11 + a) (b := 999999) (by omega) (by decide)
  refine ⟨fun g3 => ?_, fun g3 => ?_⟩
  · rw [if_pos (ec.mp g3)] at e0
    have hK' := cop_y (by rw [e0]; exact le00) hK
    refine ⟨shS H hB, c_rcv H hB R (by omega) fun U' r => ⟨shS H hB, ?_⟩⟩
    have rg' := r.1
    unfold RG at rg'
    rw [bS_get0, rg'.2.2.2.1, show dPay V a 11 = V 11 + a by unfold dPay; simp (disch := omega) only [upN_n, upN_s]]
    exact hK' U' r
  · rw [if_neg (fun z => g3 (ec.mpr z))] at e0
    have := cop_n (by rw [e0]; exact lt03) R hK
    rw [e0] at this
    exact this
theorem c_dys (H : MI σ) (hB : isB B) (hw : WF m V) (R : Rel U V) {x : Int32} (hK : ∀ U', Rel U' (opV (eDys V x) V (dDays (toN x) V)) → K (opA (eDys V x) (cDays (toN x) V)) (bS σ B U')) : cI E 28 [.ref B, .int x] (bS σ B U) K := by
  have h5 := hw.2.2.2.2
  unfold W5 at h5
  have rg := R.1
  unfold RG at rg
  have no : ¬ inRg x (nI 1) (nI 99) = true → K (-1000001 : Int32) (bS σ B U) := fun h => by
    have e : eDys V x = (-1000001 : Int32) := by unfold eDys; rw [if_neg h]
    have := cop_n (by rw [e]; exact lt01) R hK
    rw [e] at this
    exact this
  refine sg28_0 ⟨fun g => no (inRg_lt (by decide) (by decide) g), fun g => ⟨fun g2 => ⟨shS H hB, ?_⟩, fun g2 => no (inRg_gt (by decide) (by decide) g2)⟩⟩
  have hr := inRg_mk (by decide) (by decide) g g2
  obtain ⟨c1, c2, c3⟩ := inRg_n (by decide) (by decide) hr
  have e0 : eDys V x = if V 0 + toN x ≤ 9999 then nI 0 else (-1000003 : Int32) := by unfold eDys; rw [if_pos hr]
  generalize toN x = a at hK c1 c2 c3 e0
  subst c3
  rw [bS_get0, rg.2.2.1, nI_add]
  have ec := nI_leI (a := V 0 + a) (b := 9999) (by omega) (by decide)
  refine ⟨fun g3 => ?_, fun g3 => ?_⟩
  · have h99 := ec.mp g3
    rw [if_pos h99] at e0
    have hK' := cop_y (by rw [e0]; exact le00) hK
    refine c_dysL H hB (by omega) a 0 0 (V 0) V U (by omega) (hw.to (Nat.le_refl _) (by omega)) (by omega) R fun U' r => ?_
    rw [Nat.zero_add]
    exact hK' U' r
  · rw [if_neg (fun z => g3 (ec.mpr z))] at e0
    have := cop_n (by rw [e0]; exact lt03) R hK
    rw [e0] at this
    exact this
/-- the written tables of the script's world -/
def EOK (E : AEnv) : Prop := (E 1).1 = 8 ∧ (E 2).1 = 8 ∧ ∀ k, k < 8 → (E 1).2 k = nI (loS (nI k)) ∧ (E 2).2 k = nI (hiS (nI k))
theorem eok_law {L : Nat} {xs : Nat → Int32} : EOK (lawE L xs) := ⟨rfl, rfl, fun k hk => by
  have h1 : ∀ k, k < 8 → (tbK 1).getD k 0 = nI (loS (nI k)) ∧ (tbK 2).getD k 0 = nI (hiS (nI k)) := by decide
  exact h1 k hk⟩
theorem c_set (hE : EOK E) (H : MI σ) (hB : isB B) (hw : WF m V) (R : Rel U V) {w v : Int32} (hK : ∀ U', Rel U' (opV (eSet w v) V (dSet V (toN w) (toN v))) → K (opA (eSet w v) (V (3 + toN w))) (bS σ B U')) : cI E 27 [.ref B, .int w, .int v] (bS σ B U) K := by
  have h1 := hw.1
  unfold W1 at h1
  obtain ⟨t1, t2, t3⟩ := hE
  have no : ¬ (inRg w (nI 0) (nI 7) = true ∧ inRg v (nI (loS w)) (nI (hiS w)) = true) → K (-1000001 : Int32) (bS σ B U) := fun h => by
    have e : eSet w v = (-1000001 : Int32) := by unfold eSet; rw [if_neg h]
    have := cop_n (by rw [e]; exact lt01) R hK
    rw [e] at this
    exact this
  have hh := hiS_lt w
  have hl : loS w ≤ 1 := by unfold loS; split <;> omega
  refine sg27_0 ⟨fun g => no fun z => inRg_lt (by decide) (by decide) g z.1, fun g => ⟨fun g2 => no fun z => ?_, fun g2 => ?_⟩⟩
  · obtain ⟨j, _, hj, rfl⟩ := (inRg_nn (by decide) (by decide)).mp z.1
    exact absurd g2 (nI_ge (by omega) (by decide))
  · have g3 : w ≤ nI 7 := by
      obtain ⟨j, hj, rfl⟩ := nI_of g
      have : ¬ 8 ≤ j := fun z => g2 ((nI_leI (by decide) hj).mpr z)
      exact nI_le (by omega) (by decide)
    have hr := inRg_mk (by decide) (by decide) g g3
    obtain ⟨k, _, hk, rfl⟩ := (inRg_nn (by decide) (by decide)).mp hr
    rw [t1, t2, cl k (by omega), (t3 k (by omega)).1, (t3 k (by omega)).2]
    refine ⟨vi (by omega) (by decide), fun g4 => no fun z => inRg_lt (by omega) (by omega) g4 z.2, fun g4 => ⟨vi (by omega) (by decide), fun g5 => ?_, fun g5 => no fun z => inRg_gt (by omega) (by omega) g5 z.2⟩⟩
    have hv := inRg_mk (by omega) (by omega) g4 g5
    have e : eSet (nI k) v = nI 0 := by unfold eSet; rw [if_pos ⟨hr, hv⟩]
    have hK' := cop_y (by rw [e]; exact le00) hK
    obtain ⟨q, _, hq, rfl⟩ := (inRg_nn (by omega) (by omega)).mp hv
    rw [toN_nI (by omega), toN_nI (by omega)] at hK'
    refine ⟨shS H hB, _, rS2 H hB, 8, shSe H hB, vi (by omega) (by decide), shS H hB, _, rS2 H hB, 8, shSe H hB, vi (by omega) (by decide), ?_⟩
    rw [bS_get (by decide), R.2.1 k (by omega)]
    refine nw_e (bS_put (by decide)) (hK' _ ?_)
    obtain ⟨r1, r2, r3, r4, r5⟩ := R
    have o : ∀ j, j ≠ 3 + k → dSet V k q j = V j := fun j h => upN_n h
    refine ⟨r1.keep (fun j => by simp (disch := omega) only [upU_s, upU_k, upU_c]) (o _ (by omega)) (o _ (by omega)) (o _ (by omega)) (o _ (by omega)) (o _ (by omega)) (o _ (by omega)) (o _ (by omega)), fun s hs => ?_, ⟨?_, fun a ha => ?_⟩, fun i hi => ?_, fun b hb => ?_⟩
    · by_cases hs2 : s = k
      · subst hs2
        rw [upU_s, show dSet V s q (3 + s) = q from upN_s _ _ _]
      · rw [upU_k hs2, o _ (by omega)]
        exact r2 s hs
    · rw [o _ (by omega)]
      simp (disch := omega) only [upU_s, upU_k, upU_c]
      exact r3.1
    · rw [o _ (by omega)] at ha ⊢
      rw [o _ (by omega), o _ (by omega)]
      simp (disch := omega) only [upU_s, upU_k, upU_c]
      exact r3.2 a ha
    · rw [o _ (by omega)] at hi
      have := r4 i hi
      unfold RI at this ⊢
      rw [o _ (by omega), o _ (by omega), o _ (by omega), o _ (by omega), o _ (by omega)]
      simp (disch := omega) only [upU_s, upU_k, upU_c]
      exact this
    · rw [o _ (by omega)] at hb
      have := r5 b hb
      have w : ∀ j, dSet V k q (72 + 8 * b + j) = V (72 + 8 * b + j) := fun j => o _ (by omega)
      have ee : endsM (dSet V k q) b = endsM V b := by unfold endsM; rw [w, w]
      have es : stOf (dSet V k q) b = stOf V b := by unfold stOf pntd; rw [w, w]
      unfold RB at this ⊢
      rw [ee, es, w, w, w, w, w, w, w]
      simp (disch := omega) only [upU_s, upU_k, upU_c]
      exact this
end COM18
end
section
/-! the component's copies -/
section COM19
variable {E : AEnv} {σ τ : ASt} {A B : Nat} {U U' : Nat → Nat → Int32} {V W : Nat → Nat} {m n t : Nat} {Q : Option Value → ASt → Prop} {K : Int32 → ASt → Prop} {KV : ASt → Prop}
def blk (σ : ASt) (B : Nat) : Nat → Nat → Int32 := fun c => σ.2.1 (B + c)
theorem isB_dis (hA : isB A) (hB : isB B) (h : A ≠ B) {c : Nat} (hc : c < 29) : ¬ (A ≤ B + c ∧ B + c < A + 29) := by
  unfold isB at hA hB
  omega
theorem gS (hA : isB A) (hB : isB B) (h : A ≠ B) {c k : Nat} (hc : c < 29) : gI (bS σ A U) (B + c) k = blk σ B c k := bS_ne (isB_dis hA hB h hc)
theorem gS0 (hA : isB A) (hB : isB B) (h : A ≠ B) {k : Nat} : gI (bS σ A U) B k = blk σ B 0 k := gS hA hB h (c := 0) (by decide)
theorem gSI (hA : isB A) (hB : isB B) (h : A ≠ B) {i k : Nat} (hc : i < 8) : gI (bS σ A U) (B + 7 + i) k = blk σ B (7 + i) k := by rw [Nat.add_assoc]; exact gS hA hB h (by omega)
theorem gSB (hA : isB A) (hB : isB B) (h : A ≠ B) {i k : Nat} (hc : i < 14) : gI (bS σ A U) (B + 15 + i) k = blk σ B (15 + i) k := by rw [Nat.add_assoc]; exact gS hA hB h (by omega)
theorem c_cpI (H : MI σ) (hA : isB A) (hB : isB B) (hne : A ≠ B) {i : Nat} (hi : i < 8) (hK : ∀ U', (∀ c k, c ≠ 7 + i → U' c k = U c k) → (∀ k, k < 5 → U' (7 + i) k = blk σ B (7 + i) k) → KV (bS σ A U')) : cV E 16 [.ref (A + 7 + i), .ref (B + 7 + i)] (bS σ A U) KV := by
  have g : ∀ X k, gI (bS σ A X) (B + 7 + i) k = blk σ B (7 + i) k := fun X k => gSI hA hB hne hi
  refine sg16_0 ⟨shI H hB hi, shI H hA hi, nw_e (wIl hi) ⟨shI H hB hi, shI H hA hi, nw_e (wIl hi) ⟨shI H hB hi, shI H hA hi, nw_e (wIl hi) ⟨shI H hB hi, shI H hA hi, nw_e (wIl hi) ⟨shI H hB hi, shI H hA hi, nw_e (wIl hi) (hK _ (fun c k h => ?_) fun k hk => ?_)⟩⟩⟩⟩⟩
  · simp (disch := omega) only [upU_s, upU_k, upU_c]
  · rw [g, g, g, g, g]
    have hc : k = 0 ∨ k = 1 ∨ k = 2 ∨ k = 3 ∨ k = 4 := by omega
    rcases hc with rfl | rfl | rfl | rfl | rfl
    · simp (disch := omega) only [upU_s, upU_k, upU_c]
    · simp (disch := omega) only [upU_s, upU_k, upU_c]
    · simp (disch := omega) only [upU_s, upU_k, upU_c]
    · simp (disch := omega) only [upU_s, upU_k, upU_c]
    · simp (disch := omega) only [upU_s, upU_k, upU_c]
theorem c_cpG (H : MI σ) (hA : isB A) (hB : isB B) (hne : A ≠ B) {i : Nat} (hi : i < 14) (hK : ∀ U', (∀ c k, c ≠ 15 + i → U' c k = U c k) → (∀ k, k < 9 → U' (15 + i) k = blk σ B (15 + i) k) → KV (bS σ A U')) : cV E 8 [.ref (A + 15 + i), .ref (B + 15 + i)] (bS σ A U) KV := by
  have g : ∀ X k, gI (bS σ A X) (B + 15 + i) k = blk σ B (15 + i) k := fun X k => gSB hA hB hne hi
  refine sg8_0 ⟨shB H hB hi, shB H hA hi, nw_e (wB hi) ⟨shB H hB hi, shB H hA hi, nw_e (wB hi) ⟨shB H hB hi, shB H hA hi, nw_e (wB hi) ⟨shB H hB hi, shB H hA hi, nw_e (wB hi) ⟨shB H hB hi, shB H hA hi, nw_e (wB hi) ⟨shB H hB hi, shB H hA hi, nw_e (wB hi) ⟨shB H hB hi, shB H hA hi, nw_e (wB hi) ⟨shB H hB hi, shB H hA hi, nw_e (wB hi) ⟨shB H hB hi, shB H hA hi, nw_e (wB hi) (hK _ (fun c k h => ?_) fun k hk => ?_)⟩⟩⟩⟩⟩⟩⟩⟩⟩
  · simp (disch := omega) only [upU_s, upU_k, upU_c]
  · rw [g, g, g, g, g, g, g, g, g]
    have hc : k = 0 ∨ k = 1 ∨ k = 2 ∨ k = 3 ∨ k = 4 ∨ k = 5 ∨ k = 6 ∨ k = 7 ∨ k = 8 := by omega
    rcases hc with rfl | rfl | rfl | rfl | rfl | rfl | rfl | rfl | rfl
    · simp (disch := omega) only [upU_s, upU_k, upU_c]
    · simp (disch := omega) only [upU_s, upU_k, upU_c]
    · simp (disch := omega) only [upU_s, upU_k, upU_c]
    · simp (disch := omega) only [upU_s, upU_k, upU_c]
    · simp (disch := omega) only [upU_s, upU_k, upU_c]
    · simp (disch := omega) only [upU_s, upU_k, upU_c]
    · simp (disch := omega) only [upU_s, upU_k, upU_c]
    · simp (disch := omega) only [upU_s, upU_k, upU_c]
    · simp (disch := omega) only [upU_s, upU_k, upU_c]
theorem c_cpBL (H : MI σ) (hA : isB A) (hB : isB B) (hne : A ≠ B) {U0 : Nat → Nat → Int32} (hK : ∀ U', (∀ c k, c ≠ 5 → c ≠ 6 → U' c k = U0 c k) → (∀ s, s < 8 → U' 5 s = blk σ B 5 s ∧ U' 6 s = blk σ B 6 s) → Q none (bS σ A U')) : ∀ (d k : Nat) (U : Nat → Nat → Int32), k + d = 8 → (∀ c k, c ≠ 5 → c ≠ 6 → U c k = U0 c k) → (∀ s, s < k → U 5 s = blk σ B 5 s ∧ U 6 s = blk σ B 6 s) → wp E 1 10 [.ref (A + 4), .ref (B + 4), .int (nI k)] [] (bS σ A U) Q := by
  intro d
  induction d with
  | zero =>
    intro k U hk h1 h2
    obtain rfl : k = 8 := by omega
    exact sg1_10 ⟨fun _ => hK U h1 h2, fun h => absurd (nI_le (by decide) (by decide)) h⟩
  | succ d ih =>
    intro k U hk h1 h2
    refine sg1_10 ⟨fun h => absurd h (nI_ge (by omega) (by omega)), fun _ => ⟨shBk H hA, _, rK0 H hA, shBk H hB, _, rK0 H hB, 8, shD H hB, vi (by omega) (by decide), 8, shD H hA, vi (by omega) (by decide), ?_⟩⟩
    rw [cl _ (by omega), gS hA hB hne (by decide)]
    refine nw_e (bS_put (by decide)) ⟨shBk H hA, _, rK1 H hA, shBk H hB, _, rK1 H hB, 8, shC H hB, vi (by omega) (by decide), 8, shC H hA, vi (by omega) (by decide), ?_⟩
    rw [gS hA hB hne (by decide), nI_add]
    refine nw_e (bS_put (by decide)) (ih (k + 1) _ (by omega) (fun c j a b => ?_) fun s hs => ?_)
    · simp (disch := omega) only [upU_s, upU_k, upU_c]
      exact h1 c j a b
    · by_cases hsk : s = k
      · subst hsk
        simp (disch := omega) only [upU_s, upU_k, upU_c]
        exact ⟨trivial, trivial⟩
      · simp (disch := omega) only [upU_s, upU_k, upU_c]
        exact h2 s (by omega)
theorem c_cpB (H : MI σ) (hA : isB A) (hB : isB B) (hne : A ≠ B) (hK : ∀ U', (∀ c k, c ≠ 4 → c ≠ 5 → c ≠ 6 → U' c k = U c k) → U' 4 2 = blk σ B 4 2 → (∀ s, s < 8 → U' 5 s = blk σ B 5 s ∧ U' 6 s = blk σ B 6 s) → KV (bS σ A U')) : cV E 1 [.ref (A + 4), .ref (B + 4)] (bS σ A U) KV := by
  refine sg1_0 ⟨shBk H hB, shBk H hA, ?_⟩
  rw [gS hA hB hne (by decide)]
  refine nw_e (bS_put (by decide)) (c_cpBL H hA hB hne (U0 := upU U 4 2 (blk σ B 4 2)) (fun U' h1 h2 => hK U' (fun c k a b d => ?_) ?_ h2) 8 0 _ rfl (fun _ _ _ _ => rfl) fun s hs => absurd hs (Nat.not_lt_zero _))
  · rw [h1 c k b d, upU_c a]
  · rw [h1 4 2 (by decide) (by decide), upU_s]
theorem RI.of {i : Nat} (h : RI U V i) (hU : ∀ k, k < 5 → U' (7 + i) k = U (7 + i) k) : RI U' V i := by
  unfold RI at h ⊢
  rw [hU 0 (by decide), hU 1 (by decide), hU 2 (by decide), hU 3 (by decide), hU 4 (by decide)]
  exact h
theorem RB.of {b : Nat} (h : RB U V b) (hU : ∀ k, k < 9 → U' (15 + b) k = U (15 + b) k) : RB U' V b := by
  unfold RB at h ⊢
  rw [hU 0 (by decide), hU 1 (by decide), hU 2 (by decide), hU 3 (by decide), hU 4 (by decide), hU 5 (by decide), hU 6 (by decide), hU 7 (by decide), hU 8 (by decide)]
  exact h
theorem c_cpS (H : MI σ) (hA : isB A) (hB : isB B) (hne : A ≠ B) (hw : WF m V) (R : Rel (blk σ B) V) (hK : ∀ U', Rel U' V → Q none (bS σ A U')) : ∀ (d k : Nat) (U : Nat → Nat → Int32), k + d = 8 → U 0 4 = nI (V 1) → U 0 5 = nI (V 2) → (∀ i, i < V 1 → RI U V i) → (∀ b, b < V 2 → RB U V b) → (∀ s, s < k → U 3 s = nI (V (3 + s))) → wp E 19 80 [.ref A, .ref B, .int (nI k)] [] (bS σ A U) Q := by
  have h1 := hw.1
  unfold W1 at h1
  intro d
  induction d with
  | zero =>
    intro k U hk u4 u5 uI uB u3
    obtain rfl : k = 8 := by omega
    refine sg19_80 ⟨fun _ => ⟨shS H hA, _, rS3 H hA, shS H hB, _, rS3 H hB, shBk H hA, c_cpB H hA hB hne fun U2 p1 p2 p3 => ⟨shS H hB, shS H hA, ?_⟩⟩, fun h => absurd (nI_le (by decide) (by decide)) h⟩
    have g : ∀ X k, gI (bS σ A X) B k = blk σ B 0 k := fun X k => gS0 hA hB hne
    obtain ⟨rg, _, rk, _, _⟩ := R
    unfold RG at rg
    refine nw_e bS_put0 ⟨shS H hB, shS H hA, nw_e bS_put0 ⟨shS H hB, shS H hA, nw_e bS_put0 ⟨shS H hB, shS H hA, nw_e bS_put0 ⟨shS H hB, shS H hA, nw_e bS_put0 (hK _ ?_)⟩⟩⟩⟩
    rw [g, g, g, g, g, rg.2.2.1, rg.2.2.2.1, rg.2.2.2.2.1, rg.2.2.2.2.2.1, rg.2.2.2.2.2.2]
    refine ⟨?_, fun s hs => ?_, ⟨?_, fun a ha => ?_⟩, fun i hi => (uI i hi).of fun k hk => ?_, fun b hb => (uB b hb).of fun k hk => ?_⟩
    · unfold RG
      simp (disch := omega) only [upU_s, upU_k, upU_c]
      rw [p1 _ _ (by decide) (by decide) (by decide), p1 _ _ (by decide) (by decide) (by decide)]
      exact ⟨u4, u5, trivial, trivial, trivial, trivial, trivial⟩
    · simp (disch := omega) only [upU_s, upU_k, upU_c]
      rw [p1 _ _ (by decide) (by decide) (by decide)]
      exact u3 s hs
    · simp (disch := omega) only [upU_s, upU_k, upU_c]
      rw [p2]
      exact rk.1
    · simp (disch := omega) only [upU_s, upU_k, upU_c]
      have q1 := (p3 (V 15 - 1 - a) (by omega)).1
      have q2 := (p3 (V 15 - 1 - a) (by omega)).2
      rw [q1, q2]
      exact rk.2 a ha
    · simp (disch := omega) only [upU_s, upU_k, upU_c]
      exact p1 _ _ (by omega) (by omega) (by omega)
    · simp (disch := omega) only [upU_s, upU_k, upU_c]
      exact p1 _ _ (by omega) (by omega) (by omega)
  | succ d ih =>
    intro k U hk u4 u5 uI uB u3
    refine sg19_80 ⟨fun h => absurd h (nI_ge (by omega) (by omega)), fun _ => ⟨shS H hA, _, rS2 H hA, shS H hB, _, rS2 H hB, 8, shSe H hB, vi (by omega) (by decide), 8, shSe H hA, vi (by omega) (by decide), ?_⟩⟩
    rw [cl _ (by omega), gS hA hB hne (by decide), R.2.1 k (by omega), nI_add]
    refine nw_e (bS_put (by decide)) (ih (k + 1) _ (by omega) ?_ ?_ (fun i hi => (uI i hi).of fun k hk => ?_) (fun b hb => (uB b hb).of fun k hk => ?_) fun s hs => ?_)
    · simp (disch := omega) only [upU_s, upU_k, upU_c]
      exact u4
    · simp (disch := omega) only [upU_s, upU_k, upU_c]
      exact u5
    · simp (disch := omega) only [upU_s, upU_k, upU_c]
    · simp (disch := omega) only [upU_s, upU_k, upU_c]
    · by_cases hsk : s = k
      · subst hsk
        simp (disch := omega) only [upU_s, upU_k, upU_c]
      · simp (disch := omega) only [upU_s, upU_k, upU_c]
        exact u3 s (by omega)
theorem c_cp2 (H : MI σ) (hA : isB A) (hB : isB B) (hne : A ≠ B) (hw : WF m V) (R : Rel (blk σ B) V) (hK : ∀ U', Rel U' V → Q none (bS σ A U')) : ∀ (d k : Nat) (U : Nat → Nat → Int32), k + d = V 2 → U 0 4 = nI (V 1) → U 0 5 = nI (V 2) → (∀ i, i < V 1 → RI U V i) → (∀ b, b < k → RB U V b) → wp E 19 49 [.ref A, .ref B, .int (nI k)] [] (bS σ A U) Q := by
  have h1 := hw.1
  unfold W1 at h1
  intro d
  induction d with
  | zero =>
    intro k U hk u4 u5 uI uB
    obtain rfl : k = V 2 := by omega
    refine sg19_49 ⟨shS H hA, ?_, ?_⟩
    · intro _
      exact c_cpS H hA hB hne hw R hK 8 0 U rfl u4 u5 uI uB fun s hs => absurd hs (Nat.not_lt_zero _)
    · rw [bS_get0, u5]
      exact fun h => absurd (nI_le (Nat.le_refl _) (by omega)) h
  | succ d ih =>
    intro k U hk u4 u5 uI uB
    refine sg19_49 ⟨shS H hA, ?_, ?_⟩
    · rw [bS_get0, u5]
      exact fun h => absurd h (nI_ge (by omega) (by omega))
    · intro _
      refine ⟨shS H hA, _, rS1 H hA, 14, _, shBA H hA, vi (by omega) (by omega), rBAc H hA (by omega), shS H hB, _, rS1 H hB, 14, _, shBA H hB, vi (by omega) (by omega), rBAc H hB (by omega), shB H hA (by omega), c_cpG H hA hB hne (by omega) fun U2 p1 p2 => ?_⟩
      rw [nI_add]
      refine ih (k + 1) U2 (by omega) (by rw [p1 _ _ (by omega)]; exact u4) (by rw [p1 _ _ (by omega)]; exact u5) (fun i hi => (uI i hi).of fun j hj => p1 _ _ (by omega)) fun b hb => ?_
      by_cases hbk : b = k
      · subst hbk
        exact (R.2.2.2.2 b (by omega)).of p2
      · exact (uB b (by omega)).of fun j hj => p1 _ _ (by omega)
theorem c_cp1 (H : MI σ) (hA : isB A) (hB : isB B) (hne : A ≠ B) (hw : WF m V) (R : Rel (blk σ B) V) (hK : ∀ U', Rel U' V → Q none (bS σ A U')) : ∀ (d k : Nat) (U : Nat → Nat → Int32), k + d = V 1 → U 0 4 = nI (V 1) → (∀ i, i < k → RI U V i) → wp E 19 10 [.ref A, .ref B, .int (nI k)] [] (bS σ A U) Q := by
  have h1 := hw.1
  unfold W1 at h1
  have rg := R.1
  unfold RG at rg
  intro d
  induction d with
  | zero =>
    intro k U hk u4 uI
    obtain rfl : k = V 1 := by omega
    refine sg19_10 ⟨shS H hA, ?_, ?_⟩
    · intro _
      refine ⟨shS H hB, shS H hA, ?_⟩
      rw [gS0 hA hB hne, rg.2.1]
      refine nw_e bS_put0 (c_cp2 H hA hB hne hw R hK (V 2) 0 _ (by omega) ?_ ?_ (fun i hi => (uI i hi).of fun j hj => ?_) fun b hb => absurd hb (Nat.not_lt_zero _))
      · simp (disch := omega) only [upU_s, upU_k, upU_c]
        exact u4
      · simp (disch := omega) only [upU_s, upU_k, upU_c]
      · simp (disch := omega) only [upU_s, upU_k, upU_c]
    · rw [bS_get0, u4]
      exact fun h => absurd (nI_le (Nat.le_refl _) (by omega)) h
  | succ d ih =>
    intro k U hk u4 uI
    refine sg19_10 ⟨shS H hA, ?_, ?_⟩
    · rw [bS_get0, u4]
      exact fun h => absurd h (nI_ge (by omega) (by omega))
    · intro _
      refine ⟨shS H hA, _, rS0 H hA, 8, _, shIA H hA, vi (by omega) (by omega), rIAc H hA (by omega), shS H hB, _, rS0 H hB, 8, _, shIA H hB, vi (by omega) (by omega), rIAc H hB (by omega), shI H hA (by omega), c_cpI H hA hB hne (by omega) fun U2 p1 p2 => ?_⟩
      rw [nI_add]
      refine ih (k + 1) U2 (by omega) (by rw [p1 _ _ (by omega)]; exact u4) fun i hi => ?_
      by_cases hik : i = k
      · subst hik
        exact (R.2.2.2.1 i (by omega)).of p2
      · exact (uI i (by omega)).of fun j hj => p1 _ _ (by omega)
theorem c_cpy (H : MI σ) (hA : isB A) (hB : isB B) (hne : A ≠ B) (hw : WF m V) (R : Rel (blk σ B) V) (hK : ∀ U', Rel U' V → KV (bS σ A U')) : cV E 19 [.ref A, .ref B] (bS σ A U) KV := by
  have rg := R.1
  unfold RG at rg
  refine sg19_0 ⟨shS H hB, shS H hA, ?_⟩
  rw [gS0 hA hB hne, rg.1]
  exact nw_e bS_put0 (c_cp1 H hA hB hne hw R hK (V 1) 0 _ (by omega) upU_s fun i hi => absurd hi (Nat.not_lt_zero _))
end COM19
end
