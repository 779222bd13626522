section
-- ===== PART A: goes FIRST, ahead of the names: the tables' words, and 'selects' of the private methods out of them =====
/-- a private method of a class that the tables say can be made, by its rows of tables_1 -/
def lw_okq (q : MethodName × Nat) : Prop := (q.1.cls ≠ "java/lang/invoke/MethodHandle" ∧ q.1.cls ≠ "java/lang/invoke/VarHandle") ∧ Cond.instantiable q.1.cls q.2 ∈ tables_1 ∧ Cond.privateMethod q.1 ∈ tables_1 ∧ Cond.instanceMethod q.1 ∈ tables_1
theorem lw_p0 : lw_okq (⟨"LastLent$LawText", "nextToken", "()V"⟩, 9) := ⟨⟨by decide +kernel, by decide +kernel⟩, List.mem_of_getElem? (i := 25) (by decide +kernel), List.mem_of_getElem? (i := 318) (by decide +kernel), List.mem_of_getElem? (i := 319) (by decide +kernel)⟩
theorem lw_p1 : lw_okq (⟨"LastLent$LawText", "beginClause", "(LLastLent$Law;)I"⟩, 9) := ⟨⟨by decide +kernel, by decide +kernel⟩, List.mem_of_getElem? (i := 25) (by decide +kernel), List.mem_of_getElem? (i := 328) (by decide +kernel), List.mem_of_getElem? (i := 329) (by decide +kernel)⟩
theorem lw_p2 : lw_okq (⟨"LastLent$LawText", "wordIn", "(Ljava/lang/String;)I"⟩, 9) := ⟨⟨by decide +kernel, by decide +kernel⟩, List.mem_of_getElem? (i := 25) (by decide +kernel), List.mem_of_getElem? (i := 333) (by decide +kernel), List.mem_of_getElem? (i := 334) (by decide +kernel)⟩
theorem lw_p3 : lw_okq (⟨"LastLent$LawText", "isWordAt", "(Ljava/lang/String;I)Z"⟩, 9) := ⟨⟨by decide +kernel, by decide +kernel⟩, List.mem_of_getElem? (i := 25) (by decide +kernel), List.mem_of_getElem? (i := 347) (by decide +kernel), List.mem_of_getElem? (i := 348) (by decide +kernel)⟩
theorem lw_p4 : lw_okq (⟨"LastLent$LawText", "refuse", "(I)Z"⟩, 9) := ⟨⟨by decide +kernel, by decide +kernel⟩, List.mem_of_getElem? (i := 25) (by decide +kernel), List.mem_of_getElem? (i := 389) (by decide +kernel), List.mem_of_getElem? (i := 390) (by decide +kernel)⟩
theorem lw_p5 : lw_okq (⟨"LastLent$LawText", "isOneTooMany", "(ILLastLent$Law;)Z"⟩, 9) := ⟨⟨by decide +kernel, by decide +kernel⟩, List.mem_of_getElem? (i := 25) (by decide +kernel), List.mem_of_getElem? (i := 393) (by decide +kernel), List.mem_of_getElem? (i := 394) (by decide +kernel)⟩
theorem lw_p6 : lw_okq (⟨"LastLent$LawText", "readBody", "(ILLastLent$Law;)Z"⟩, 9) := ⟨⟨by decide +kernel, by decide +kernel⟩, List.mem_of_getElem? (i := 25) (by decide +kernel), List.mem_of_getElem? (i := 400) (by decide +kernel), List.mem_of_getElem? (i := 401) (by decide +kernel)⟩
theorem lw_p7 : lw_okq (⟨"LastLent$LawText", "readRides", "(LLastLent$Law;)Z"⟩, 9) := ⟨⟨by decide +kernel, by decide +kernel⟩, List.mem_of_getElem? (i := 25) (by decide +kernel), List.mem_of_getElem? (i := 404) (by decide +kernel), List.mem_of_getElem? (i := 405) (by decide +kernel)⟩
theorem lw_p8 : lw_okq (⟨"LastLent$LawText", "readKind", "(I)I"⟩, 9) := ⟨⟨by decide +kernel, by decide +kernel⟩, List.mem_of_getElem? (i := 25) (by decide +kernel), List.mem_of_getElem? (i := 408) (by decide +kernel), List.mem_of_getElem? (i := 409) (by decide +kernel)⟩
theorem lw_p9 : lw_okq (⟨"LastLent$LawText", "readFund", "(LLastLent$Law;I)Z"⟩, 9) := ⟨⟨by decide +kernel, by decide +kernel⟩, List.mem_of_getElem? (i := 25) (by decide +kernel), List.mem_of_getElem? (i := 413) (by decide +kernel), List.mem_of_getElem? (i := 414) (by decide +kernel)⟩
theorem lw_p10 : lw_okq (⟨"LastLent$LawText", "isFundNext", "()Z"⟩, 9) := ⟨⟨by decide +kernel, by decide +kernel⟩, List.mem_of_getElem? (i := 25) (by decide +kernel), List.mem_of_getElem? (i := 418) (by decide +kernel), List.mem_of_getElem? (i := 419) (by decide +kernel)⟩
theorem lw_p11 : lw_okq (⟨"LastLent$LawText", "readAhead", "(LLastLent$Law;)Z"⟩, 9) := ⟨⟨by decide +kernel, by decide +kernel⟩, List.mem_of_getElem? (i := 25) (by decide +kernel), List.mem_of_getElem? (i := 422) (by decide +kernel), List.mem_of_getElem? (i := 423) (by decide +kernel)⟩
theorem lw_p12 : lw_okq (⟨"LastLent$LawText", "readFirst", "(LLastLent$Law;)Z"⟩, 9) := ⟨⟨by decide +kernel, by decide +kernel⟩, List.mem_of_getElem? (i := 25) (by decide +kernel), List.mem_of_getElem? (i := 426) (by decide +kernel), List.mem_of_getElem? (i := 427) (by decide +kernel)⟩
theorem lw_p13 : lw_okq (⟨"LastLent$LawText", "readBehind", "(LLastLent$Law;)Z"⟩, 9) := ⟨⟨by decide +kernel, by decide +kernel⟩, List.mem_of_getElem? (i := 25) (by decide +kernel), List.mem_of_getElem? (i := 430) (by decide +kernel), List.mem_of_getElem? (i := 431) (by decide +kernel)⟩
theorem lw_p14 : lw_okq (⟨"LastLent$LawText", "readWithin", "(LLastLent$Law;)Z"⟩, 9) := ⟨⟨by decide +kernel, by decide +kernel⟩, List.mem_of_getElem? (i := 25) (by decide +kernel), List.mem_of_getElem? (i := 434) (by decide +kernel), List.mem_of_getElem? (i := 435) (by decide +kernel)⟩
theorem lw_p15 : lw_okq (⟨"LastLent$LawText", "readDies", "(LLastLent$Law;)Z"⟩, 9) := ⟨⟨by decide +kernel, by decide +kernel⟩, List.mem_of_getElem? (i := 25) (by decide +kernel), List.mem_of_getElem? (i := 439) (by decide +kernel), List.mem_of_getElem? (i := 440) (by decide +kernel)⟩
def lw_privs_1 : List (MethodName × Nat) := [(⟨"LastLent$LawText", "nextToken", "()V"⟩, 9), (⟨"LastLent$LawText", "beginClause", "(LLastLent$Law;)I"⟩, 9), (⟨"LastLent$LawText", "wordIn", "(Ljava/lang/String;)I"⟩, 9), (⟨"LastLent$LawText", "isWordAt", "(Ljava/lang/String;I)Z"⟩, 9), (⟨"LastLent$LawText", "refuse", "(I)Z"⟩, 9), (⟨"LastLent$LawText", "isOneTooMany", "(ILLastLent$Law;)Z"⟩, 9), (⟨"LastLent$LawText", "readBody", "(ILLastLent$Law;)Z"⟩, 9), (⟨"LastLent$LawText", "readRides", "(LLastLent$Law;)Z"⟩, 9), (⟨"LastLent$LawText", "readKind", "(I)I"⟩, 9), (⟨"LastLent$LawText", "readFund", "(LLastLent$Law;I)Z"⟩, 9), (⟨"LastLent$LawText", "isFundNext", "()Z"⟩, 9), (⟨"LastLent$LawText", "readAhead", "(LLastLent$Law;)Z"⟩, 9), (⟨"LastLent$LawText", "readFirst", "(LLastLent$Law;)Z"⟩, 9), (⟨"LastLent$LawText", "readBehind", "(LLastLent$Law;)Z"⟩, 9), (⟨"LastLent$LawText", "readWithin", "(LLastLent$Law;)Z"⟩, 9), (⟨"LastLent$LawText", "readDies", "(LLastLent$Law;)Z"⟩, 9)]
theorem lw_r1 : ∀ q ∈ lw_privs_1, lw_okq q := List.forall_mem_cons.mpr ⟨lw_p0, List.forall_mem_cons.mpr ⟨lw_p1, List.forall_mem_cons.mpr ⟨lw_p2, List.forall_mem_cons.mpr ⟨lw_p3, List.forall_mem_cons.mpr ⟨lw_p4, List.forall_mem_cons.mpr ⟨lw_p5, List.forall_mem_cons.mpr ⟨lw_p6, List.forall_mem_cons.mpr ⟨lw_p7, List.forall_mem_cons.mpr ⟨lw_p8, List.forall_mem_cons.mpr ⟨lw_p9, List.forall_mem_cons.mpr ⟨lw_p10, List.forall_mem_cons.mpr ⟨lw_p11, List.forall_mem_cons.mpr ⟨lw_p12, List.forall_mem_cons.mpr ⟨lw_p13, List.forall_mem_cons.mpr ⟨lw_p14, List.forall_mem_cons.mpr ⟨lw_p15, fun _ h => absurd h List.not_mem_nil⟩⟩⟩⟩⟩⟩⟩⟩⟩⟩⟩⟩⟩⟩⟩⟩
theorem lw_p16 : lw_okq (⟨"LastLent$LawText", "readNumber", "(I)I"⟩, 9) := ⟨⟨by decide +kernel, by decide +kernel⟩, List.mem_of_getElem? (i := 25) (by decide +kernel), List.mem_of_getElem? (i := 446) (by decide +kernel), List.mem_of_getElem? (i := 447) (by decide +kernel)⟩
theorem lw_p17 : lw_okq (⟨"LastLent$LawText", "readLeave", "(LLastLent$Law;)Z"⟩, 9) := ⟨⟨by decide +kernel, by decide +kernel⟩, List.mem_of_getElem? (i := 25) (by decide +kernel), List.mem_of_getElem? (i := 450) (by decide +kernel), List.mem_of_getElem? (i := 451) (by decide +kernel)⟩
theorem lw_p18 : lw_okq (⟨"LastLent$LawText", "readCosts", "(LLastLent$Law;)Z"⟩, 9) := ⟨⟨by decide +kernel, by decide +kernel⟩, List.mem_of_getElem? (i := 25) (by decide +kernel), List.mem_of_getElem? (i := 454) (by decide +kernel), List.mem_of_getElem? (i := 455) (by decide +kernel)⟩
theorem lw_p19 : lw_okq (⟨"LastLent$LawText", "readClose", "()V"⟩, 9) := ⟨⟨by decide +kernel, by decide +kernel⟩, List.mem_of_getElem? (i := 25) (by decide +kernel), List.mem_of_getElem? (i := 458) (by decide +kernel), List.mem_of_getElem? (i := 459) (by decide +kernel)⟩
theorem lw_p20 : lw_okq (⟨"LastLent$Law", "followSteps", "()V"⟩, 13) := ⟨⟨by decide +kernel, by decide +kernel⟩, List.mem_of_getElem? (i := 189) (by decide +kernel), List.mem_of_getElem? (i := 466) (by decide +kernel), List.mem_of_getElem? (i := 467) (by decide +kernel)⟩
theorem lw_p21 : lw_okq (⟨"LastLent$Law", "raiseRanks", "()V"⟩, 13) := ⟨⟨by decide +kernel, by decide +kernel⟩, List.mem_of_getElem? (i := 189) (by decide +kernel), List.mem_of_getElem? (i := 471) (by decide +kernel), List.mem_of_getElem? (i := 472) (by decide +kernel)⟩
theorem lw_p22 : lw_okq (⟨"LastLent", "isClaim", "(I)Z"⟩, 10) := ⟨⟨by decide +kernel, by decide +kernel⟩, List.mem_of_getElem? (i := 15) (by decide +kernel), List.mem_of_getElem? (i := 529) (by decide +kernel), List.mem_of_getElem? (i := 530) (by decide +kernel)⟩
theorem lw_p23 : lw_okq (⟨"LastLent$Ship", "lastUnbarred", "(LLastLent$Law;I)I"⟩, 13) := ⟨⟨by decide +kernel, by decide +kernel⟩, List.mem_of_getElem? (i := 63) (by decide +kernel), List.mem_of_getElem? (i := 574) (by decide +kernel), List.mem_of_getElem? (i := 575) (by decide +kernel)⟩
theorem lw_p24 : lw_okq (⟨"LastLent$Ship", "lacksLeave", "(LLastLent$Law;I)Z"⟩, 13) := ⟨⟨by decide +kernel, by decide +kernel⟩, List.mem_of_getElem? (i := 63) (by decide +kernel), List.mem_of_getElem? (i := 581) (by decide +kernel), List.mem_of_getElem? (i := 582) (by decide +kernel)⟩
theorem lw_p25 : lw_okq (⟨"LastLent$PayOut", "joinLine", "(I)V"⟩, 16) := ⟨⟨by decide +kernel, by decide +kernel⟩, List.mem_of_getElem? (i := 128) (by decide +kernel), List.mem_of_getElem? (i := 625) (by decide +kernel), List.mem_of_getElem? (i := 626) (by decide +kernel)⟩
theorem lw_p26 : lw_okq (⟨"LastLent$PayOut", "payAllFrom", "(I)V"⟩, 16) := ⟨⟨by decide +kernel, by decide +kernel⟩, List.mem_of_getElem? (i := 128) (by decide +kernel), List.mem_of_getElem? (i := 654) (by decide +kernel), List.mem_of_getElem? (i := 655) (by decide +kernel)⟩
theorem lw_p27 : lw_okq (⟨"LastLent$PayOut", "payFund", "(I[I)I"⟩, 16) := ⟨⟨by decide +kernel, by decide +kernel⟩, List.mem_of_getElem? (i := 128) (by decide +kernel), List.mem_of_getElem? (i := 658) (by decide +kernel), List.mem_of_getElem? (i := 659) (by decide +kernel)⟩
theorem lw_p28 : lw_okq (⟨"LastLent$PayOut", "marshal", "()V"⟩, 16) := ⟨⟨by decide +kernel, by decide +kernel⟩, List.mem_of_getElem? (i := 128) (by decide +kernel), List.mem_of_getElem? (i := 665) (by decide +kernel), List.mem_of_getElem? (i := 666) (by decide +kernel)⟩
theorem lw_p29 : lw_okq (⟨"LastLent$PayOut", "mostPayable", "()I"⟩, 16) := ⟨⟨by decide +kernel, by decide +kernel⟩, List.mem_of_getElem? (i := 128) (by decide +kernel), List.mem_of_getElem? (i := 669) (by decide +kernel), List.mem_of_getElem? (i := 670) (by decide +kernel)⟩
theorem lw_p30 : lw_okq (⟨"LastLent$PayOut", "wantedOf", "(I)I"⟩, 16) := ⟨⟨by decide +kernel, by decide +kernel⟩, List.mem_of_getElem? (i := 128) (by decide +kernel), List.mem_of_getElem? (i := 673) (by decide +kernel), List.mem_of_getElem? (i := 674) (by decide +kernel)⟩
theorem lw_p31 : lw_okq (⟨"LastLent$PayOut", "nextOrder", "()I"⟩, 16) := ⟨⟨by decide +kernel, by decide +kernel⟩, List.mem_of_getElem? (i := 128) (by decide +kernel), List.mem_of_getElem? (i := 678) (by decide +kernel), List.mem_of_getElem? (i := 679) (by decide +kernel)⟩
def lw_privs_2 : List (MethodName × Nat) := [(⟨"LastLent$LawText", "readNumber", "(I)I"⟩, 9), (⟨"LastLent$LawText", "readLeave", "(LLastLent$Law;)Z"⟩, 9), (⟨"LastLent$LawText", "readCosts", "(LLastLent$Law;)Z"⟩, 9), (⟨"LastLent$LawText", "readClose", "()V"⟩, 9), (⟨"LastLent$Law", "followSteps", "()V"⟩, 13), (⟨"LastLent$Law", "raiseRanks", "()V"⟩, 13), (⟨"LastLent", "isClaim", "(I)Z"⟩, 10), (⟨"LastLent$Ship", "lastUnbarred", "(LLastLent$Law;I)I"⟩, 13), (⟨"LastLent$Ship", "lacksLeave", "(LLastLent$Law;I)Z"⟩, 13), (⟨"LastLent$PayOut", "joinLine", "(I)V"⟩, 16), (⟨"LastLent$PayOut", "payAllFrom", "(I)V"⟩, 16), (⟨"LastLent$PayOut", "payFund", "(I[I)I"⟩, 16), (⟨"LastLent$PayOut", "marshal", "()V"⟩, 16), (⟨"LastLent$PayOut", "mostPayable", "()I"⟩, 16), (⟨"LastLent$PayOut", "wantedOf", "(I)I"⟩, 16), (⟨"LastLent$PayOut", "nextOrder", "()I"⟩, 16)]
theorem lw_r2 : ∀ q ∈ lw_privs_2, lw_okq q := List.forall_mem_cons.mpr ⟨lw_p16, List.forall_mem_cons.mpr ⟨lw_p17, List.forall_mem_cons.mpr ⟨lw_p18, List.forall_mem_cons.mpr ⟨lw_p19, List.forall_mem_cons.mpr ⟨lw_p20, List.forall_mem_cons.mpr ⟨lw_p21, List.forall_mem_cons.mpr ⟨lw_p22, List.forall_mem_cons.mpr ⟨lw_p23, List.forall_mem_cons.mpr ⟨lw_p24, List.forall_mem_cons.mpr ⟨lw_p25, List.forall_mem_cons.mpr ⟨lw_p26, List.forall_mem_cons.mpr ⟨lw_p27, List.forall_mem_cons.mpr ⟨lw_p28, List.forall_mem_cons.mpr ⟨lw_p29, List.forall_mem_cons.mpr ⟨lw_p30, List.forall_mem_cons.mpr ⟨lw_p31, fun _ h => absurd h List.not_mem_nil⟩⟩⟩⟩⟩⟩⟩⟩⟩⟩⟩⟩⟩⟩⟩⟩
theorem lw_p32 : lw_okq (⟨"LastLent$PayOut", "swapFunds", "(II)V"⟩, 16) := ⟨⟨by decide +kernel, by decide +kernel⟩, List.mem_of_getElem? (i := 128) (by decide +kernel), List.mem_of_getElem? (i := 682) (by decide +kernel), List.mem_of_getElem? (i := 683) (by decide +kernel)⟩
theorem lw_p33 : lw_okq (⟨"LastLent$PayOut", "paidForShip", "([I[I)I"⟩, 16) := ⟨⟨by decide +kernel, by decide +kernel⟩, List.mem_of_getElem? (i := 128) (by decide +kernel), List.mem_of_getElem? (i := 718) (by decide +kernel), List.mem_of_getElem? (i := 719) (by decide +kernel)⟩
theorem lw_p34 : lw_okq (⟨"LastLent", "holdingWithout", "(IIIII)I"⟩, 10) := ⟨⟨by decide +kernel, by decide +kernel⟩, List.mem_of_getElem? (i := 15) (by decide +kernel), List.mem_of_getElem? (i := 743) (by decide +kernel), List.mem_of_getElem? (i := 744) (by decide +kernel)⟩
theorem lw_p35 : lw_okq (⟨"LastLent", "canSailAgain", "(II)Z"⟩, 10) := ⟨⟨by decide +kernel, by decide +kernel⟩, List.mem_of_getElem? (i := 15) (by decide +kernel), List.mem_of_getElem? (i := 755) (by decide +kernel), List.mem_of_getElem? (i := 756) (by decide +kernel)⟩
theorem lw_p36 : lw_okq (⟨"LastLent", "supposeVoyage", "(IIIII)V"⟩, 10) := ⟨⟨by decide +kernel, by decide +kernel⟩, List.mem_of_getElem? (i := 15) (by decide +kernel), List.mem_of_getElem? (i := 759) (by decide +kernel), List.mem_of_getElem? (i := 760) (by decide +kernel)⟩
theorem lw_p37 : lw_okq (⟨"LastLent", "wiseFor", "(I)I"⟩, 10) := ⟨⟨by decide +kernel, by decide +kernel⟩, List.mem_of_getElem? (i := 15) (by decide +kernel), List.mem_of_getElem? (i := 763) (by decide +kernel), List.mem_of_getElem? (i := 764) (by decide +kernel)⟩
theorem lw_p38 : lw_okq (⟨"LastLent", "worthFor", "(II)I"⟩, 10) := ⟨⟨by decide +kernel, by decide +kernel⟩, List.mem_of_getElem? (i := 15) (by decide +kernel), List.mem_of_getElem? (i := 767) (by decide +kernel), List.mem_of_getElem? (i := 768) (by decide +kernel)⟩
theorem lw_p39 : lw_okq (⟨"LastLent", "hangsOn", "(IIIII)I"⟩, 10) := ⟨⟨by decide +kernel, by decide +kernel⟩, List.mem_of_getElem? (i := 15) (by decide +kernel), List.mem_of_getElem? (i := 775) (by decide +kernel), List.mem_of_getElem? (i := 776) (by decide +kernel)⟩
theorem lw_p40 : lw_okq (⟨"LastLentModel", "bare", "()V"⟩, 48) := ⟨⟨by decide +kernel, by decide +kernel⟩, List.mem_of_getElem? (i := 793) (by decide +kernel), List.mem_of_getElem? (i := 799) (by decide +kernel), List.mem_of_getElem? (i := 800) (by decide +kernel)⟩
theorem lw_p41 : lw_okq (⟨"LastLentModel", "keepLaw", "(I)V"⟩, 48) := ⟨⟨by decide +kernel, by decide +kernel⟩, List.mem_of_getElem? (i := 793) (by decide +kernel), List.mem_of_getElem? (i := 803) (by decide +kernel), List.mem_of_getElem? (i := 804) (by decide +kernel)⟩
theorem lw_p42 : lw_okq (⟨"LastLentModel", "findRanks", "(I)V"⟩, 48) := ⟨⟨by decide +kernel, by decide +kernel⟩, List.mem_of_getElem? (i := 793) (by decide +kernel), List.mem_of_getElem? (i := 807) (by decide +kernel), List.mem_of_getElem? (i := 808) (by decide +kernel)⟩
theorem lw_p43 : lw_okq (⟨"LastLentModel", "areAlike", "(III)Z"⟩, 48) := ⟨⟨by decide +kernel, by decide +kernel⟩, List.mem_of_getElem? (i := 793) (by decide +kernel), List.mem_of_getElem? (i := 811) (by decide +kernel), List.mem_of_getElem? (i := 812) (by decide +kernel)⟩
theorem lw_p44 : lw_okq (⟨"LastLentModel", "levelRanks", "(I)V"⟩, 48) := ⟨⟨by decide +kernel, by decide +kernel⟩, List.mem_of_getElem? (i := 793) (by decide +kernel), List.mem_of_getElem? (i := 815) (by decide +kernel), List.mem_of_getElem? (i := 816) (by decide +kernel)⟩
theorem lw_p45 : lw_okq (⟨"LastLentModel", "beginImages", "()V"⟩, 48) := ⟨⟨by decide +kernel, by decide +kernel⟩, List.mem_of_getElem? (i := 793) (by decide +kernel), List.mem_of_getElem? (i := 819) (by decide +kernel), List.mem_of_getElem? (i := 820) (by decide +kernel)⟩
theorem lw_p46 : lw_okq (⟨"LastLentModel", "here", "()I"⟩, 48) := ⟨⟨by decide +kernel, by decide +kernel⟩, List.mem_of_getElem? (i := 793) (by decide +kernel), List.mem_of_getElem? (i := 985) (by decide +kernel), List.mem_of_getElem? (i := 986) (by decide +kernel)⟩
theorem lw_p47 : lw_okq (⟨"LastLentModel", "takeClause", "()I"⟩, 48) := ⟨⟨by decide +kernel, by decide +kernel⟩, List.mem_of_getElem? (i := 793) (by decide +kernel), List.mem_of_getElem? (i := 989) (by decide +kernel), List.mem_of_getElem? (i := 990) (by decide +kernel)⟩
def lw_privs_3 : List (MethodName × Nat) := [(⟨"LastLent$PayOut", "swapFunds", "(II)V"⟩, 16), (⟨"LastLent$PayOut", "paidForShip", "([I[I)I"⟩, 16), (⟨"LastLent", "holdingWithout", "(IIIII)I"⟩, 10), (⟨"LastLent", "canSailAgain", "(II)Z"⟩, 10), (⟨"LastLent", "supposeVoyage", "(IIIII)V"⟩, 10), (⟨"LastLent", "wiseFor", "(I)I"⟩, 10), (⟨"LastLent", "worthFor", "(II)I"⟩, 10), (⟨"LastLent", "hangsOn", "(IIIII)I"⟩, 10), (⟨"LastLentModel", "bare", "()V"⟩, 48), (⟨"LastLentModel", "keepLaw", "(I)V"⟩, 48), (⟨"LastLentModel", "findRanks", "(I)V"⟩, 48), (⟨"LastLentModel", "areAlike", "(III)Z"⟩, 48), (⟨"LastLentModel", "levelRanks", "(I)V"⟩, 48), (⟨"LastLentModel", "beginImages", "()V"⟩, 48), (⟨"LastLentModel", "here", "()I"⟩, 48), (⟨"LastLentModel", "takeClause", "()I"⟩, 48)]
theorem lw_r3 : ∀ q ∈ lw_privs_3, lw_okq q := List.forall_mem_cons.mpr ⟨lw_p32, List.forall_mem_cons.mpr ⟨lw_p33, List.forall_mem_cons.mpr ⟨lw_p34, List.forall_mem_cons.mpr ⟨lw_p35, List.forall_mem_cons.mpr ⟨lw_p36, List.forall_mem_cons.mpr ⟨lw_p37, List.forall_mem_cons.mpr ⟨lw_p38, List.forall_mem_cons.mpr ⟨lw_p39, List.forall_mem_cons.mpr ⟨lw_p40, List.forall_mem_cons.mpr ⟨lw_p41, List.forall_mem_cons.mpr ⟨lw_p42, List.forall_mem_cons.mpr ⟨lw_p43, List.forall_mem_cons.mpr ⟨lw_p44, List.forall_mem_cons.mpr ⟨lw_p45, List.forall_mem_cons.mpr ⟨lw_p46, List.forall_mem_cons.mpr ⟨lw_p47, fun _ h => absurd h List.not_mem_nil⟩⟩⟩⟩⟩⟩⟩⟩⟩⟩⟩⟩⟩⟩⟩⟩
theorem lw_p48 : lw_okq (⟨"LastLentModel", "readWord", "()V"⟩, 48) := ⟨⟨by decide +kernel, by decide +kernel⟩, List.mem_of_getElem? (i := 793) (by decide +kernel), List.mem_of_getElem? (i := 993) (by decide +kernel), List.mem_of_getElem? (i := 994) (by decide +kernel)⟩
theorem lw_p49 : lw_okq (⟨"LastLentModel", "clauseOf", "()I"⟩, 48) := ⟨⟨by decide +kernel, by decide +kernel⟩, List.mem_of_getElem? (i := 793) (by decide +kernel), List.mem_of_getElem? (i := 1003) (by decide +kernel), List.mem_of_getElem? (i := 1004) (by decide +kernel)⟩
theorem lw_p50 : lw_okq (⟨"LastLentModel", "fails", "(II)I"⟩, 48) := ⟨⟨by decide +kernel, by decide +kernel⟩, List.mem_of_getElem? (i := 793) (by decide +kernel), List.mem_of_getElem? (i := 1013) (by decide +kernel), List.mem_of_getElem? (i := 1014) (by decide +kernel)⟩
theorem lw_p51 : lw_okq (⟨"LastLentModel", "takeRides", "()I"⟩, 48) := ⟨⟨by decide +kernel, by decide +kernel⟩, List.mem_of_getElem? (i := 793) (by decide +kernel), List.mem_of_getElem? (i := 1017) (by decide +kernel), List.mem_of_getElem? (i := 1018) (by decide +kernel)⟩
theorem lw_p52 : lw_okq (⟨"LastLentModel", "takeKind", "()I"⟩, 48) := ⟨⟨by decide +kernel, by decide +kernel⟩, List.mem_of_getElem? (i := 793) (by decide +kernel), List.mem_of_getElem? (i := 1021) (by decide +kernel), List.mem_of_getElem? (i := 1022) (by decide +kernel)⟩
theorem lw_p53 : lw_okq (⟨"LastLentModel", "kindOf", "()I"⟩, 48) := ⟨⟨by decide +kernel, by decide +kernel⟩, List.mem_of_getElem? (i := 793) (by decide +kernel), List.mem_of_getElem? (i := 1025) (by decide +kernel), List.mem_of_getElem? (i := 1026) (by decide +kernel)⟩
theorem lw_p54 : lw_okq (⟨"LastLentModel", "fundOf", "()I"⟩, 48) := ⟨⟨by decide +kernel, by decide +kernel⟩, List.mem_of_getElem? (i := 793) (by decide +kernel), List.mem_of_getElem? (i := 1029) (by decide +kernel), List.mem_of_getElem? (i := 1030) (by decide +kernel)⟩
theorem lw_p55 : lw_okq (⟨"LastLentModel", "takeAhead", "(I)I"⟩, 48) := ⟨⟨by decide +kernel, by decide +kernel⟩, List.mem_of_getElem? (i := 793) (by decide +kernel), List.mem_of_getElem? (i := 1033) (by decide +kernel), List.mem_of_getElem? (i := 1034) (by decide +kernel)⟩
theorem lw_p56 : lw_okq (⟨"LastLentModel", "takeOnce", "(II)I"⟩, 48) := ⟨⟨by decide +kernel, by decide +kernel⟩, List.mem_of_getElem? (i := 793) (by decide +kernel), List.mem_of_getElem? (i := 1037) (by decide +kernel), List.mem_of_getElem? (i := 1038) (by decide +kernel)⟩
theorem lw_p57 : lw_okq (⟨"LastLentModel", "takeNumber", "(II)I"⟩, 48) := ⟨⟨by decide +kernel, by decide +kernel⟩, List.mem_of_getElem? (i := 793) (by decide +kernel), List.mem_of_getElem? (i := 1041) (by decide +kernel), List.mem_of_getElem? (i := 1042) (by decide +kernel)⟩
theorem lw_p58 : lw_okq (⟨"LastLentModel", "withinOf", "()I"⟩, 48) := ⟨⟨by decide +kernel, by decide +kernel⟩, List.mem_of_getElem? (i := 793) (by decide +kernel), List.mem_of_getElem? (i := 1047) (by decide +kernel), List.mem_of_getElem? (i := 1048) (by decide +kernel)⟩
theorem lw_p59 : lw_okq (⟨"LastLentModel", "takeOfKind", "(I)I"⟩, 48) := ⟨⟨by decide +kernel, by decide +kernel⟩, List.mem_of_getElem? (i := 793) (by decide +kernel), List.mem_of_getElem? (i := 1051) (by decide +kernel), List.mem_of_getElem? (i := 1052) (by decide +kernel)⟩
theorem lw_p60 : lw_okq (⟨"LastLentModel", "ring", "(I)I"⟩, 48) := ⟨⟨by decide +kernel, by decide +kernel⟩, List.mem_of_getElem? (i := 793) (by decide +kernel), List.mem_of_getElem? (i := 1067) (by decide +kernel), List.mem_of_getElem? (i := 1068) (by decide +kernel)⟩
theorem lw_p61 : lw_okq (⟨"LastLentModel", "putClaim", "(IIIIZI)V"⟩, 48) := ⟨⟨by decide +kernel, by decide +kernel⟩, List.mem_of_getElem? (i := 793) (by decide +kernel), List.mem_of_getElem? (i := 1096) (by decide +kernel), List.mem_of_getElem? (i := 1097) (by decide +kernel)⟩
theorem lw_p62 : lw_okq (⟨"LastLentModel", "isClaim", "(I)Z"⟩, 48) := ⟨⟨by decide +kernel, by decide +kernel⟩, List.mem_of_getElem? (i := 793) (by decide +kernel), List.mem_of_getElem? (i := 1104) (by decide +kernel), List.mem_of_getElem? (i := 1105) (by decide +kernel)⟩
theorem lw_p63 : lw_okq (⟨"LastLentModel", "voyageOf", "(I)I"⟩, 48) := ⟨⟨by decide +kernel, by decide +kernel⟩, List.mem_of_getElem? (i := 793) (by decide +kernel), List.mem_of_getElem? (i := 1133) (by decide +kernel), List.mem_of_getElem? (i := 1134) (by decide +kernel)⟩
def lw_privs_4 : List (MethodName × Nat) := [(⟨"LastLentModel", "readWord", "()V"⟩, 48), (⟨"LastLentModel", "clauseOf", "()I"⟩, 48), (⟨"LastLentModel", "fails", "(II)I"⟩, 48), (⟨"LastLentModel", "takeRides", "()I"⟩, 48), (⟨"LastLentModel", "takeKind", "()I"⟩, 48), (⟨"LastLentModel", "kindOf", "()I"⟩, 48), (⟨"LastLentModel", "fundOf", "()I"⟩, 48), (⟨"LastLentModel", "takeAhead", "(I)I"⟩, 48), (⟨"LastLentModel", "takeOnce", "(II)I"⟩, 48), (⟨"LastLentModel", "takeNumber", "(II)I"⟩, 48), (⟨"LastLentModel", "withinOf", "()I"⟩, 48), (⟨"LastLentModel", "takeOfKind", "(I)I"⟩, 48), (⟨"LastLentModel", "ring", "(I)I"⟩, 48), (⟨"LastLentModel", "putClaim", "(IIIIZI)V"⟩, 48), (⟨"LastLentModel", "isClaim", "(I)Z"⟩, 48), (⟨"LastLentModel", "voyageOf", "(I)I"⟩, 48)]
theorem lw_r4 : ∀ q ∈ lw_privs_4, lw_okq q := List.forall_mem_cons.mpr ⟨lw_p48, List.forall_mem_cons.mpr ⟨lw_p49, List.forall_mem_cons.mpr ⟨lw_p50, List.forall_mem_cons.mpr ⟨lw_p51, List.forall_mem_cons.mpr ⟨lw_p52, List.forall_mem_cons.mpr ⟨lw_p53, List.forall_mem_cons.mpr ⟨lw_p54, List.forall_mem_cons.mpr ⟨lw_p55, List.forall_mem_cons.mpr ⟨lw_p56, List.forall_mem_cons.mpr ⟨lw_p57, List.forall_mem_cons.mpr ⟨lw_p58, List.forall_mem_cons.mpr ⟨lw_p59, List.forall_mem_cons.mpr ⟨lw_p60, List.forall_mem_cons.mpr ⟨lw_p61, List.forall_mem_cons.mpr ⟨lw_p62, List.forall_mem_cons.mpr ⟨lw_p63, fun _ h => absurd h List.not_mem_nil⟩⟩⟩⟩⟩⟩⟩⟩⟩⟩⟩⟩⟩⟩⟩⟩
theorem lw_p64 : lw_okq (⟨"LastLentModel", "why", "(III)I"⟩, 48) := ⟨⟨by decide +kernel, by decide +kernel⟩, List.mem_of_getElem? (i := 793) (by decide +kernel), List.mem_of_getElem? (i := 1145) (by decide +kernel), List.mem_of_getElem? (i := 1146) (by decide +kernel)⟩
theorem lw_p65 : lw_okq (⟨"LastLentModel", "order2", "(III)I"⟩, 48) := ⟨⟨by decide +kernel, by decide +kernel⟩, List.mem_of_getElem? (i := 793) (by decide +kernel), List.mem_of_getElem? (i := 1157) (by decide +kernel), List.mem_of_getElem? (i := 1158) (by decide +kernel)⟩
theorem lw_p66 : lw_okq (⟨"LastLentModel", "isThere", "(IIII)Z"⟩, 48) := ⟨⟨by decide +kernel, by decide +kernel⟩, List.mem_of_getElem? (i := 793) (by decide +kernel), List.mem_of_getElem? (i := 1165) (by decide +kernel), List.mem_of_getElem? (i := 1166) (by decide +kernel)⟩
theorem lw_p67 : lw_okq (⟨"LastLentModel", "isOn", "(III)Z"⟩, 48) := ⟨⟨by decide +kernel, by decide +kernel⟩, List.mem_of_getElem? (i := 793) (by decide +kernel), List.mem_of_getElem? (i := 1169) (by decide +kernel), List.mem_of_getElem? (i := 1170) (by decide +kernel)⟩
theorem lw_p68 : lw_okq (⟨"LastLentModel", "payOut", "(III)V"⟩, 48) := ⟨⟨by decide +kernel, by decide +kernel⟩, List.mem_of_getElem? (i := 793) (by decide +kernel), List.mem_of_getElem? (i := 1180) (by decide +kernel), List.mem_of_getElem? (i := 1181) (by decide +kernel)⟩
theorem lw_p69 : lw_okq (⟨"LastLentModel", "payAll", "(II)I"⟩, 48) := ⟨⟨by decide +kernel, by decide +kernel⟩, List.mem_of_getElem? (i := 793) (by decide +kernel), List.mem_of_getElem? (i := 1184) (by decide +kernel), List.mem_of_getElem? (i := 1185) (by decide +kernel)⟩
theorem lw_p70 : lw_okq (⟨"LastLentModel", "findStep", "(III)I"⟩, 48) := ⟨⟨by decide +kernel, by decide +kernel⟩, List.mem_of_getElem? (i := 793) (by decide +kernel), List.mem_of_getElem? (i := 1188) (by decide +kernel), List.mem_of_getElem? (i := 1189) (by decide +kernel)⟩
theorem lw_p71 : lw_okq (⟨"LastLentModel", "isWanting", "(IIII)Z"⟩, 48) := ⟨⟨by decide +kernel, by decide +kernel⟩, List.mem_of_getElem? (i := 793) (by decide +kernel), List.mem_of_getElem? (i := 1192) (by decide +kernel), List.mem_of_getElem? (i := 1193) (by decide +kernel)⟩
theorem lw_p72 : lw_okq (⟨"LastLentModel", "wants", "(I)I"⟩, 48) := ⟨⟨by decide +kernel, by decide +kernel⟩, List.mem_of_getElem? (i := 793) (by decide +kernel), List.mem_of_getElem? (i := 1196) (by decide +kernel), List.mem_of_getElem? (i := 1197) (by decide +kernel)⟩
theorem lw_p73 : lw_okq (⟨"LastLentModel", "payStep", "(III)V"⟩, 48) := ⟨⟨by decide +kernel, by decide +kernel⟩, List.mem_of_getElem? (i := 793) (by decide +kernel), List.mem_of_getElem? (i := 1200) (by decide +kernel), List.mem_of_getElem? (i := 1201) (by decide +kernel)⟩
theorem lw_p74 : lw_okq (⟨"LastLentModel", "pay", "(IIII)V"⟩, 48) := ⟨⟨by decide +kernel, by decide +kernel⟩, List.mem_of_getElem? (i := 793) (by decide +kernel), List.mem_of_getElem? (i := 1204) (by decide +kernel), List.mem_of_getElem? (i := 1205) (by decide +kernel)⟩
theorem lw_p75 : lw_okq (⟨"LastLentModel", "having", "(I)I"⟩, 48) := ⟨⟨by decide +kernel, by decide +kernel⟩, List.mem_of_getElem? (i := 793) (by decide +kernel), List.mem_of_getElem? (i := 1216) (by decide +kernel), List.mem_of_getElem? (i := 1217) (by decide +kernel)⟩
theorem lw_p76 : lw_okq (⟨"LastLentModel", "hanging", "(IIIII)I"⟩, 48) := ⟨⟨by decide +kernel, by decide +kernel⟩, List.mem_of_getElem? (i := 793) (by decide +kernel), List.mem_of_getElem? (i := 1254) (by decide +kernel), List.mem_of_getElem? (i := 1255) (by decide +kernel)⟩
def lw_privs_5 : List (MethodName × Nat) := [(⟨"LastLentModel", "why", "(III)I"⟩, 48), (⟨"LastLentModel", "order2", "(III)I"⟩, 48), (⟨"LastLentModel", "isThere", "(IIII)Z"⟩, 48), (⟨"LastLentModel", "isOn", "(III)Z"⟩, 48), (⟨"LastLentModel", "payOut", "(III)V"⟩, 48), (⟨"LastLentModel", "payAll", "(II)I"⟩, 48), (⟨"LastLentModel", "findStep", "(III)I"⟩, 48), (⟨"LastLentModel", "isWanting", "(IIII)Z"⟩, 48), (⟨"LastLentModel", "wants", "(I)I"⟩, 48), (⟨"LastLentModel", "payStep", "(III)V"⟩, 48), (⟨"LastLentModel", "pay", "(IIII)V"⟩, 48), (⟨"LastLentModel", "having", "(I)I"⟩, 48), (⟨"LastLentModel", "hanging", "(IIIII)I"⟩, 48)]
theorem lw_r5 : ∀ q ∈ lw_privs_5, lw_okq q := List.forall_mem_cons.mpr ⟨lw_p64, List.forall_mem_cons.mpr ⟨lw_p65, List.forall_mem_cons.mpr ⟨lw_p66, List.forall_mem_cons.mpr ⟨lw_p67, List.forall_mem_cons.mpr ⟨lw_p68, List.forall_mem_cons.mpr ⟨lw_p69, List.forall_mem_cons.mpr ⟨lw_p70, List.forall_mem_cons.mpr ⟨lw_p71, List.forall_mem_cons.mpr ⟨lw_p72, List.forall_mem_cons.mpr ⟨lw_p73, List.forall_mem_cons.mpr ⟨lw_p74, List.forall_mem_cons.mpr ⟨lw_p75, List.forall_mem_cons.mpr ⟨lw_p76, fun _ h => absurd h List.not_mem_nil⟩⟩⟩⟩⟩⟩⟩⟩⟩⟩⟩⟩⟩
def lw_privs : List (MethodName × Nat) := lw_privs_1 ++ (lw_privs_2 ++ (lw_privs_3 ++ (lw_privs_4 ++ (lw_privs_5))))
def lw_tbl : List Cond := k2_sels lw_privs ++ tables_1
theorem lw_privs_ok : ∀ q ∈ lw_privs, lw_okq q := by
  show ∀ q ∈ lw_privs_1 ++ (lw_privs_2 ++ (lw_privs_3 ++ (lw_privs_4 ++ (lw_privs_5)))), lw_okq q
  exact List.forall_mem_append.mpr ⟨lw_r1, List.forall_mem_append.mpr ⟨lw_r2, List.forall_mem_append.mpr ⟨lw_r3, List.forall_mem_append.mpr ⟨lw_r4, lw_r5⟩⟩⟩⟩
end
section
def RX0 : String := "LastLent$Law"
def TX0 : u_T := fun k => match k with
  | 0 => ("LastLent$Law", "rides", "[I", true)
  | 1 => ("LastLent$Law", "dies", "[I", true)
  | 2 => ("LastLent$Law", "aheadOf", "[I", true)
  | 3 => ("LastLent$Law", "ranks", "[I", true)
  | 4 => ("LastLent$Law", "firsts", "I", false)
  | 5 => ("LastLent$Law", "behinds", "I", false)
  | 6 => ("LastLent$Law", "needLeave", "I", false)
  | 7 => ("LastLent$Law", "ring", "I", false)
  | 8 => ("LastLent$Law", "aheads", "I", false)
  | 9 => ("LastLent$Law", "within", "I", false)
  | 10 => ("LastLent$Law", "costs", "I", false)
  | 11 => ("LastLent$Law", "laterVoyages", "Z", false)
  | _ => ("LastLent$Law", "sale", "Z", false)
def tyX0 : Nat → FieldType := fun k => match k with
  | 0 => .array .int
  | 1 => .array .int
  | 2 => .array .int
  | 3 => .array .int
  | 4 => .int
  | 5 => .int
  | 6 => .int
  | 7 => .int
  | 8 => .int
  | 9 => .int
  | 10 => .int
  | 11 => .boolean
  | _ => .boolean
abbrev wsX00 : List Cond := u_ws RX0 TX0 13
theorem nmX0 : ∀ a, a < 13 → ∀ b, b < 13 → a ≠ b → (TX0 a).2.1 ≠ (TX0 b).2.1 := by decide +kernel
theorem tyX0_ok : ∀ k, k < 13 → parseFieldDescriptor (TX0 k).2.2.1 = some (tyX0 k) := by decide +kernel
abbrev cX0_init : ByteArray := prog_2_method_1_code
def yX0_init : MethodName := ⟨RX0, "<init>", "()V"⟩
abbrev cX0_tellNothing : ByteArray := prog_2_method_2_code
def yX0_tellNothing : MethodName := ⟨RX0, "tellNothing", "()V"⟩
abbrev cX0_settle : ByteArray := prog_2_method_3_code
def yX0_settle : MethodName := ⟨RX0, "settle", "()V"⟩
abbrev cX0_followSteps : ByteArray := prog_2_method_4_code
def yX0_followSteps : MethodName := ⟨RX0, "followSteps", "()V"⟩
abbrev cX0_raiseRanks : ByteArray := prog_2_method_5_code
def yX0_raiseRanks : MethodName := ⟨RX0, "raiseRanks", "()V"⟩
abbrev cX0_standingOf : ByteArray := prog_2_method_6_code
def yX0_standingOf : MethodName := ⟨RX0, "standingOf", "(III)I"⟩
abbrev cX0_fundsFor : ByteArray := prog_2_method_7_code
def yX0_fundsFor : MethodName := ⟨RX0, "fundsFor", "(II)I"⟩
def RX1 : String := "LastLent$LawText"
def TX1 : u_T := fun k => match k with
  | 0 => ("LastLent$LawText", "bytes", "[I", true)
  | 1 => ("LastLent$LawText", "size", "I", false)
  | 2 => ("LastLent$LawText", "faultNumber", "I", false)
  | 3 => ("LastLent$LawText", "faultPlace", "I", false)
  | 4 => ("LastLent$LawText", "token", "I", false)
  | 5 => ("LastLent$LawText", "start", "I", false)
  | 6 => ("LastLent$LawText", "place", "I", false)
  | 7 => ("LastLent$LawText", "clausesTold", "I", false)
  | _ => ("LastLent$LawText", "ridesTold", "I", false)
def tyX1 : Nat → FieldType := fun k => match k with
  | 0 => .array .int
  | 1 => .int
  | 2 => .int
  | 3 => .int
  | 4 => .int
  | 5 => .int
  | 6 => .int
  | 7 => .int
  | _ => .int
abbrev wsX10 : List Cond := u_ws RX1 TX1 9
theorem nmX1 : ∀ a, a < 9 → ∀ b, b < 9 → a ≠ b → (TX1 a).2.1 ≠ (TX1 b).2.1 := by decide +kernel
theorem tyX1_ok : ∀ k, k < 9 → parseFieldDescriptor (TX1 k).2.2.1 = some (tyX1 k) := by decide +kernel
abbrev cX1_init : ByteArray := prog_3_method_1_code
def yX1_init : MethodName := ⟨RX1, "<init>", "()V"⟩
abbrev cX1_append : ByteArray := prog_3_method_2_code
def yX1_append : MethodName := ⟨RX1, "append", "(I)V"⟩
abbrev cX1_readInto : ByteArray := prog_3_method_3_code
def yX1_readInto : MethodName := ⟨RX1, "readInto", "(LLastLent$Law;)I"⟩
abbrev cX1_beginClause : ByteArray := prog_3_method_4_code
def yX1_beginClause : MethodName := ⟨RX1, "beginClause", "(LLastLent$Law;)I"⟩
abbrev cX1_isOneTooMany : ByteArray := prog_3_method_5_code
def yX1_isOneTooMany : MethodName := ⟨RX1, "isOneTooMany", "(ILLastLent$Law;)Z"⟩
abbrev cX1_readBody : ByteArray := prog_3_method_6_code
def yX1_readBody : MethodName := ⟨RX1, "readBody", "(ILLastLent$Law;)Z"⟩
abbrev cX1_readRides : ByteArray := prog_3_method_7_code
def yX1_readRides : MethodName := ⟨RX1, "readRides", "(LLastLent$Law;)Z"⟩
abbrev cX1_readFund : ByteArray := prog_3_method_8_code
def yX1_readFund : MethodName := ⟨RX1, "readFund", "(LLastLent$Law;I)Z"⟩
abbrev cX1_isFundNext : ByteArray := prog_3_method_9_code
def yX1_isFundNext : MethodName := ⟨RX1, "isFundNext", "()Z"⟩
abbrev cX1_readAhead : ByteArray := prog_3_method_10_code
def yX1_readAhead : MethodName := ⟨RX1, "readAhead", "(LLastLent$Law;)Z"⟩
abbrev cX1_readFirst : ByteArray := prog_3_method_11_code
def yX1_readFirst : MethodName := ⟨RX1, "readFirst", "(LLastLent$Law;)Z"⟩
abbrev cX1_readBehind : ByteArray := prog_3_method_12_code
def yX1_readBehind : MethodName := ⟨RX1, "readBehind", "(LLastLent$Law;)Z"⟩
abbrev cX1_readWithin : ByteArray := prog_3_method_13_code
def yX1_readWithin : MethodName := ⟨RX1, "readWithin", "(LLastLent$Law;)Z"⟩
abbrev cX1_readDies : ByteArray := prog_3_method_14_code
def yX1_readDies : MethodName := ⟨RX1, "readDies", "(LLastLent$Law;)Z"⟩
abbrev cX1_kindsThatDie : ByteArray := prog_3_method_15_code
def yX1_kindsThatDie : MethodName := ⟨RX1, "kindsThatDie", "(LLastLent$Law;)I"⟩
abbrev cX1_readLeave : ByteArray := prog_3_method_16_code
def yX1_readLeave : MethodName := ⟨RX1, "readLeave", "(LLastLent$Law;)Z"⟩
abbrev cX1_readCosts : ByteArray := prog_3_method_17_code
def yX1_readCosts : MethodName := ⟨RX1, "readCosts", "(LLastLent$Law;)Z"⟩
abbrev cX1_readClose : ByteArray := prog_3_method_18_code
def yX1_readClose : MethodName := ⟨RX1, "readClose", "()V"⟩
abbrev cX1_readKind : ByteArray := prog_3_method_19_code
def yX1_readKind : MethodName := ⟨RX1, "readKind", "(I)I"⟩
abbrev cX1_readNumber : ByteArray := prog_3_method_20_code
def yX1_readNumber : MethodName := ⟨RX1, "readNumber", "(I)I"⟩
abbrev cX1_refuse : ByteArray := prog_3_method_21_code
def yX1_refuse : MethodName := ⟨RX1, "refuse", "(I)Z"⟩
abbrev cX1_nextToken : ByteArray := prog_3_method_22_code
def yX1_nextToken : MethodName := ⟨RX1, "nextToken", "()V"⟩
abbrev cX1_isLetter : ByteArray := prog_3_method_23_code
def yX1_isLetter : MethodName := ⟨RX1, "isLetter", "(I)Z"⟩
abbrev cX1_isFigure : ByteArray := prog_3_method_24_code
def yX1_isFigure : MethodName := ⟨RX1, "isFigure", "(I)Z"⟩
abbrev cX1_wordIn : ByteArray := prog_3_method_25_code
def yX1_wordIn : MethodName := ⟨RX1, "wordIn", "(Ljava/lang/String;)I"⟩
abbrev cX1_isWordAt : ByteArray := prog_3_method_26_code
def yX1_isWordAt : MethodName := ⟨RX1, "isWordAt", "(Ljava/lang/String;I)Z"⟩
def RX2 : String := "LastLent$PayOut"
def TX2 : u_T := fun k => match k with
  | 0 => ("LastLent$PayOut", "line", "[I", true)
  | 1 => ("LastLent$PayOut", "lined", "I", false)
  | 2 => ("LastLent$PayOut", "claims", "I", false)
  | 3 => ("LastLent$PayOut", "standings", "[I", true)
  | 4 => ("LastLent$PayOut", "rideSets", "[I", true)
  | 5 => ("LastLent$PayOut", "amounts", "[I", true)
  | 6 => ("LastLent$PayOut", "wants", "[I", true)
  | 7 => ("LastLent$PayOut", "gives", "[I", true)
  | 8 => ("LastLent$PayOut", "sums", "[I", true)
  | 9 => ("LastLent$PayOut", "rests", "[I", true)
  | 10 => ("LastLent$PayOut", "funds", "[I", true)
  | 11 => ("LastLent$PayOut", "bestFunds", "[I", true)
  | 12 => ("LastLent$PayOut", "paidAfter", "[[I", true)
  | 13 => ("LastLent$PayOut", "totalAfter", "[I", true)
  | 14 => ("LastLent$PayOut", "backAsked", "[I", true)
  | _ => ("LastLent$PayOut", "backGiven", "[I", true)
def tyX2 : Nat → FieldType := fun k => match k with
  | 0 => .array .int
  | 1 => .int
  | 2 => .int
  | 3 => .array .int
  | 4 => .array .int
  | 5 => .array .int
  | 6 => .array .int
  | 7 => .array .int
  | 8 => .array .int
  | 9 => .array .int
  | 10 => .array .int
  | 11 => .array .int
  | 12 => .array (.array .int)
  | 13 => .array .int
  | 14 => .array .int
  | _ => .array .int
abbrev wsX20 : List Cond := u_ws RX2 TX2 16
theorem nmX2 : ∀ a, a < 16 → ∀ b, b < 16 → a ≠ b → (TX2 a).2.1 ≠ (TX2 b).2.1 := by decide +kernel
theorem tyX2_ok : ∀ k, k < 16 → parseFieldDescriptor (TX2 k).2.2.1 = some (tyX2 k) := by decide +kernel
abbrev cX2_init : ByteArray := prog_4_method_1_code
def yX2_init : MethodName := ⟨RX2, "<init>", "()V"⟩
abbrev cX2_run : ByteArray := prog_4_method_2_code
def yX2_run : MethodName := ⟨RX2, "run", "(LLastLent$Law;LLastLent$Ship;II)V"⟩
abbrev cX2_lineUp : ByteArray := prog_4_method_3_code
def yX2_lineUp : MethodName := ⟨RX2, "lineUp", "(LLastLent$Law;LLastLent$Ship;I)V"⟩
abbrev cX2_joinLine : ByteArray := prog_4_method_4_code
def yX2_joinLine : MethodName := ⟨RX2, "joinLine", "(I)V"⟩
abbrev cX2_stepOf : ByteArray := prog_4_method_5_code
def yX2_stepOf : MethodName := ⟨RX2, "stepOf", "(II)I"⟩
abbrev cX2_marshal : ByteArray := prog_4_method_6_code
def yX2_marshal : MethodName := ⟨RX2, "marshal", "()V"⟩
abbrev cX2_mostPayable : ByteArray := prog_4_method_7_code
def yX2_mostPayable : MethodName := ⟨RX2, "mostPayable", "()I"⟩
abbrev cX2_wantedOf : ByteArray := prog_4_method_8_code
def yX2_wantedOf : MethodName := ⟨RX2, "wantedOf", "(I)I"⟩
abbrev cX2_nextOrder : ByteArray := prog_4_method_9_code
def yX2_nextOrder : MethodName := ⟨RX2, "nextOrder", "()I"⟩
abbrev cX2_swapFunds : ByteArray := prog_4_method_10_code
def yX2_swapFunds : MethodName := ⟨RX2, "swapFunds", "(II)V"⟩
abbrev cX2_payAllFrom : ByteArray := prog_4_method_11_code
def yX2_payAllFrom : MethodName := ⟨RX2, "payAllFrom", "(I)V"⟩
abbrev cX2_payFund : ByteArray := prog_4_method_12_code
def yX2_payFund : MethodName := ⟨RX2, "payFund", "(I[I)I"⟩
abbrev cX2_share : ByteArray := prog_4_method_13_code
def yX2_share : MethodName := ⟨RX2, "share", "(I[I[III)I"⟩
abbrev cX2_paidTo : ByteArray := prog_4_method_14_code
def yX2_paidTo : MethodName := ⟨RX2, "paidTo", "(I)I"⟩
abbrev cX2_paidInAll : ByteArray := prog_4_method_15_code
def yX2_paidInAll : MethodName := ⟨RX2, "paidInAll", "()I"⟩
abbrev cX2_holding : ByteArray := prog_4_method_16_code
def yX2_holding : MethodName := ⟨RX2, "holding", "(LLastLent$Ship;I)I"⟩
abbrev cX2_giveBack : ByteArray := prog_4_method_17_code
def yX2_giveBack : MethodName := ⟨RX2, "giveBack", "()V"⟩
abbrev cX2_paidForShip : ByteArray := prog_4_method_18_code
def yX2_paidForShip : MethodName := ⟨RX2, "paidForShip", "([I[I)I"⟩
def RX3 : String := "LastLent$Ship"
def TX3 : u_T := fun k => match k with
  | 0 => ("LastLent$Ship", "voyages", "I", false)
  | 1 => ("LastLent$Ship", "claims", "I", false)
  | 2 => ("LastLent$Ship", "leaves", "I", false)
  | 3 => ("LastLent$Ship", "begins", "[I", true)
  | 4 => ("LastLent$Ship", "ends", "[I", true)
  | 5 => ("LastLent$Ship", "kinds", "[I", true)
  | 6 => ("LastLent$Ship", "holders", "[I", true)
  | 7 => ("LastLent$Ship", "days", "[I", true)
  | 8 => ("LastLent$Ship", "amounts", "[I", true)
  | 9 => ("LastLent$Ship", "cargoSets", "[I", true)
  | 10 => ("LastLent$Ship", "asked", "[I", true)
  | 11 => ("LastLent$Ship", "sums", "[I", true)
  | _ => ("LastLent$Ship", "owners", "[I", true)
def tyX3 : Nat → FieldType := fun k => match k with
  | 0 => .int
  | 1 => .int
  | 2 => .int
  | 3 => .array .int
  | 4 => .array .int
  | 5 => .array .int
  | 6 => .array .int
  | 7 => .array .int
  | 8 => .array .int
  | 9 => .array .int
  | 10 => .array .int
  | 11 => .array .int
  | _ => .array .int
abbrev wsX30 : List Cond := u_ws RX3 TX3 13
theorem nmX3 : ∀ a, a < 13 → ∀ b, b < 13 → a ≠ b → (TX3 a).2.1 ≠ (TX3 b).2.1 := by decide +kernel
theorem tyX3_ok : ∀ k, k < 13 → parseFieldDescriptor (TX3 k).2.2.1 = some (tyX3 k) := by decide +kernel
abbrev cX3_init : ByteArray := prog_5_method_1_code
def yX3_init : MethodName := ⟨RX3, "<init>", "()V"⟩
abbrev cX3_become : ByteArray := prog_5_method_2_code
def yX3_become : MethodName := ⟨RX3, "become", "(LLastLent$Ship;)V"⟩
abbrev cX3_addVoyage : ByteArray := prog_5_method_3_code
def yX3_addVoyage : MethodName := ⟨RX3, "addVoyage", "(II)I"⟩
abbrev cX3_addClaim : ByteArray := prog_5_method_4_code
def yX3_addClaim : MethodName := ⟨RX3, "addClaim", "(IIIIZI)I"⟩
abbrev cX3_takeAway : ByteArray := prog_5_method_5_code
def yX3_takeAway : MethodName := ⟨RX3, "takeAway", "(I)V"⟩
abbrev cX3_lastEnd : ByteArray := prog_5_method_6_code
def yX3_lastEnd : MethodName := ⟨RX3, "lastEnd", "()I"⟩
abbrev cX3_voyageOf : ByteArray := prog_5_method_7_code
def yX3_voyageOf : MethodName := ⟨RX3, "voyageOf", "(I)I"⟩
abbrev cX3_standing : ByteArray := prog_5_method_8_code
def yX3_standing : MethodName := ⟨RX3, "standing", "(LLastLent$Law;I)I"⟩
abbrev cX3_whyDead : ByteArray := prog_5_method_9_code
def yX3_whyDead : MethodName := ⟨RX3, "whyDead", "(LLastLent$Law;II)I"⟩
abbrev cX3_lastAlive : ByteArray := prog_5_method_10_code
def yX3_lastAlive : MethodName := ⟨RX3, "lastAlive", "(LLastLent$Law;I)I"⟩
abbrev cX3_lastUnbarred : ByteArray := prog_5_method_11_code
def yX3_lastUnbarred : MethodName := ⟨RX3, "lastUnbarred", "(LLastLent$Law;I)I"⟩
abbrev cX3_lacksLeave : ByteArray := prog_5_method_12_code
def yX3_lacksLeave : MethodName := ⟨RX3, "lacksLeave", "(LLastLent$Law;I)Z"⟩
def RX4 : String := "LastLent"
def TX4 : u_T := fun k => match k with
  | 0 => ("LastLent", "laws", "[LLastLent$Law;", true)
  | 1 => ("LastLent", "text", "LLastLent$LawText;", true)
  | 2 => ("LastLent", "ship", "LLastLent$Ship;", true)
  | 3 => ("LastLent", "supposed", "LLastLent$Ship;", true)
  | 4 => ("LastLent", "images", "[LLastLent$Ship;", true)
  | 5 => ("LastLent", "kept", "[Z", true)
  | 6 => ("LastLent", "payOut", "LLastLent$PayOut;", true)
  | 7 => ("LastLent", "paidBefore", "[I", true)
  | 8 => ("LastLent", "hadBefore", "[I", true)
  | _ => ("LastLent", "draft", "LLastLent$Law;", false)
def tyX4 : Nat → FieldType := fun k => match k with
  | 0 => .array (.object "LastLent$Law")
  | 1 => .object "LastLent$LawText"
  | 2 => .object "LastLent$Ship"
  | 3 => .object "LastLent$Ship"
  | 4 => .array (.object "LastLent$Ship")
  | 5 => .array .boolean
  | 6 => .object "LastLent$PayOut"
  | 7 => .array .int
  | 8 => .array .int
  | _ => .object "LastLent$Law"
abbrev wsX40 : List Cond := u_ws RX4 TX4 10
theorem nmX4 : ∀ a, a < 10 → ∀ b, b < 10 → a ≠ b → (TX4 a).2.1 ≠ (TX4 b).2.1 := by decide +kernel
theorem tyX4_ok : ∀ k, k < 10 → parseFieldDescriptor (TX4 k).2.2.1 = some (tyX4 k) := by decide +kernel
abbrev cX4_init : ByteArray := prog_1_method_1_code
def yX4_init : MethodName := ⟨RX4, "<init>", "()V"⟩
abbrev cX4_feed : ByteArray := prog_1_method_2_code
def yX4_feed : MethodName := ⟨RX4, "feed", "(IJ)I"⟩
abbrev cX4_law : ByteArray := prog_1_method_3_code
def yX4_law : MethodName := ⟨RX4, "law", "(I)I"⟩
abbrev cX4_fault : ByteArray := prog_1_method_4_code
def yX4_fault : MethodName := ⟨RX4, "fault", "()I"⟩
abbrev cX4_kind : ByteArray := prog_1_method_5_code
def yX4_kind : MethodName := ⟨RX4, "kind", "(III)I"⟩
abbrev cX4_rule : ByteArray := prog_1_method_6_code
def yX4_rule : MethodName := ⟨RX4, "rule", "(II)I"⟩
abbrev cX4_goes : ByteArray := prog_1_method_7_code
def yX4_goes : MethodName := ⟨RX4, "goes", "(III)I"⟩
abbrev cX4_voyage : ByteArray := prog_1_method_8_code
def yX4_voyage : MethodName := ⟨RX4, "voyage", "(II)I"⟩
abbrev cX4_claim : ByteArray := prog_1_method_9_code
def yX4_claim : MethodName := ⟨RX4, "claim", "(IIIIZI)I"⟩
abbrev cX4_ask : ByteArray := prog_1_method_10_code
def yX4_ask : MethodName := ⟨RX4, "ask", "(II)I"⟩
abbrev cX4_fund : ByteArray := prog_1_method_11_code
def yX4_fund : MethodName := ⟨RX4, "fund", "(II)I"⟩
abbrev cX4_owner : ByteArray := prog_1_method_12_code
def yX4_owner : MethodName := ⟨RX4, "owner", "(II)I"⟩
abbrev cX4_pass : ByteArray := prog_1_method_13_code
def yX4_pass : MethodName := ⟨RX4, "pass", "(II)I"⟩
abbrev cX4_told : ByteArray := prog_1_method_14_code
def yX4_told : MethodName := ⟨RX4, "told", "(II)I"⟩
abbrev cX4_count : ByteArray := prog_1_method_15_code
def yX4_count : MethodName := ⟨RX4, "count", "(I)I"⟩
abbrev cX4_lives : ByteArray := prog_1_method_16_code
def yX4_lives : MethodName := ⟨RX4, "lives", "(III)I"⟩
abbrev cX4_last : ByteArray := prog_1_method_17_code
def yX4_last : MethodName := ⟨RX4, "last", "(II)I"⟩
abbrev cX4_ahead : ByteArray := prog_1_method_18_code
def yX4_ahead : MethodName := ⟨RX4, "ahead", "(III)I"⟩
abbrev cX4_step : ByteArray := prog_1_method_19_code
def yX4_step : MethodName := ⟨RX4, "step", "(IIII)I"⟩
abbrev cX4_paid : ByteArray := prog_1_method_20_code
def yX4_paid : MethodName := ⟨RX4, "paid", "(IIII)I"⟩
abbrev cX4_left : ByteArray := prog_1_method_21_code
def yX4_left : MethodName := ⟨RX4, "left", "(IIII)I"⟩
abbrev cX4_has : ByteArray := prog_1_method_22_code
def yX4_has : MethodName := ⟨RX4, "has", "(IIII)I"⟩
abbrev cX4_order : ByteArray := prog_1_method_23_code
def yX4_order : MethodName := ⟨RX4, "order", "(IIII)I"⟩
abbrev cX4_back : ByteArray := prog_1_method_24_code
def yX4_back : MethodName := ⟨RX4, "back", "(IIIII)I"⟩
abbrev cX4_wake : ByteArray := prog_1_method_25_code
def yX4_wake : MethodName := ⟨RX4, "wake", "(IIIII)I"⟩
abbrev cX4_best : ByteArray := prog_1_method_26_code
def yX4_best : MethodName := ⟨RX4, "best", "(IIII)I"⟩
abbrev cX4_buy : ByteArray := prog_1_method_27_code
def yX4_buy : MethodName := ⟨RX4, "buy", "(IIIIII)I"⟩
abbrev cX4_clear : ByteArray := prog_1_method_28_code
def yX4_clear : MethodName := ⟨RX4, "clear", "(IIIII)I"⟩
abbrev cX4_more : ByteArray := prog_1_method_29_code
def yX4_more : MethodName := ⟨RX4, "more", "(IIIIIIIII)I"⟩
abbrev cX4_hang : ByteArray := prog_1_method_30_code
def yX4_hang : MethodName := ⟨RX4, "hang", "(IIIII)I"⟩
abbrev cX4_keep : ByteArray := prog_1_method_31_code
def yX4_keep : MethodName := ⟨RX4, "keep", "(I)I"⟩
abbrev cX4_goBack : ByteArray := prog_1_method_32_code
def yX4_goBack : MethodName := ⟨RX4, "goBack", "(I)I"⟩
abbrev cX4_holdingWithout : ByteArray := prog_1_method_33_code
def yX4_holdingWithout : MethodName := ⟨RX4, "holdingWithout", "(IIIII)I"⟩
abbrev cX4_canSailAgain : ByteArray := prog_1_method_34_code
def yX4_canSailAgain : MethodName := ⟨RX4, "canSailAgain", "(II)Z"⟩
abbrev cX4_supposeVoyage : ByteArray := prog_1_method_35_code
def yX4_supposeVoyage : MethodName := ⟨RX4, "supposeVoyage", "(IIIII)V"⟩
abbrev cX4_worthFor : ByteArray := prog_1_method_36_code
def yX4_worthFor : MethodName := ⟨RX4, "worthFor", "(II)I"⟩
abbrev cX4_wiseFor : ByteArray := prog_1_method_37_code
def yX4_wiseFor : MethodName := ⟨RX4, "wiseFor", "(I)I"⟩
abbrev cX4_hangsOn : ByteArray := prog_1_method_38_code
def yX4_hangsOn : MethodName := ⟨RX4, "hangsOn", "(IIIII)I"⟩
abbrev cX4_isLand : ByteArray := prog_1_method_39_code
def yX4_isLand : MethodName := ⟨RX4, "isLand", "(I)Z"⟩
abbrev cX4_isKind : ByteArray := prog_1_method_40_code
def yX4_isKind : MethodName := ⟨RX4, "isKind", "(I)Z"⟩
abbrev cX4_isHolder : ByteArray := prog_1_method_41_code
def yX4_isHolder : MethodName := ⟨RX4, "isHolder", "(I)Z"⟩
abbrev cX4_isFund : ByteArray := prog_1_method_42_code
def yX4_isFund : MethodName := ⟨RX4, "isFund", "(I)Z"⟩
abbrev cX4_isCargo : ByteArray := prog_1_method_43_code
def yX4_isCargo : MethodName := ⟨RX4, "isCargo", "(I)Z"⟩
abbrev cX4_isImage : ByteArray := prog_1_method_44_code
def yX4_isImage : MethodName := ⟨RX4, "isImage", "(I)Z"⟩
abbrev cX4_isDay : ByteArray := prog_1_method_45_code
def yX4_isDay : MethodName := ⟨RX4, "isDay", "(I)Z"⟩
abbrev cX4_isWay : ByteArray := prog_1_method_46_code
def yX4_isWay : MethodName := ⟨RX4, "isWay", "(I)Z"⟩
abbrev cX4_isClaim : ByteArray := prog_1_method_47_code
def yX4_isClaim : MethodName := ⟨RX4, "isClaim", "(I)Z"⟩
abbrev cX4_bit : ByteArray := prog_1_method_48_code
def yX4_bit : MethodName := ⟨RX4, "bit", "(II)I"⟩
abbrev cX4_sumOf : ByteArray := prog_1_method_49_code
def yX4_sumOf : MethodName := ⟨RX4, "sumOf", "([II)I"⟩
abbrev cX4_copyRow : ByteArray := prog_1_method_50_code
def yX4_copyRow : MethodName := ⟨RX4, "copyRow", "([I[I)V"⟩
def RX5 : String := "LastLentModel"
def TX5 : u_T := fun k => match k with
  | 0 => ("LastLentModel", "rides", "[I", true)
  | 1 => ("LastLentModel", "sides", "[I", true)
  | 2 => ("LastLentModel", "dies", "[I", true)
  | 3 => ("LastLentModel", "isLeave", "[Z", true)
  | 4 => ("LastLentModel", "steps", "[Z", true)
  | 5 => ("LastLentModel", "rules", "[I", true)
  | 6 => ("LastLentModel", "readRides", "[I", true)
  | 7 => ("LastLentModel", "readSides", "[I", true)
  | 8 => ("LastLentModel", "readDies", "[I", true)
  | 9 => ("LastLentModel", "readLeave", "[Z", true)
  | 10 => ("LastLentModel", "readSteps", "[Z", true)
  | 11 => ("LastLentModel", "readRules", "[I", true)
  | 12 => ("LastLentModel", "text", "[I", true)
  | 13 => ("LastLentModel", "texted", "I", false)
  | 14 => ("LastLentModel", "faultPlace", "I", false)
  | 15 => ("LastLentModel", "at0", "I", false)
  | 16 => ("LastLentModel", "word", "J", false)
  | 17 => ("LastLentModel", "wordEnd", "I", false)
  | 18 => ("LastLentModel", "number", "I", false)
  | 19 => ("LastLentModel", "kindRead", "I", false)
  | 20 => ("LastLentModel", "kindAt", "I", false)
  | 21 => ("LastLentModel", "onceTold", "I", false)
  | 22 => ("LastLentModel", "single", "[Z", true)
  | 23 => ("LastLentModel", "ranks", "[I", true)
  | 24 => ("LastLentModel", "voyages", "I", false)
  | 25 => ("LastLentModel", "begins", "[I", true)
  | 26 => ("LastLentModel", "endsOn", "[I", true)
  | 27 => ("LastLentModel", "claims", "I", false)
  | 28 => ("LastLentModel", "kinds", "[I", true)
  | 29 => ("LastLentModel", "holders", "[I", true)
  | 30 => ("LastLentModel", "days", "[I", true)
  | 31 => ("LastLentModel", "amounts", "[I", true)
  | 32 => ("LastLentModel", "hasLeave", "[Z", true)
  | 33 => ("LastLentModel", "cargoes", "[I", true)
  | 34 => ("LastLentModel", "asked", "[I", true)
  | 35 => ("LastLentModel", "isGone", "[Z", true)
  | 36 => ("LastLentModel", "sums", "[I", true)
  | 37 => ("LastLentModel", "owners", "[I", true)
  | 38 => ("LastLentModel", "paids", "[I", true)
  | 39 => ("LastLentModel", "lefts", "[I", true)
  | 40 => ("LastLentModel", "orders", "[I", true)
  | 41 => ("LastLentModel", "lents", "[I", true)
  | 42 => ("LastLentModel", "inStep", "[Z", true)
  | 43 => ("LastLentModel", "bestOrder", "[I", true)
  | 44 => ("LastLentModel", "hadNow", "[I", true)
  | 45 => ("LastLentModel", "paidNow", "[I", true)
  | 46 => ("LastLentModel", "images", "[I", true)
  | _ => ("LastLentModel", "isKept", "[Z", true)
def tyX5 : Nat → FieldType := fun k => match k with
  | 0 => .array .int
  | 1 => .array .int
  | 2 => .array .int
  | 3 => .array .boolean
  | 4 => .array .boolean
  | 5 => .array .int
  | 6 => .array .int
  | 7 => .array .int
  | 8 => .array .int
  | 9 => .array .boolean
  | 10 => .array .boolean
  | 11 => .array .int
  | 12 => .array .int
  | 13 => .int
  | 14 => .int
  | 15 => .int
  | 16 => .long
  | 17 => .int
  | 18 => .int
  | 19 => .int
  | 20 => .int
  | 21 => .int
  | 22 => .array .boolean
  | 23 => .array .int
  | 24 => .int
  | 25 => .array .int
  | 26 => .array .int
  | 27 => .int
  | 28 => .array .int
  | 29 => .array .int
  | 30 => .array .int
  | 31 => .array .int
  | 32 => .array .boolean
  | 33 => .array .int
  | 34 => .array .int
  | 35 => .array .boolean
  | 36 => .array .int
  | 37 => .array .int
  | 38 => .array .int
  | 39 => .array .int
  | 40 => .array .int
  | 41 => .array .int
  | 42 => .array .boolean
  | 43 => .array .int
  | 44 => .array .int
  | 45 => .array .int
  | 46 => .array .int
  | _ => .array .boolean
abbrev wsX50 : List Cond := u_ws RX5 TX5 48
theorem nmX5 : ∀ a, a < 48 → ∀ b, b < 48 → a ≠ b → (TX5 a).2.1 ≠ (TX5 b).2.1 := by decide +kernel
theorem tyX5_ok : ∀ k, k < 48 → parseFieldDescriptor (TX5 k).2.2.1 = some (tyX5 k) := by decide +kernel
abbrev cX5_init : ByteArray := prog_7_method_1_code
def yX5_init : MethodName := ⟨RX5, "<init>", "()V"⟩
abbrev cX5_in : ByteArray := prog_7_method_3_code
def yX5_in : MethodName := ⟨RX5, "in", "(JJJ)Z"⟩
abbrev cX5_isLand : ByteArray := prog_7_method_4_code
def yX5_isLand : MethodName := ⟨RX5, "isLand", "(I)Z"⟩
abbrev cX5_isKind : ByteArray := prog_7_method_5_code
def yX5_isKind : MethodName := ⟨RX5, "isKind", "(I)Z"⟩
abbrev cX5_isHolder : ByteArray := prog_7_method_6_code
def yX5_isHolder : MethodName := ⟨RX5, "isHolder", "(I)Z"⟩
abbrev cX5_isDay : ByteArray := prog_7_method_7_code
def yX5_isDay : MethodName := ⟨RX5, "isDay", "(I)Z"⟩
abbrev cX5_bare : ByteArray := prog_7_method_8_code
def yX5_bare : MethodName := ⟨RX5, "bare", "()V"⟩
abbrev cX5_keepLaw : ByteArray := prog_7_method_9_code
def yX5_keepLaw : MethodName := ⟨RX5, "keepLaw", "(I)V"⟩
abbrev cX5_feed : ByteArray := prog_7_method_10_code
def yX5_feed : MethodName := ⟨RX5, "feed", "(IJ)I"⟩
abbrev cX5_here : ByteArray := prog_7_method_11_code
def yX5_here : MethodName := ⟨RX5, "here", "()I"⟩
abbrev cX5_fails : ByteArray := prog_7_method_12_code
def yX5_fails : MethodName := ⟨RX5, "fails", "(II)I"⟩
abbrev cX5_readWord : ByteArray := prog_7_method_13_code
def yX5_readWord : MethodName := ⟨RX5, "readWord", "()V"⟩
abbrev cX5_code : ByteArray := prog_7_method_14_code
def yX5_code : MethodName := ⟨RX5, "code", "(IIII)J"⟩
abbrev cX5_longer : ByteArray := prog_7_method_15_code
def yX5_longer : MethodName := ⟨RX5, "longer", "(JI)J"⟩
abbrev cX5_kindOf : ByteArray := prog_7_method_16_code
def yX5_kindOf : MethodName := ⟨RX5, "kindOf", "()I"⟩
abbrev cX5_fundOf : ByteArray := prog_7_method_17_code
def yX5_fundOf : MethodName := ⟨RX5, "fundOf", "()I"⟩
abbrev cX5_withinOf : ByteArray := prog_7_method_18_code
def yX5_withinOf : MethodName := ⟨RX5, "withinOf", "()I"⟩
abbrev cX5_clauseOf : ByteArray := prog_7_method_19_code
def yX5_clauseOf : MethodName := ⟨RX5, "clauseOf", "()I"⟩
abbrev cX5_takeNumber : ByteArray := prog_7_method_20_code
def yX5_takeNumber : MethodName := ⟨RX5, "takeNumber", "(II)I"⟩
abbrev cX5_takeKind : ByteArray := prog_7_method_21_code
def yX5_takeKind : MethodName := ⟨RX5, "takeKind", "()I"⟩
abbrev cX5_takeRides : ByteArray := prog_7_method_22_code
def yX5_takeRides : MethodName := ⟨RX5, "takeRides", "()I"⟩
abbrev cX5_takeAhead : ByteArray := prog_7_method_23_code
def yX5_takeAhead : MethodName := ⟨RX5, "takeAhead", "(I)I"⟩
abbrev cX5_takeOfKind : ByteArray := prog_7_method_24_code
def yX5_takeOfKind : MethodName := ⟨RX5, "takeOfKind", "(I)I"⟩
abbrev cX5_takeOnce : ByteArray := prog_7_method_25_code
def yX5_takeOnce : MethodName := ⟨RX5, "takeOnce", "(II)I"⟩
abbrev cX5_takeClause : ByteArray := prog_7_method_26_code
def yX5_takeClause : MethodName := ⟨RX5, "takeClause", "()I"⟩
abbrev cX5_law : ByteArray := prog_7_method_27_code
def yX5_law : MethodName := ⟨RX5, "law", "(I)I"⟩
abbrev cX5_fault : ByteArray := prog_7_method_28_code
def yX5_fault : MethodName := ⟨RX5, "fault", "()I"⟩
abbrev cX5_areAlike : ByteArray := prog_7_method_29_code
def yX5_areAlike : MethodName := ⟨RX5, "areAlike", "(III)Z"⟩
abbrev cX5_findRanks : ByteArray := prog_7_method_30_code
def yX5_findRanks : MethodName := ⟨RX5, "findRanks", "(I)V"⟩
abbrev cX5_levelRanks : ByteArray := prog_7_method_31_code
def yX5_levelRanks : MethodName := ⟨RX5, "levelRanks", "(I)V"⟩
abbrev cX5_ring : ByteArray := prog_7_method_32_code
def yX5_ring : MethodName := ⟨RX5, "ring", "(I)I"⟩
abbrev cX5_kind : ByteArray := prog_7_method_33_code
def yX5_kind : MethodName := ⟨RX5, "kind", "(III)I"⟩
abbrev cX5_rule : ByteArray := prog_7_method_34_code
def yX5_rule : MethodName := ⟨RX5, "rule", "(II)I"⟩
abbrev cX5_goes : ByteArray := prog_7_method_35_code
def yX5_goes : MethodName := ⟨RX5, "goes", "(III)I"⟩
abbrev cX5_isClaim : ByteArray := prog_7_method_36_code
def yX5_isClaim : MethodName := ⟨RX5, "isClaim", "(I)Z"⟩
abbrev cX5_isFund : ByteArray := prog_7_method_37_code
def yX5_isFund : MethodName := ⟨RX5, "isFund", "(I)Z"⟩
abbrev cX5_voyage : ByteArray := prog_7_method_38_code
def yX5_voyage : MethodName := ⟨RX5, "voyage", "(II)I"⟩
abbrev cX5_putClaim : ByteArray := prog_7_method_39_code
def yX5_putClaim : MethodName := ⟨RX5, "putClaim", "(IIIIZI)V"⟩
abbrev cX5_claim : ByteArray := prog_7_method_40_code
def yX5_claim : MethodName := ⟨RX5, "claim", "(IIIIZI)I"⟩
abbrev cX5_ask : ByteArray := prog_7_method_41_code
def yX5_ask : MethodName := ⟨RX5, "ask", "(II)I"⟩
abbrev cX5_fund : ByteArray := prog_7_method_42_code
def yX5_fund : MethodName := ⟨RX5, "fund", "(II)I"⟩
abbrev cX5_isCargo : ByteArray := prog_7_method_43_code
def yX5_isCargo : MethodName := ⟨RX5, "isCargo", "(I)Z"⟩
abbrev cX5_owner : ByteArray := prog_7_method_44_code
def yX5_owner : MethodName := ⟨RX5, "owner", "(II)I"⟩
abbrev cX5_pass : ByteArray := prog_7_method_45_code
def yX5_pass : MethodName := ⟨RX5, "pass", "(II)I"⟩
abbrev cX5_voyageOf : ByteArray := prog_7_method_46_code
def yX5_voyageOf : MethodName := ⟨RX5, "voyageOf", "(I)I"⟩
abbrev cX5_told : ByteArray := prog_7_method_47_code
def yX5_told : MethodName := ⟨RX5, "told", "(II)I"⟩
abbrev cX5_count : ByteArray := prog_7_method_48_code
def yX5_count : MethodName := ⟨RX5, "count", "(I)I"⟩
abbrev cX5_why : ByteArray := prog_7_method_49_code
def yX5_why : MethodName := ⟨RX5, "why", "(III)I"⟩
abbrev cX5_lives : ByteArray := prog_7_method_50_code
def yX5_lives : MethodName := ⟨RX5, "lives", "(III)I"⟩
abbrev cX5_last : ByteArray := prog_7_method_51_code
def yX5_last : MethodName := ⟨RX5, "last", "(II)I"⟩
abbrev cX5_order2 : ByteArray := prog_7_method_52_code
def yX5_order2 : MethodName := ⟨RX5, "order2", "(III)I"⟩
abbrev cX5_ahead : ByteArray := prog_7_method_53_code
def yX5_ahead : MethodName := ⟨RX5, "ahead", "(III)I"⟩
abbrev cX5_isOn : ByteArray := prog_7_method_54_code
def yX5_isOn : MethodName := ⟨RX5, "isOn", "(III)Z"⟩
abbrev cX5_isThere : ByteArray := prog_7_method_55_code
def yX5_isThere : MethodName := ⟨RX5, "isThere", "(IIII)Z"⟩
abbrev cX5_step : ByteArray := prog_7_method_56_code
def yX5_step : MethodName := ⟨RX5, "step", "(IIII)I"⟩
abbrev cX5_wants : ByteArray := prog_7_method_57_code
def yX5_wants : MethodName := ⟨RX5, "wants", "(I)I"⟩
abbrev cX5_isWanting : ByteArray := prog_7_method_58_code
def yX5_isWanting : MethodName := ⟨RX5, "isWanting", "(IIII)Z"⟩
abbrev cX5_findStep : ByteArray := prog_7_method_59_code
def yX5_findStep : MethodName := ⟨RX5, "findStep", "(III)I"⟩
abbrev cX5_pay : ByteArray := prog_7_method_60_code
def yX5_pay : MethodName := ⟨RX5, "pay", "(IIII)V"⟩
abbrev cX5_payStep : ByteArray := prog_7_method_61_code
def yX5_payStep : MethodName := ⟨RX5, "payStep", "(III)V"⟩
abbrev cX5_payAll : ByteArray := prog_7_method_62_code
def yX5_payAll : MethodName := ⟨RX5, "payAll", "(II)I"⟩
abbrev cX5_payOut : ByteArray := prog_7_method_63_code
def yX5_payOut : MethodName := ⟨RX5, "payOut", "(III)V"⟩
abbrev cX5_isGood : ByteArray := prog_7_method_64_code
def yX5_isGood : MethodName := ⟨RX5, "isGood", "(II)Z"⟩
abbrev cX5_paid : ByteArray := prog_7_method_65_code
def yX5_paid : MethodName := ⟨RX5, "paid", "(IIII)I"⟩
abbrev cX5_left : ByteArray := prog_7_method_66_code
def yX5_left : MethodName := ⟨RX5, "left", "(IIII)I"⟩
abbrev cX5_having : ByteArray := prog_7_method_67_code
def yX5_having : MethodName := ⟨RX5, "having", "(I)I"⟩
abbrev cX5_has : ByteArray := prog_7_method_68_code
def yX5_has : MethodName := ⟨RX5, "has", "(IIII)I"⟩
abbrev cX5_order : ByteArray := prog_7_method_69_code
def yX5_order : MethodName := ⟨RX5, "order", "(IIII)I"⟩
abbrev cX5_back : ByteArray := prog_7_method_70_code
def yX5_back : MethodName := ⟨RX5, "back", "(IIIII)I"⟩
abbrev cX5_wake : ByteArray := prog_7_method_71_code
def yX5_wake : MethodName := ⟨RX5, "wake", "(IIIII)I"⟩
abbrev cX5_best : ByteArray := prog_7_method_72_code
def yX5_best : MethodName := ⟨RX5, "best", "(IIII)I"⟩
abbrev cX5_buy : ByteArray := prog_7_method_73_code
def yX5_buy : MethodName := ⟨RX5, "buy", "(IIIIII)I"⟩
abbrev cX5_clear : ByteArray := prog_7_method_74_code
def yX5_clear : MethodName := ⟨RX5, "clear", "(IIIII)I"⟩
abbrev cX5_more : ByteArray := prog_7_method_75_code
def yX5_more : MethodName := ⟨RX5, "more", "(IIIIIIIII)I"⟩
abbrev cX5_hanging : ByteArray := prog_7_method_76_code
def yX5_hanging : MethodName := ⟨RX5, "hanging", "(IIIII)I"⟩
abbrev cX5_hang : ByteArray := prog_7_method_77_code
def yX5_hang : MethodName := ⟨RX5, "hang", "(IIIII)I"⟩
abbrev cX5_beginImages : ByteArray := prog_7_method_78_code
def yX5_beginImages : MethodName := ⟨RX5, "beginImages", "()V"⟩
abbrev cX5_isImage : ByteArray := prog_7_method_79_code
def yX5_isImage : MethodName := ⟨RX5, "isImage", "(I)Z"⟩
abbrev cX5_keep : ByteArray := prog_7_method_80_code
def yX5_keep : MethodName := ⟨RX5, "keep", "(I)I"⟩
abbrev cX5_goBack : ByteArray := prog_7_method_81_code
def yX5_goBack : MethodName := ⟨RX5, "goBack", "(I)I"⟩
def RJ6 : String := "java/lang/Integer"
def TJ6 : u_T := fun k => match k with
  | _ => ("", "", "", false)
def tyJ6 : Nat → FieldType := fun k => match k with
  | _ => .int
abbrev wsJ60 : List Cond := u_ws RJ6 TJ6 0
theorem nmJ6 : ∀ a, a < 0 → ∀ b, b < 0 → a ≠ b → (TJ6 a).2.1 ≠ (TJ6 b).2.1 := by decide +kernel
theorem tyJ6_ok : ∀ k, k < 0 → parseFieldDescriptor (TJ6 k).2.2.1 = some (tyJ6 k) := by decide +kernel
abbrev cJ6_compare_7cf53 : ByteArray := prog_8_method_40_code
def yJ6_compare_7cf53 : MethodName := ⟨RJ6, "compare", "(II)I"⟩
def RJ9 : String := "java/lang/Math"
def TJ9 : u_T := fun k => match k with
  | _ => ("", "", "", false)
def tyJ9 : Nat → FieldType := fun k => match k with
  | _ => .int
abbrev wsJ90 : List Cond := u_ws RJ9 TJ9 0
theorem nmJ9 : ∀ a, a < 0 → ∀ b, b < 0 → a ≠ b → (TJ9 a).2.1 ≠ (TJ9 b).2.1 := by decide +kernel
theorem tyJ9_ok : ∀ k, k < 0 → parseFieldDescriptor (TJ9 k).2.2.1 = some (tyJ9 k) := by decide +kernel
abbrev cJ9_abs_0f7a4 : ByteArray := prog_9_method_59_code
def yJ9_abs_0f7a4 : MethodName := ⟨RJ9, "abs", "(I)I"⟩
abbrev cJ9_max_7cf53 : ByteArray := prog_9_method_65_code
def yJ9_max_7cf53 : MethodName := ⟨RJ9, "max", "(II)I"⟩
abbrev cJ9_min_7cf53 : ByteArray := prog_9_method_69_code
def yJ9_min_7cf53 : MethodName := ⟨RJ9, "min", "(II)I"⟩
def RJ0 : String := "java/lang/String"
def TJ0 : u_T := fun k => match k with
  | _ => ("", "", "", false)
def tyJ0 : Nat → FieldType := fun k => match k with
  | _ => .int
abbrev wsJ00 : List Cond := u_ws RJ0 TJ0 0
theorem nmJ0 : ∀ a, a < 0 → ∀ b, b < 0 → a ≠ b → (TJ0 a).2.1 ≠ (TJ0 b).2.1 := by decide +kernel
theorem tyJ0_ok : ∀ k, k < 0 → parseFieldDescriptor (TJ0 k).2.2.1 = some (tyJ0 k) := by decide +kernel
abbrev cJ0_length_8abf5 : ByteArray := prog_10_method_54_code
def yJ0_length_8abf5 : MethodName := ⟨RJ0, "length", "()I"⟩
abbrev cJ0_charAt_5068e : ByteArray := prog_10_method_56_code
def yJ0_charAt_5068e : MethodName := ⟨RJ0, "charAt", "(I)C"⟩
abbrev cJ0_coder_7d493 : ByteArray := prog_10_method_152_code
def yJ0_coder_7d493 : MethodName := ⟨RJ0, "coder", "()B"⟩
abbrev cJ0_isLatin1_aae02 : ByteArray := prog_10_method_154_code
def yJ0_isLatin1_aae02 : MethodName := ⟨RJ0, "isLatin1", "()Z"⟩
abbrev cJ0_checkIndex_df160 : ByteArray := prog_10_method_155_code
def yJ0_checkIndex_df160 : MethodName := ⟨RJ0, "checkIndex", "(II)V"⟩
def RJ1 : String := "java/lang/StringLatin1"
def TJ1 : u_T := fun k => match k with
  | _ => ("", "", "", false)
def tyJ1 : Nat → FieldType := fun k => match k with
  | _ => .int
abbrev wsJ10 : List Cond := u_ws RJ1 TJ1 0
theorem nmJ1 : ∀ a, a < 0 → ∀ b, b < 0 → a ≠ b → (TJ1 a).2.1 ≠ (TJ1 b).2.1 := by decide +kernel
theorem tyJ1_ok : ∀ k, k < 0 → parseFieldDescriptor (TJ1 k).2.2.1 = some (tyJ1 k) := by decide +kernel
abbrev cJ1_charAt_3b067 : ByteArray := prog_11_method_2_code
def yJ1_charAt_3b067 : MethodName := ⟨RJ1, "charAt", "([BI)C"⟩
def RJ2 : String := "java/lang/StringUTF16"
def TJ2 : u_T := fun k => match k with
  | _ => ("", "", "", false)
def tyJ2 : Nat → FieldType := fun k => match k with
  | _ => .int
abbrev wsJ20 : List Cond := u_ws RJ2 TJ2 0
theorem nmJ2 : ∀ a, a < 0 → ∀ b, b < 0 → a ≠ b → (TJ2 a).2.1 ≠ (TJ2 b).2.1 := by decide +kernel
theorem tyJ2_ok : ∀ k, k < 0 → parseFieldDescriptor (TJ2 k).2.2.1 = some (tyJ2 k) := by decide +kernel
abbrev cJ2_getChar_3b067 : ByteArray := prog_12_method_5_code
def yJ2_getChar_3b067 : MethodName := ⟨RJ2, "getChar", "([BI)C"⟩
abbrev cJ2_length_9d52b : ByteArray := prog_12_method_6_code
def yJ2_length_9d52b : MethodName := ⟨RJ2, "length", "([B)I"⟩
abbrev cJ2_charAt_3b067 : ByteArray := prog_12_method_83_code
def yJ2_charAt_3b067 : MethodName := ⟨RJ2, "charAt", "([BI)C"⟩
abbrev cJ2_checkIndex_2214a : ByteArray := prog_12_method_91_code
def yJ2_checkIndex_2214a : MethodName := ⟨RJ2, "checkIndex", "(I[B)V"⟩
def RJ10 : String := "java/lang/System"
def TJ10 : u_T := fun k => match k with
  | _ => ("", "", "", false)
def tyJ10 : Nat → FieldType := fun k => match k with
  | _ => .int
abbrev wsJ100 : List Cond := u_ws RJ10 TJ10 0
theorem nmJ10 : ∀ a, a < 0 → ∀ b, b < 0 → a ≠ b → (TJ10 a).2.1 ≠ (TJ10 b).2.1 := by decide +kernel
theorem tyJ10_ok : ∀ k, k < 0 → parseFieldDescriptor (TJ10 k).2.2.1 = some (tyJ10 k) := by decide +kernel
def RJ3 : String := "jdk/internal/util/Preconditions"
def TJ3 : u_T := fun k => match k with
  | _ => ("", "", "", false)
def tyJ3 : Nat → FieldType := fun k => match k with
  | _ => .int
abbrev wsJ30 : List Cond := u_ws RJ3 TJ3 0
theorem nmJ3 : ∀ a, a < 0 → ∀ b, b < 0 → a ≠ b → (TJ3 a).2.1 ≠ (TJ3 b).2.1 := by decide +kernel
theorem tyJ3_ok : ∀ k, k < 0 → parseFieldDescriptor (TJ3 k).2.2.1 = some (tyJ3 k) := by decide +kernel
abbrev cJ3_checkIndex_8e157 : ByteArray := prog_14_method_11_code
def yJ3_checkIndex_8e157 : MethodName := ⟨RJ3, "checkIndex", "(IILjava/util/function/BiFunction;)I"⟩
def RL : String := "LastLentLaw"
abbrev cL_law : ByteArray := code
def yL_law : MethodName := ⟨RL, "law", "([I)Z"⟩
end
section
/-! THE FRAMEWORK: a method's run over a fixed world of numbered cells. z_M: the memory (ints, longs, references by cell and slot); z_H: a cell's shape; z_J: from this pc, with these locals, this stack and this memory the machine comes to the method's end; z_C: a method's contract. -/
abbrev z_M : Type := (Nat → Nat → Int32) × (Nat → Nat → Int64) × (Nat → Nat → Option Nat)
/-- an array: number of its type (0 int, 1 boolean, 2 .. references), length; an object: number of its class, kinds of its fields (0 int, 1 long, 2 reference) -/
abbrev z_H : Type := (Nat × Nat) ⊕ (Nat × List Nat)
def z_v (ad : Nat → Nat) (v : Value) : Value := match v with
  | .ref i => .ref (ad i)
  | w => w
def z_f (ad : Nat → Nat) (μ : z_M) (i k q : Nat) : Value := match q with
  | 0 => .int (μ.1 i k)
  | 1 => .long (μ.2.1 i k)
  | _ => va_rf ((μ.2.2 i k).map ad)
def z_e (ad : Nat → Nat) (dA : Nat → ClassId) (μ : z_M) (i : Nat) (h : z_H) : va_E := match h with
  | .inl (t, n) => .inl (dA t, n, if t < 2 then .inl (μ.1 i) else .inr (.inr (.inr (.inr (fun k => (μ.2.2 i k).map ad)))))
  | .inr (ci, ks) => .inr (ci, ks.mapIdx (fun k q => z_f ad μ i k q))
def z_w (ad : Nat → Nat) (dA : Nat → ClassId) (sh : List z_H) (μ : z_M) : va_W := sh.mapIdx (fun i h => (ad i, z_e ad dA μ i h))
theorem z_w_get {ad : Nat → Nat} {dA : Nat → ClassId} {sh : List z_H} {μ : z_M} {i : Nat} {h : z_H} (hi : sh[i]? = some h) : (z_w ad dA sh μ)[i]? = some (ad i, z_e ad dA μ i h) := by
  simp [z_w, List.getElem?_mapIdx, hi]
theorem z_w_set {ad : Nat → Nat} {dA : Nat → ClassId} {sh : List z_H} {μ μ' : z_M} {i : Nat} {h : z_H} (hi : sh[i]? = some h) (ho : ∀ j : Nat, j ≠ i → ∀ g : z_H, z_e ad dA μ' j g = z_e ad dA μ j g) : (z_w ad dA sh μ).set i (ad i, z_e ad dA μ' i h) = z_w ad dA sh μ' := by
  apply List.ext_getElem?
  intro j
  by_cases hj : j = i
  · subst hj
    rw [z_w_get hi, List.getElem?_set_self]
    have := (List.getElem?_eq_some_iff.mp hi).1
    simpa [z_w] using this
  · rw [List.getElem?_set_ne (Ne.symm hj)]
    simp only [z_w, List.getElem?_mapIdx]
    cases sh[j]? with
    | none => rfl
    | some g => simp only [Option.map_some, ho j hj g]
/-- the world's addresses, whatever it holds -/
theorem z_D_any {A : Nat → Prop} {ad : Nat → Nat} {dA : Nat → ClassId} {sh : List z_H} {μ : z_M} (μ' : z_M) (h : va_D A (z_w ad dA sh μ)) : va_D A (z_w ad dA sh μ') := by
  have key : ∀ (k : Nat) (q : Nat × va_E), (z_w ad dA sh μ')[k]? = some q → ∃ q0, (z_w ad dA sh μ)[k]? = some q0 ∧ q0.1 = q.1 := by
    intro k q hk
    simp only [z_w, List.getElem?_mapIdx] at hk ⊢
    cases hs : sh[k]? with
    | none => rw [hs] at hk; cases hk
    | some g => rw [hs] at hk; cases hk; exact ⟨_, rfl, rfl⟩
  refine ⟨fun i j x y hi hj hxy => ?_, fun k q hk => ?_⟩
  · obtain ⟨x0, h1, h2⟩ := key i x hi
    obtain ⟨y0, h3, h4⟩ := key j y hj
    exact h.1 i j x0 y0 h1 h3 (h2.trans (hxy.trans h4.symm))
  · obtain ⟨q0, h1, h2⟩ := key k q hk
    rw [← h2]
    exact h.2 k q0 h1
theorem z_A_any {ad : Nat → Nat} {dA : Nat → ClassId} {sh : List z_H} {μ μ' : z_M} {sz q : Nat} (h : va_A (z_w ad dA sh μ) sz q) : va_A (z_w ad dA sh μ') sz q := by
  rcases h with ⟨k, e, hk⟩ | h
  · refine Or.inl ⟨k, ?_⟩
    simp only [z_w, List.getElem?_mapIdx] at hk ⊢
    cases hs : sh[k]? with
    | none => rw [hs] at hk; cases hk
    | some g => rw [hs] at hk; cases hk; exact ⟨_, rfl⟩
  · exact Or.inr h
/-- one int, one long, one reference is set -/
def z_si (μ : z_M) (i k : Nat) (x : Int32) : z_M := (fun a => if a = i then upd (μ.1 i) k x else μ.1 a, μ.2)
def z_sl (μ : z_M) (i k : Nat) (x : Int64) : z_M := (μ.1, fun a => if a = i then vp_updL (μ.2.1 i) k x else μ.2.1 a, μ.2.2)
def z_sr (μ : z_M) (i k : Nat) (x : Option Nat) : z_M := (μ.1, μ.2.1, fun a => if a = i then va_up (μ.2.2 i) k x else μ.2.2 a)
/-- a whole row of ints is set -/
def z_sw (μ : z_M) (i : Nat) (f : Nat → Int32) : z_M := (fun a => if a = i then f else μ.1 a, μ.2)
theorem z_e_si {ad : Nat → Nat} {dA : Nat → ClassId} {μ : z_M} {i k : Nat} {x : Int32} : ∀ j : Nat, j ≠ i → ∀ g : z_H, z_e ad dA (z_si μ i k x) j g = z_e ad dA μ j g := by
  intro j hj g
  have e : (z_si μ i k x).1 j = μ.1 j := if_neg hj
  rcases g with ⟨t, n⟩ | ⟨ci, ks⟩
  · simp only [z_e, e]; rfl
  · have e2 : z_f ad (z_si μ i k x) j = z_f ad μ j := by
      funext k q
      match q with
      | 0 => simp only [z_f, e]
      | 1 => rfl
      | (n + 2) => rfl
    simp only [z_e, e2]
theorem z_e_sw {ad : Nat → Nat} {dA : Nat → ClassId} {μ : z_M} {i : Nat} {f : Nat → Int32} : ∀ j : Nat, j ≠ i → ∀ g : z_H, z_e ad dA (z_sw μ i f) j g = z_e ad dA μ j g := by
  intro j hj g
  have e : (z_sw μ i f).1 j = μ.1 j := if_neg hj
  rcases g with ⟨t, n⟩ | ⟨ci, ks⟩
  · simp only [z_e, e]; rfl
  · have e2 : z_f ad (z_sw μ i f) j = z_f ad μ j := by
      funext k q
      match q with
      | 0 => simp only [z_f, e]
      | 1 => rfl
      | (n + 2) => rfl
    simp only [z_e, e2]
theorem z_e_sl {ad : Nat → Nat} {dA : Nat → ClassId} {μ : z_M} {i k : Nat} {x : Int64} : ∀ j : Nat, j ≠ i → ∀ g : z_H, z_e ad dA (z_sl μ i k x) j g = z_e ad dA μ j g := by
  intro j hj g
  have e : (z_sl μ i k x).2.1 j = μ.2.1 j := if_neg hj
  rcases g with ⟨t, n⟩ | ⟨ci, ks⟩
  · rfl
  · have e2 : z_f ad (z_sl μ i k x) j = z_f ad μ j := by
      funext k q
      match q with
      | 0 => rfl
      | 1 => simp only [z_f, e]
      | (n + 2) => rfl
    simp only [z_e, e2]
theorem z_e_sr {ad : Nat → Nat} {dA : Nat → ClassId} {μ : z_M} {i k : Nat} {x : Option Nat} : ∀ j : Nat, j ≠ i → ∀ g : z_H, z_e ad dA (z_sr μ i k x) j g = z_e ad dA μ j g := by
  intro j hj g
  have e : (z_sr μ i k x).2.2 j = μ.2.2 j := if_neg hj
  rcases g with ⟨t, n⟩ | ⟨ci, ks⟩
  · simp only [z_e, e]; rfl
  · have e2 : z_f ad (z_sr μ i k x) j = z_f ad μ j := by
      funext k q
      match q with
      | 0 => rfl
      | 1 => rfl
      | (n + 2) => simp only [z_f, e]
    simp only [z_e, e2]
theorem z_fs_set {ad : Nat → Nat} {μ μ' : z_M} {i k q : Nat} {ks : List Nat} (hk : ks[k]? = some q) (ho : ∀ j, j ≠ k → ∀ r, z_f ad μ' i j r = z_f ad μ i j r) : (ks.mapIdx (fun k q => z_f ad μ i k q)).set k (z_f ad μ' i k q) = ks.mapIdx (fun k q => z_f ad μ' i k q) := by
  apply List.ext_getElem?
  intro j
  by_cases hj : j = k
  · subst hj
    rw [List.getElem?_set_self (by have := (List.getElem?_eq_some_iff.mp hk).1; simpa using this)]
    simp [List.getElem?_mapIdx, hk]
  · rw [List.getElem?_set_ne (Ne.symm hj)]
    simp only [List.getElem?_mapIdx]
    cases ks[j]? with
    | none => rfl
    | some r => simp only [Option.map_some, ho j hj r]
theorem z_f_si {ad : Nat → Nat} {μ : z_M} {i k : Nat} {x : Int32} : ∀ j, j ≠ k → ∀ r, z_f ad (z_si μ i k x) i j r = z_f ad μ i j r := by
  intro j hj r
  match r with
  | 0 => simp [z_f, z_si, upd, hj]
  | 1 => rfl
  | (n + 2) => rfl
theorem z_f_sl {ad : Nat → Nat} {μ : z_M} {i k : Nat} {x : Int64} : ∀ j, j ≠ k → ∀ r, z_f ad (z_sl μ i k x) i j r = z_f ad μ i j r := by
  intro j hj r
  match r with
  | 0 => rfl
  | 1 => simp [z_f, z_sl, vp_updL, hj]
  | (n + 2) => rfl
theorem z_f_sr {ad : Nat → Nat} {μ : z_M} {i k : Nat} {x : Option Nat} : ∀ j, j ≠ k → ∀ r, z_f ad (z_sr μ i k x) i j r = z_f ad μ i j r := by
  intro j hj r
  match r with
  | 0 => rfl
  | 1 => rfl
  | (n + 2) => simp [z_f, z_sr, va_up, hj]
/-! locals: by place; what is unset or not known is none -/
abbrev z_L : Type := List (Option Value)
def z_hl (ls : Array Slot) (nL : Nat) (ad : Nat → Nat) (L : z_L) : Prop := ls.size = nL ∧ lv_wf ls ∧ ∀ (i : Nat) (v : Value), L[i]? = some (some v) → ls[i]? = some (.val (z_v ad v))
def z_lv (ad : Nat → Nat) (L : z_L) : List (Nat × Value) := (List.range L.length).filterMap (fun i => match L[i]? with
  | some (some v) => some (i, z_v ad v)
  | _ => none)
theorem z_lv_mem {ad : Nat → Nat} {L : z_L} {i : Nat} {v : Value} (h : L[i]? = some (some v)) : (i, z_v ad v) ∈ z_lv ad L := by
  refine List.mem_filterMap.mpr ⟨i, List.mem_range.mpr (List.getElem?_eq_some_iff.mp h).1, ?_⟩
  simp [h]
theorem z_lv_of {ad : Nat → Nat} {L : z_L} {q : Nat × Value} (h : q ∈ z_lv ad L) : ∃ v, L[q.1]? = some (some v) ∧ q.2 = z_v ad v := by
  obtain ⟨i, -, hi⟩ := List.mem_filterMap.mp h
  split at hi
  · next v hv => cases hi; exact ⟨v, hv, rfl⟩
  · cases hi
theorem z_hl.has {ls : Array Slot} {nL : Nat} {ad : Nat → Nat} {L : z_L} (h : z_hl ls nL ad L) : lv_has ls nL (z_lv ad L) := by
  refine ⟨h.1, h.2.1, fun q hq => ?_⟩
  obtain ⟨v, h1, h2⟩ := z_lv_of hq
  rw [h2]
  exact h.2.2 _ _ h1
theorem z_hl.at {ls : Array Slot} {nL : Nat} {ad : Nat → Nat} {L : z_L} (h : z_hl ls nL ad L) {i : Nat} {v : Value} (hv : L[i]? = some (some v)) : ls[i]? = some (.val (z_v ad v)) := h.2.2 i v hv
/-- no long stands one place ahead of i -/
def z_nl (L : z_L) (i : Nat) : Bool := match i with
  | 0 => true
  | j + 1 => match L[j]? with
    | some (some (.long _)) => false
    | some (some (.double _)) => false
    | _ => true
theorem z_cat {v : Value} (h : v.category = 2) : (∃ x, v = .long x) ∨ ∃ x, v = .double x := by
  cases v <;> simp [Value.category] at h ⊢
theorem z_v_cat {ad : Nat → Nat} {v : Value} : (z_v ad v).category = v.category := by
  cases v <;> rfl
theorem z_store1 {ls : Array Slot} {nL : Nat} {ad : Nat → Nat} {L : z_L} {i : Nat} {v : Value} (hz : z_nl L i = true) (h : lv_has ls nL ((i, z_v ad v) :: (z_lv ad L).filter (fun q => !(q.1 == i) && !(q.1 + 1 == i && q.2.category == 2)))) : z_hl ls nL ad (L.set i (some v)) := by
  refine ⟨h.1, h.2.1, fun j w hw => ?_⟩
  by_cases hj : j = i
  · subst hj
    rw [List.getElem?_set_self (by have := (List.getElem?_eq_some_iff.mp hw).1; simpa using this)] at hw
    cases hw
    exact h.2.2 (j, z_v ad v) List.mem_cons_self
  · rw [List.getElem?_set_ne (Ne.symm hj)] at hw
    refine h.2.2 (j, z_v ad w) (List.mem_cons_of_mem _ (List.mem_filter.mpr ⟨z_lv_mem hw, ?_⟩))
    have h1 : (j == i) = false := by simp [hj]
    simp only [h1, Bool.not_false, Bool.true_and, Bool.not_eq_true']
    rw [Bool.and_eq_false_iff]
    by_cases hji : j + 1 = i
    · right
      subst hji
      rw [beq_eq_false_iff_ne, z_v_cat]
      intro hc
      rcases z_cat hc with ⟨x, rfl⟩ | ⟨x, rfl⟩ <;> simp [z_nl, hw] at hz
    · left
      simp [hji]
theorem z_store2 {ls : Array Slot} {nL : Nat} {ad : Nat → Nat} {L : z_L} {i : Nat} {v : Value} (hz : z_nl L i = true) (h : lv_has ls nL ((i, z_v ad v) :: (z_lv ad L).filter (fun q => !(q.1 == i) && (!(q.1 == i + 1) && !(q.1 + 1 == i && q.2.category == 2))))) : z_hl ls nL ad ((L.set i (some v)).set (i + 1) none) := by
  refine ⟨h.1, h.2.1, fun j w hw => ?_⟩
  by_cases hj1 : j = i + 1
  · subst hj1
    have hlt := (List.getElem?_eq_some_iff.mp hw).1
    rw [List.getElem?_set_self (by simpa using hlt)] at hw
    cases hw
  rw [List.getElem?_set_ne (Ne.symm hj1)] at hw
  by_cases hj : j = i
  · subst hj
    rw [List.getElem?_set_self (by have := (List.getElem?_eq_some_iff.mp hw).1; simpa using this)] at hw
    cases hw
    exact h.2.2 (j, z_v ad v) List.mem_cons_self
  · rw [List.getElem?_set_ne (Ne.symm hj)] at hw
    refine h.2.2 (j, z_v ad w) (List.mem_cons_of_mem _ (List.mem_filter.mpr ⟨z_lv_mem hw, ?_⟩))
    have h1 : (j == i) = false := by simp [hj]
    have h2 : (j == i + 1) = false := by simp [hj1]
    simp only [h1, h2, Bool.not_false, Bool.true_and, Bool.not_eq_true']
    rw [Bool.and_eq_false_iff]
    by_cases hji : j + 1 = i
    · right
      subst hji
      rw [beq_eq_false_iff_ne, z_v_cat]
      intro hc
      rcases z_cat hc with ⟨x, rfl⟩ | ⟨x, rfl⟩ <;> simp [z_nl, hw] at hz
    · left
      simp [hji]
/-- fewer locals are known: those with true stay -/
def z_mk (b : List Bool) (L : z_L) : z_L := List.zipWith (fun x v => if x then v else none) b L
theorem z_hl.mk {ls : Array Slot} {nL : Nat} {ad : Nat → Nat} {L : z_L} (h : z_hl ls nL ad L) (b : List Bool) : z_hl ls nL ad (z_mk b L) := by
  refine ⟨h.1, h.2.1, fun i v hv => ?_⟩
  unfold z_mk at hv
  rw [List.getElem?_zipWith] at hv
  cases hb : b[i]? with
  | none => rw [hb] at hv; cases hv
  | some x =>
    cases hL : L[i]? with
    | none => rw [hb, hL] at hv; cases hv
    | some w =>
      rw [hb, hL] at hv
      cases x with
      | false => cases hv
      | true => 
        have e : w = some v := by simpa using hv
        exact h.2.2 i v (by rw [hL, e])
/-- the locals at a method's entry -/
def z_en (nL : Nat) : List Value → z_L
  | [] => List.replicate nL none
  | v :: vs => if v.category = 2 then some v :: none :: z_en (nL - 2) vs else some v :: z_en (nL - 1) vs
theorem z_en_get {ad : Nat → Nat} : ∀ (vs : List Value) (nL b i : Nat) (v : Value), (z_en nL vs)[i]? = some (some v) → (b + i, z_v ad v) ∈ lv_args b (vs.map (z_v ad))
  | [], nL, b, i, v, h => by
    simp only [z_en] at h
    rw [List.getElem?_replicate] at h
    split at h <;> simp at h
  | w :: vs, nL, b, i, v, h => by
    simp only [z_en] at h
    simp only [List.map_cons, lv_args]
    by_cases hc : w.category = 2
    · rw [if_pos hc] at h
      rw [if_pos (by rw [z_v_cat]; exact hc)]
      match i, h with
      | 0, h => simp at h; subst h; exact List.mem_cons_self
      | 1, h => simp at h
      | i + 2, h =>
        have h1 := z_en_get (ad := ad) vs (nL - 2) (b + 2) i v (by simpa using h)
        rw [show b + 2 + i = b + (i + 2) by omega] at h1
        exact List.mem_cons_of_mem _ h1
    · rw [if_neg hc] at h
      rw [if_neg (by rw [z_v_cat]; exact hc)]
      match i, h with
      | 0, h => simp at h; subst h; exact List.mem_cons_self
      | i + 1, h =>
        have h1 := z_en_get (ad := ad) vs (nL - 1) (b + 1) i v (by simpa using h)
        rw [show b + 1 + i = b + (i + 1) by omega] at h1
        exact List.mem_cons_of_mem _ h1
end
section
/-! THE ENVIRONMENT of a method's run, the judgement z_J, the contract z_C -/
def z_T : List Cond := lw_tbl.filter goodWord
theorem z_T_in {w : Cond} (i : Nat) (h : lw_tbl[i]? = some w) (hg : goodWord w = true) : w ∈ z_T := List.mem_filter.mpr ⟨List.mem_of_getElem? h, hg⟩
theorem z_T_good : GoodIn z_T z_T := fun w h => ⟨h, good_of_word (List.mem_filter.mp h).2⟩
theorem z_T_tl {x y : Cond} (hy : y ∈ z_T) : GoodIn (x :: z_T) (y :: z_T) := by
  intro w h
  rcases List.mem_cons.mp h with rfl | h
  · exact ⟨List.mem_cons_of_mem _ hy, (z_T_good _ hy).2⟩
  · exact ⟨List.mem_cons_of_mem _ h, (z_T_good _ h).2⟩
def z_cl : List vw_C := [(RX0, TX0, 13), (RX1, TX1, 9), (RX2, TX2, 16), (RX3, TX3, 13), (RX4, TX4, 10), (RX5, TX5, 48)]
def z_tys (dA : Nat → ClassId) : List (ClassId × FieldType) := [(dA 0, .int), (dA 1, .boolean), (dA 2, .object "LastLent$Law"), (dA 3, .object "LastLent$Ship"), (dA 4, .array .int)]
def z_rm (d : Nat) : Room := { frames := d, cells := 0, slots := 0, locals := 36 * d }
/-- calls of nest mates -/
def z_NW : List (String × Nat × MethodName) := [("LastLent", 17, yX1_init), ("LastLent", 24, yX3_init), ("LastLent", 42, yX2_init), ("LastLent$LawText", 69, yX4_bit), ("LastLent$Law", 59, yX4_bit), ("LastLent$Ship", 93, yX4_bit), ("LastLent$PayOut", 114, yX4_bit), ("LastLent$PayOut", 63, yX4_copyRow), ("LastLent$Ship", 52, yX4_copyRow)]
/-- the texts of LawText: index in its pool, text -/
def z_SR : List (Nat × String) := [(56, "rides   ahead   first   behind  later   within  dies    leave   sale    costs   "), (157, "wage    rope    pilot   saved   need    pledge  harm    dues    "), (123, "ship    freight cargo   "), (134, "parts   later   sooner  ")]
def z_byt : List (List Int32) := z_SR.map (fun q => q.2.toList.map (fun c => Int32.ofNat c.toNat))
def z_len : List Nat := [80, 64, 24, 24]
/-- what is never written: links of nest mates, texts, statics of the JDK -/
def z_X (ad : Nat → Nat) (A : Nat → Prop) (U : State) (H : Heap) : Prop :=
  (∀ q ∈ z_NW, va_Nw (.methodLinkNest q.1 q.2.1 q.2.2 "LastLent") U) ∧
  (∀ i : Nat, ∀ q : Nat × String, z_SR[i]? = some q → vk_R "LastLent$LawText" q.1 q.2 (ad (1000 + i)) U) ∧
  vk_S 4 z_len z_byt (fun i => ad (1000 + i)) (fun i => ad (1010 + i)) A U H ∧
  va_Z "java/lang/String" "COMPACT_STRINGS" "Z" (.int 1) A U H ∧
  va_Z "jdk/internal/util/Preconditions" "SIOOBE_FORMATTER" "Ljava/util/function/BiFunction;" (.ref (ad 1020)) A U H
theorem z_X.to {ad : Nat → Nat} {A B : Nat → Prop} {s U : State} {H0 H : Heap} (h : z_X ad A s H0) (hW : s.WarmedH U.vm) (hq : ∀ a : Nat, a < H0.size → ¬ A a → H[a]? = H0[a]?) (hB : ∀ q, B q → A q) : z_X ad B U H := by
  obtain ⟨h1, h2, h3, h4, h5⟩ := h
  exact ⟨fun q hq => va_Nw.warmM hW (h1 q hq), fun i q hi => (h2 i q hi).warm hW, ((h3.kept hq).moved hW.alike).narrow hB, ((h4.kept hq).moved hW.alike).narrow hB, ((h5.kept hq).moved hW.alike).narrow hB⟩
theorem z_X.same {ad : Nat → Nat} {A : Nat → Prop} {s U : State} {H : Heap} (h : z_X ad A s H) (hv : U.vm = s.vm) : z_X ad A U H := by
  obtain ⟨h1, h2, h3, h4, h5⟩ := h
  have ha : s.vm.Alike U.vm := by rw [hv]; exact Vm.Alike.refl s.vm
  exact ⟨fun q hq => (h1 q hq).same rfl hv.symm, fun i q hi => (h2 i q hi).same hv, h3.moved ha, h4.moved ha, h5.moved ha⟩
/-- launch, class numbers and slots, addresses, array classes, shapes -/
abbrev z_Gl : Type := Launch × va_G × (Nat → Nat) × (Nat → ClassId) × List z_H
abbrev z_sh (G : z_Gl) : List z_H := G.2.2.2.2
/-- a run of one method: the globals; machine, room, start, method, its end, the cells that may change, made cells and slots -/
abbrev z_E : Type := z_Gl × Program × Env × Room × State × MethodId × Array Value × List Frame × Method × Code × (State → Prop) × (Nat → Prop) × Nat × Nat
def z_J (E : z_E) (nL pc : Nat) (L : z_L) (st : List Value) (μ : z_M) : Prop := match E with
  | ((l, D, ad, dA, sh), p, e, R, s, m, args, below, meth, c, Q, A, kc, ks) =>
    ∀ (H : Heap) (locs : List Loc) (ls : Array Slot), va_P D z_cl (z_w ad dA sh μ) H → va_S A s.heap H locs → z_hl ls nL ad L → W p l e R s m args below meth c H locs kc ks Q (F0 m pc ls (st.map (z_v ad)))
/-- what holds all along the run: d levels of calls are free -/
def z_F (E : z_E) (own : String) (cc : ByteArray) (nL d : Nat) : Prop := match E with
  | ((l, D, ad, dA, sh), p, e, R, s, m, args, below, meth, c, Q, A, kc, ks) =>
    p.tables.exec = Jvm.exec ∧ c.code = cc ∧ c.maxLocals = nL ∧ s.vm.findClass own = some m.cls ∧ (∀ w ∈ z_T, w.before args s = true) ∧ va_K D z_cl (z_tys dA) s ∧ (∀ μ, va_D A (z_w ad dA sh μ)) ∧ (∀ q, s.heap.size ≤ q → A q) ∧ z_X ad A s s.heap ∧ d ≤ R.frames ∧ 36 * d ≤ R.locals ∧ kc ≤ R.cells ∧ ks ≤ R.slots
def z_Qc (G : z_Gl) (A : Nat → Prop) (P : Option Value → z_M → Prop) : Array Value → State → Outcome → State → Prop := match G with
  | (_, D, ad, dA, sh) => fun _ st oc t => (∃ (v : Option Value) (μ : z_M), oc = .returned (v.map (z_v ad)) ∧ P v μ ∧ va_P D z_cl (z_w ad dA sh μ) t.heap) ∧ va_F A st t
/-- the run's end: the method's type, and what its end must give -/
def z_R (E : z_E) (ret : Option FieldType) (P : Option Value → z_M → Prop) : Prop := match E with
  | (G, p, e, R, s, m, args, below, meth, c, Q, A, kc, ks) => meth.locks = false ∧ meth.sig.returnType = ret ∧ Q = MQ below (z_Qc G A P) args s kc ks A
def z_pre (G : z_Gl) (μ : z_M) (sz : Nat) (U : State) : Prop := match G with
  | (_, D, ad, dA, sh) => U.heap.size = sz ∧ va_P D z_cl (z_w ad dA sh μ) U.heap ∧ va_K D z_cl (z_tys dA) U ∧ va_D (fun _ => True) (z_w ad dA sh μ) ∧ z_X ad (va_A (z_w ad dA sh μ) sz) U U.heap
/-- the contract: called with av in memory μ, with d levels of calls free, it comes back with P -/
def z_C0 (G : z_Gl) (y : MethodName) (cc : ByteArray) (nL : Nat) (ret : Option FieldType) (d : Nat) (av : List Value) (μ : z_M) (P : Option Value → z_M → Prop) : Prop := match G with
  | (l, D, ad, dA, sh) => ∀ sz : Nat, Met l y (.code y cc nL ret :: z_T) (z_rm d) (va_Pc (av.map (z_v ad)) (z_pre (l, D, ad, dA, sh) μ sz)) (z_Qc (l, D, ad, dA, sh) (va_A (z_w ad dA sh μ) sz) P) 0 0 (va_A (z_w ad dA sh μ) sz)
/-- an answer that is an int; references stay -/
def z_Ci (G : z_Gl) (y : MethodName) (cc : ByteArray) (nL : Nat) (ret : Option FieldType) (d : Nat) (av : List Value) (μ : z_M) (P : Int32 → z_M → Prop) : Prop := z_C0 G y cc nL ret d av μ (fun v μ' => μ'.2.2 = μ.2.2 ∧ ∃ r, v = some (.int r) ∧ P r μ')
def z_Cl (G : z_Gl) (y : MethodName) (cc : ByteArray) (nL : Nat) (ret : Option FieldType) (d : Nat) (av : List Value) (μ : z_M) (P : Int64 → z_M → Prop) : Prop := z_C0 G y cc nL ret d av μ (fun v μ' => μ'.2.2 = μ.2.2 ∧ ∃ r, v = some (.long r) ∧ P r μ')
def z_Cv (G : z_Gl) (y : MethodName) (cc : ByteArray) (nL : Nat) (ret : Option FieldType) (d : Nat) (av : List Value) (μ : z_M) (P : z_M → Prop) : Prop := z_C0 G y cc nL ret d av μ (fun v μ' => μ'.2.2 = μ.2.2 ∧ v = none ∧ P μ')
theorem z_entry {nL : Nat} {ad : Nat → Nat} (av : List Value) (h : (lg_sl (av.map (z_v ad))).length ≤ nL) : z_hl ((lg_sl (av.map (z_v ad)) ++ List.replicate (nL - (lg_sl (av.map (z_v ad))).length) Slot.unset).toArray) nL ad (z_en nL av) := by
  obtain ⟨h1, h2, h3⟩ := lv_entry (av.map (z_v ad)) h
  refine ⟨h1, h2, fun i v hv => ?_⟩
  have := z_en_get (ad := ad) av nL 0 i v hv
  rw [Nat.zero_add] at this
  exact h3 _ this
def z_sl2 (av : List Value) : Nat := (av.map (fun v => v.category)).sum
theorem z_lgsl {ad : Nat → Nat} : ∀ av : List Value, (lg_sl (av.map (z_v ad))).length = z_sl2 av
  | [] => rfl
  | v :: av => by
    have ih := z_lgsl (ad := ad) av
    simp only [lg_sl, List.map_cons, List.flatMap_cons, List.length_append, z_sl2, List.sum_cons] at ih ⊢
    rw [ih, z_v_cat]
    rcases lv_cat v with h | h <;> simp [h]
/-- a method's contract out of its run from pc 0 on -/
theorem z_intro {G : z_Gl} {y : MethodName} {cc : ByteArray} {nL d : Nat} {ret : Option FieldType} {av : List Value} {μ : z_M} {P : Option Value → z_M → Prop} (hy : plainName y.cls = true) (hn : z_sl2 av ≤ nL) (h : ∀ E : z_E, E.1 = G → z_F E y.cls cc nL d → z_R E ret P → z_J E nL 0 (z_en nL av) [] μ) : z_C0 G y cc nL ret d av μ P := by
  obtain ⟨l, D, ad, dA, sh⟩ := G
  intro sz
  refine Met.ofW (cc := cc) (maxL := nL) (ret := ret) hy rfl ?_
  intro p e s m args below meth c s₁ B hml hv
  obtain ⟨rfl, hsz, hP, hK, hD0, hX⟩ := hv
  subst hsz
  have hts := atoms_spec (ws := Jvm.Cond.code y cc nL ret :: z_T) B.pre
  have hown : s.vm.findClass y.cls = some m.cls := findClass_of_methodNamed B.named
  have hD : ∀ μ', va_D (va_A (z_w ad dA sh μ) s.heap.size) (z_w ad dA sh μ') := fun μ' => z_D_any μ' (hD0.self (sz := s.heap.size))
  rw [lg_entry_eq]
  exact h ((l, D, ad, dA, sh), p, e, z_rm d, s, m, (av.map (z_v ad)).toArray, below, meth, c, MQ below (z_Qc (l, D, ad, dA, sh) (va_A (z_w ad dA sh μ) s.heap.size) P) (av.map (z_v ad)).toArray s 0 0 (va_A (z_w ad dA sh μ) s.heap.size), va_A (z_w ad dA sh μ) s.heap.size, 0, 0) rfl
    ⟨B.exec, B.bytes, hml, hown, fun w hw => hts w (List.mem_cons_of_mem _ hw), hK, hD, fun q hq => Or.inr hq, hX, Nat.le_refl _, Nat.le_refl _, Nat.zero_le _, Nat.zero_le _⟩ ⟨B.notSynchronized, B.returns, rfl⟩ s.heap [] _ hP va_S.rf (z_entry av (by rw [z_lgsl]; exact hn))
end
section
/-! THE ROWS: an instruction each, over z_J -/
theorem j_iconst {E : z_E} {own : String} {cc : ByteArray} {nL d pc : Nat} {L : z_L} {st : List Value} {μ : z_M} (F : z_F E own cc nL d) {n : Int} {v : Int32} (hdg : decode cc pc = .ok (.iconst n, 1)) (hv : Int32.ofInt n = v) (k : z_J E nL (pc + 1) L (.int v :: st) μ) : z_J E nL pc L st μ := by
  obtain ⟨⟨l, D, ad, dA, sh⟩, p, e, R, s, m, args, below, meth, c, Q, A, kc, ks⟩ := E
  obtain ⟨hx, hb, hml, hown, hts, hK, hD, hA, hX, hd1, hd2, hc1, hc2⟩ := F
  intro H locs ls hP hS hl
  exact lv_iconst hx hb hdg hv (k H locs ls hP hS hl)
theorem j_bipush {E : z_E} {own : String} {cc : ByteArray} {nL d pc : Nat} {L : z_L} {st : List Value} {μ : z_M} (F : z_F E own cc nL d) {n : Int} {v : Int32} (hdg : decode cc pc = .ok (.bipush n, 2)) (hv : (Int8.ofInt n).toInt32 = v) (k : z_J E nL (pc + 2) L (.int v :: st) μ) : z_J E nL pc L st μ := by
  obtain ⟨⟨l, D, ad, dA, sh⟩, p, e, R, s, m, args, below, meth, c, Q, A, kc, ks⟩ := E
  obtain ⟨hx, hb, hml, hown, hts, hK, hD, hA, hX, hd1, hd2, hc1, hc2⟩ := F
  intro H locs ls hP hS hl
  exact lv_bipush hx hb hdg hv (k H locs ls hP hS hl)
theorem j_sipush {E : z_E} {own : String} {cc : ByteArray} {nL d pc : Nat} {L : z_L} {st : List Value} {μ : z_M} (F : z_F E own cc nL d) {n : Int} {v : Int32} (hdg : decode cc pc = .ok (.sipush n, 3)) (hv : (Int16.ofInt n).toInt32 = v) (k : z_J E nL (pc + 3) L (.int v :: st) μ) : z_J E nL pc L st μ := by
  obtain ⟨⟨l, D, ad, dA, sh⟩, p, e, R, s, m, args, below, meth, c, Q, A, kc, ks⟩ := E
  obtain ⟨hx, hb, hml, hown, hts, hK, hD, hA, hX, hd1, hd2, hc1, hc2⟩ := F
  intro H locs ls hP hS hl
  exact lv_sipush hx hb hdg hv (k H locs ls hP hS hl)
theorem j_lconst {E : z_E} {own : String} {cc : ByteArray} {nL d pc : Nat} {L : z_L} {st : List Value} {μ : z_M} (F : z_F E own cc nL d) {n : Fin 2} {v : Int64} (hdg : decode cc pc = .ok (.lconst n, 1)) (hv : Int64.ofNat (n : Nat) = v) (k : z_J E nL (pc + 1) L (.long v :: st) μ) : z_J E nL pc L st μ := by
  obtain ⟨⟨l, D, ad, dA, sh⟩, p, e, R, s, m, args, below, meth, c, Q, A, kc, ks⟩ := E
  obtain ⟨hx, hb, hml, hown, hts, hK, hD, hA, hX, hd1, hd2, hc1, hc2⟩ := F
  intro H locs ls hP hS hl
  exact lv_lconst hx hb hdg hv (k H locs ls hP hS hl)
theorem j_iadd {E : z_E} {own : String} {cc : ByteArray} {nL d pc : Nat} {L : z_L} {st : List Value} {μ : z_M} (F : z_F E own cc nL d) {x y : Int32} (hdg : decode cc pc = .ok (.iadd, 1))  (k : z_J E nL (pc + 1) L (.int (x + y) :: st) μ) : z_J E nL pc L (.int y :: .int x :: st) μ := by
  obtain ⟨⟨l, D, ad, dA, sh⟩, p, e, R, s, m, args, below, meth, c, Q, A, kc, ks⟩ := E
  obtain ⟨hx, hb, hml, hown, hts, hK, hD, hA, hX, hd1, hd2, hc1, hc2⟩ := F
  intro H locs ls hP hS hl
  exact lv_iadd hx hb hdg  (k H locs ls hP hS hl)
theorem j_isub {E : z_E} {own : String} {cc : ByteArray} {nL d pc : Nat} {L : z_L} {st : List Value} {μ : z_M} (F : z_F E own cc nL d) {x y : Int32} (hdg : decode cc pc = .ok (.isub, 1))  (k : z_J E nL (pc + 1) L (.int (x - y) :: st) μ) : z_J E nL pc L (.int y :: .int x :: st) μ := by
  obtain ⟨⟨l, D, ad, dA, sh⟩, p, e, R, s, m, args, below, meth, c, Q, A, kc, ks⟩ := E
  obtain ⟨hx, hb, hml, hown, hts, hK, hD, hA, hX, hd1, hd2, hc1, hc2⟩ := F
  intro H locs ls hP hS hl
  exact lv_isub hx hb hdg  (k H locs ls hP hS hl)
theorem j_imul {E : z_E} {own : String} {cc : ByteArray} {nL d pc : Nat} {L : z_L} {st : List Value} {μ : z_M} (F : z_F E own cc nL d) {x y : Int32} (hdg : decode cc pc = .ok (.imul, 1))  (k : z_J E nL (pc + 1) L (.int (x * y) :: st) μ) : z_J E nL pc L (.int y :: .int x :: st) μ := by
  obtain ⟨⟨l, D, ad, dA, sh⟩, p, e, R, s, m, args, below, meth, c, Q, A, kc, ks⟩ := E
  obtain ⟨hx, hb, hml, hown, hts, hK, hD, hA, hX, hd1, hd2, hc1, hc2⟩ := F
  intro H locs ls hP hS hl
  exact lv_imul hx hb hdg  (k H locs ls hP hS hl)
theorem j_iand {E : z_E} {own : String} {cc : ByteArray} {nL d pc : Nat} {L : z_L} {st : List Value} {μ : z_M} (F : z_F E own cc nL d) {x y : Int32} (hdg : decode cc pc = .ok (.iand, 1))  (k : z_J E nL (pc + 1) L (.int (x &&& y) :: st) μ) : z_J E nL pc L (.int y :: .int x :: st) μ := by
  obtain ⟨⟨l, D, ad, dA, sh⟩, p, e, R, s, m, args, below, meth, c, Q, A, kc, ks⟩ := E
  obtain ⟨hx, hb, hml, hown, hts, hK, hD, hA, hX, hd1, hd2, hc1, hc2⟩ := F
  intro H locs ls hP hS hl
  exact lv_iand hx hb hdg  (k H locs ls hP hS hl)
theorem j_ior {E : z_E} {own : String} {cc : ByteArray} {nL d pc : Nat} {L : z_L} {st : List Value} {μ : z_M} (F : z_F E own cc nL d) {x y : Int32} (hdg : decode cc pc = .ok (.ior, 1))  (k : z_J E nL (pc + 1) L (.int (x ||| y) :: st) μ) : z_J E nL pc L (.int y :: .int x :: st) μ := by
  obtain ⟨⟨l, D, ad, dA, sh⟩, p, e, R, s, m, args, below, meth, c, Q, A, kc, ks⟩ := E
  obtain ⟨hx, hb, hml, hown, hts, hK, hD, hA, hX, hd1, hd2, hc1, hc2⟩ := F
  intro H locs ls hP hS hl
  exact lv_ior hx hb hdg  (k H locs ls hP hS hl)
theorem j_ixor {E : z_E} {own : String} {cc : ByteArray} {nL d pc : Nat} {L : z_L} {st : List Value} {μ : z_M} (F : z_F E own cc nL d) {x y : Int32} (hdg : decode cc pc = .ok (.ixor, 1))  (k : z_J E nL (pc + 1) L (.int (x ^^^ y) :: st) μ) : z_J E nL pc L (.int y :: .int x :: st) μ := by
  obtain ⟨⟨l, D, ad, dA, sh⟩, p, e, R, s, m, args, below, meth, c, Q, A, kc, ks⟩ := E
  obtain ⟨hx, hb, hml, hown, hts, hK, hD, hA, hX, hd1, hd2, hc1, hc2⟩ := F
  intro H locs ls hP hS hl
  exact lv_ixor hx hb hdg  (k H locs ls hP hS hl)
theorem j_ishl {E : z_E} {own : String} {cc : ByteArray} {nL d pc : Nat} {L : z_L} {st : List Value} {μ : z_M} (F : z_F E own cc nL d) {x y : Int32} (hdg : decode cc pc = .ok (.ishl, 1))  (k : z_J E nL (pc + 1) L (.int (x <<< (y &&& 31)) :: st) μ) : z_J E nL pc L (.int y :: .int x :: st) μ := by
  obtain ⟨⟨l, D, ad, dA, sh⟩, p, e, R, s, m, args, below, meth, c, Q, A, kc, ks⟩ := E
  obtain ⟨hx, hb, hml, hown, hts, hK, hD, hA, hX, hd1, hd2, hc1, hc2⟩ := F
  intro H locs ls hP hS hl
  exact lv_ishl hx hb hdg  (k H locs ls hP hS hl)
theorem j_ishr {E : z_E} {own : String} {cc : ByteArray} {nL d pc : Nat} {L : z_L} {st : List Value} {μ : z_M} (F : z_F E own cc nL d) {x y : Int32} (hdg : decode cc pc = .ok (.ishr, 1))  (k : z_J E nL (pc + 1) L (.int (x >>> (y &&& 31)) :: st) μ) : z_J E nL pc L (.int y :: .int x :: st) μ := by
  obtain ⟨⟨l, D, ad, dA, sh⟩, p, e, R, s, m, args, below, meth, c, Q, A, kc, ks⟩ := E
  obtain ⟨hx, hb, hml, hown, hts, hK, hD, hA, hX, hd1, hd2, hc1, hc2⟩ := F
  intro H locs ls hP hS hl
  exact lv_ishr hx hb hdg  (k H locs ls hP hS hl)
theorem j_ineg {E : z_E} {own : String} {cc : ByteArray} {nL d pc : Nat} {L : z_L} {st : List Value} {μ : z_M} (F : z_F E own cc nL d) {x : Int32} (hdg : decode cc pc = .ok (.ineg, 1))  (k : z_J E nL (pc + 1) L (.int (-x) :: st) μ) : z_J E nL pc L (.int x :: st) μ := by
  obtain ⟨⟨l, D, ad, dA, sh⟩, p, e, R, s, m, args, below, meth, c, Q, A, kc, ks⟩ := E
  obtain ⟨hx, hb, hml, hown, hts, hK, hD, hA, hX, hd1, hd2, hc1, hc2⟩ := F
  intro H locs ls hP hS hl
  exact lv_ineg hx hb hdg  (k H locs ls hP hS hl)
theorem j_idiv {E : z_E} {own : String} {cc : ByteArray} {nL d pc : Nat} {L : z_L} {st : List Value} {μ : z_M} (F : z_F E own cc nL d) {x y : Int32} (hdg : decode cc pc = .ok (.idiv, 1)) (hne : ¬ y = 0) (k : z_J E nL (pc + 1) L (.int (x / y) :: st) μ) : z_J E nL pc L (.int y :: .int x :: st) μ := by
  obtain ⟨⟨l, D, ad, dA, sh⟩, p, e, R, s, m, args, below, meth, c, Q, A, kc, ks⟩ := E
  obtain ⟨hx, hb, hml, hown, hts, hK, hD, hA, hX, hd1, hd2, hc1, hc2⟩ := F
  intro H locs ls hP hS hl
  exact lv_idiv hx hb hdg hne (k H locs ls hP hS hl)
theorem j_irem {E : z_E} {own : String} {cc : ByteArray} {nL d pc : Nat} {L : z_L} {st : List Value} {μ : z_M} (F : z_F E own cc nL d) {x y : Int32} (hdg : decode cc pc = .ok (.irem, 1)) (hne : ¬ y = 0) (k : z_J E nL (pc + 1) L (.int (x - x / y * y) :: st) μ) : z_J E nL pc L (.int y :: .int x :: st) μ := by
  obtain ⟨⟨l, D, ad, dA, sh⟩, p, e, R, s, m, args, below, meth, c, Q, A, kc, ks⟩ := E
  obtain ⟨hx, hb, hml, hown, hts, hK, hD, hA, hX, hd1, hd2, hc1, hc2⟩ := F
  intro H locs ls hP hS hl
  exact lv_irem hx hb hdg hne (k H locs ls hP hS hl)
theorem j_ladd {E : z_E} {own : String} {cc : ByteArray} {nL d pc : Nat} {L : z_L} {st : List Value} {μ : z_M} (F : z_F E own cc nL d) {x y : Int64} (hdg : decode cc pc = .ok (.ladd, 1))  (k : z_J E nL (pc + 1) L (.long (x + y) :: st) μ) : z_J E nL pc L (.long y :: .long x :: st) μ := by
  obtain ⟨⟨l, D, ad, dA, sh⟩, p, e, R, s, m, args, below, meth, c, Q, A, kc, ks⟩ := E
  obtain ⟨hx, hb, hml, hown, hts, hK, hD, hA, hX, hd1, hd2, hc1, hc2⟩ := F
  intro H locs ls hP hS hl
  exact lv_ladd hx hb hdg  (k H locs ls hP hS hl)
theorem j_lsub {E : z_E} {own : String} {cc : ByteArray} {nL d pc : Nat} {L : z_L} {st : List Value} {μ : z_M} (F : z_F E own cc nL d) {x y : Int64} (hdg : decode cc pc = .ok (.lsub, 1))  (k : z_J E nL (pc + 1) L (.long (x - y) :: st) μ) : z_J E nL pc L (.long y :: .long x :: st) μ := by
  obtain ⟨⟨l, D, ad, dA, sh⟩, p, e, R, s, m, args, below, meth, c, Q, A, kc, ks⟩ := E
  obtain ⟨hx, hb, hml, hown, hts, hK, hD, hA, hX, hd1, hd2, hc1, hc2⟩ := F
  intro H locs ls hP hS hl
  exact lv_lsub hx hb hdg  (k H locs ls hP hS hl)
theorem j_lmul {E : z_E} {own : String} {cc : ByteArray} {nL d pc : Nat} {L : z_L} {st : List Value} {μ : z_M} (F : z_F E own cc nL d) {x y : Int64} (hdg : decode cc pc = .ok (.lmul, 1))  (k : z_J E nL (pc + 1) L (.long (x * y) :: st) μ) : z_J E nL pc L (.long y :: .long x :: st) μ := by
  obtain ⟨⟨l, D, ad, dA, sh⟩, p, e, R, s, m, args, below, meth, c, Q, A, kc, ks⟩ := E
  obtain ⟨hx, hb, hml, hown, hts, hK, hD, hA, hX, hd1, hd2, hc1, hc2⟩ := F
  intro H locs ls hP hS hl
  exact lv_lmul hx hb hdg  (k H locs ls hP hS hl)
theorem j_land {E : z_E} {own : String} {cc : ByteArray} {nL d pc : Nat} {L : z_L} {st : List Value} {μ : z_M} (F : z_F E own cc nL d) {x y : Int64} (hdg : decode cc pc = .ok (.land, 1))  (k : z_J E nL (pc + 1) L (.long (x &&& y) :: st) μ) : z_J E nL pc L (.long y :: .long x :: st) μ := by
  obtain ⟨⟨l, D, ad, dA, sh⟩, p, e, R, s, m, args, below, meth, c, Q, A, kc, ks⟩ := E
  obtain ⟨hx, hb, hml, hown, hts, hK, hD, hA, hX, hd1, hd2, hc1, hc2⟩ := F
  intro H locs ls hP hS hl
  exact lv_land hx hb hdg  (k H locs ls hP hS hl)
theorem j_lor {E : z_E} {own : String} {cc : ByteArray} {nL d pc : Nat} {L : z_L} {st : List Value} {μ : z_M} (F : z_F E own cc nL d) {x y : Int64} (hdg : decode cc pc = .ok (.lor, 1))  (k : z_J E nL (pc + 1) L (.long (x ||| y) :: st) μ) : z_J E nL pc L (.long y :: .long x :: st) μ := by
  obtain ⟨⟨l, D, ad, dA, sh⟩, p, e, R, s, m, args, below, meth, c, Q, A, kc, ks⟩ := E
  obtain ⟨hx, hb, hml, hown, hts, hK, hD, hA, hX, hd1, hd2, hc1, hc2⟩ := F
  intro H locs ls hP hS hl
  exact lv_lor hx hb hdg  (k H locs ls hP hS hl)
theorem j_lshr {E : z_E} {own : String} {cc : ByteArray} {nL d pc : Nat} {L : z_L} {st : List Value} {μ : z_M} (F : z_F E own cc nL d) {x : Int64} {y : Int32} (hdg : decode cc pc = .ok (.lshr, 1))  (k : z_J E nL (pc + 1) L (.long (x >>> (y.toInt64 &&& 63)) :: st) μ) : z_J E nL pc L (.int y :: .long x :: st) μ := by
  obtain ⟨⟨l, D, ad, dA, sh⟩, p, e, R, s, m, args, below, meth, c, Q, A, kc, ks⟩ := E
  obtain ⟨hx, hb, hml, hown, hts, hK, hD, hA, hX, hd1, hd2, hc1, hc2⟩ := F
  intro H locs ls hP hS hl
  exact lv_lshr hx hb hdg rfl (k H locs ls hP hS hl)
theorem j_lshl {E : z_E} {own : String} {cc : ByteArray} {nL d pc : Nat} {L : z_L} {st : List Value} {μ : z_M} (F : z_F E own cc nL d) {x : Int64} {y : Int32} (hdg : decode cc pc = .ok (.lshl, 1))  (k : z_J E nL (pc + 1) L (.long (x <<< (y.toInt64 &&& 63)) :: st) μ) : z_J E nL pc L (.int y :: .long x :: st) μ := by
  obtain ⟨⟨l, D, ad, dA, sh⟩, p, e, R, s, m, args, below, meth, c, Q, A, kc, ks⟩ := E
  obtain ⟨hx, hb, hml, hown, hts, hK, hD, hA, hX, hd1, hd2, hc1, hc2⟩ := F
  intro H locs ls hP hS hl
  exact lv_lshl hx hb hdg rfl (k H locs ls hP hS hl)
theorem j_lushr {E : z_E} {own : String} {cc : ByteArray} {nL d pc : Nat} {L : z_L} {st : List Value} {μ : z_M} (F : z_F E own cc nL d) {x : Int64} {y : Int32} (hdg : decode cc pc = .ok (.lushr, 1))  (k : z_J E nL (pc + 1) L (.long (x.toUInt64 >>> (y.toInt64.toUInt64 &&& Int64.toUInt64 63)).toInt64 :: st) μ) : z_J E nL pc L (.int y :: .long x :: st) μ := by
  obtain ⟨⟨l, D, ad, dA, sh⟩, p, e, R, s, m, args, below, meth, c, Q, A, kc, ks⟩ := E
  obtain ⟨hx, hb, hml, hown, hts, hK, hD, hA, hX, hd1, hd2, hc1, hc2⟩ := F
  intro H locs ls hP hS hl
  exact lv_lushr hx hb hdg rfl (k H locs ls hP hS hl)
theorem j_i2l {E : z_E} {own : String} {cc : ByteArray} {nL d pc : Nat} {L : z_L} {st : List Value} {μ : z_M} (F : z_F E own cc nL d) {x : Int32} (hdg : decode cc pc = .ok (.i2l, 1))  (k : z_J E nL (pc + 1) L (.long x.toInt64 :: st) μ) : z_J E nL pc L (.int x :: st) μ := by
  obtain ⟨⟨l, D, ad, dA, sh⟩, p, e, R, s, m, args, below, meth, c, Q, A, kc, ks⟩ := E
  obtain ⟨hx, hb, hml, hown, hts, hK, hD, hA, hX, hd1, hd2, hc1, hc2⟩ := F
  intro H locs ls hP hS hl
  exact lv_i2l hx hb hdg rfl (k H locs ls hP hS hl)
theorem j_l2i {E : z_E} {own : String} {cc : ByteArray} {nL d pc : Nat} {L : z_L} {st : List Value} {μ : z_M} (F : z_F E own cc nL d) {x : Int64} (hdg : decode cc pc = .ok (.l2i, 1))  (k : z_J E nL (pc + 1) L (.int x.toInt32 :: st) μ) : z_J E nL pc L (.long x :: st) μ := by
  obtain ⟨⟨l, D, ad, dA, sh⟩, p, e, R, s, m, args, below, meth, c, Q, A, kc, ks⟩ := E
  obtain ⟨hx, hb, hml, hown, hts, hK, hD, hA, hX, hd1, hd2, hc1, hc2⟩ := F
  intro H locs ls hP hS hl
  exact lv_l2i hx hb hdg rfl (k H locs ls hP hS hl)
theorem j_lcmp {E : z_E} {own : String} {cc : ByteArray} {nL d pc : Nat} {L : z_L} {st : List Value} {μ : z_M} (F : z_F E own cc nL d) {x y : Int64} (hdg : decode cc pc = .ok (.lcmp, 1))  (k : z_J E nL (pc + 1) L (.int (lg_cmp x y) :: st) μ) : z_J E nL pc L (.long y :: .long x :: st) μ := by
  obtain ⟨⟨l, D, ad, dA, sh⟩, p, e, R, s, m, args, below, meth, c, Q, A, kc, ks⟩ := E
  obtain ⟨hx, hb, hml, hown, hts, hK, hD, hA, hX, hd1, hd2, hc1, hc2⟩ := F
  intro H locs ls hP hS hl
  exact W.lcmp hx hb hdg  (k H locs ls hP hS hl)
theorem j_dup {E : z_E} {own : String} {cc : ByteArray} {nL d pc : Nat} {L : z_L} {st : List Value} {μ : z_M} (F : z_F E own cc nL d) {v : Value} (hdg : decode cc pc = .ok (.dup, 1)) (hv : v.category = 1) (k : z_J E nL (pc + 1) L (v :: v :: st) μ) : z_J E nL pc L (v :: st) μ := by
  obtain ⟨⟨l, D, ad, dA, sh⟩, p, e, R, s, m, args, below, meth, c, Q, A, kc, ks⟩ := E
  obtain ⟨hx, hb, hml, hown, hts, hK, hD, hA, hX, hd1, hd2, hc1, hc2⟩ := F
  intro H locs ls hP hS hl
  exact lv_dup hx hb hdg (z_v_cat.trans hv) (k H locs ls hP hS hl)
theorem j_pop {E : z_E} {own : String} {cc : ByteArray} {nL d pc : Nat} {L : z_L} {st : List Value} {μ : z_M} (F : z_F E own cc nL d) {v : Value} (hdg : decode cc pc = .ok (.pop, 1)) (hv : v.category = 1) (k : z_J E nL (pc + 1) L st μ) : z_J E nL pc L (v :: st) μ := by
  obtain ⟨⟨l, D, ad, dA, sh⟩, p, e, R, s, m, args, below, meth, c, Q, A, kc, ks⟩ := E
  obtain ⟨hx, hb, hml, hown, hts, hK, hD, hA, hX, hd1, hd2, hc1, hc2⟩ := F
  intro H locs ls hP hS hl
  exact lv_pop hx hb hdg (z_v_cat.trans hv) (k H locs ls hP hS hl)
theorem j_dup2 {E : z_E} {own : String} {cc : ByteArray} {nL d pc : Nat} {L : z_L} {st : List Value} {μ : z_M} (F : z_F E own cc nL d) {v w : Value} (hdg : decode cc pc = .ok (.dup2, 1)) (hv : v.category = 1) (hw : w.category = 1) (k : z_J E nL (pc + 1) L (v :: w :: v :: w :: st) μ) : z_J E nL pc L (v :: w :: st) μ := by
  obtain ⟨⟨l, D, ad, dA, sh⟩, p, e, R, s, m, args, below, meth, c, Q, A, kc, ks⟩ := E
  obtain ⟨hx, hb, hml, hown, hts, hK, hD, hA, hX, hd1, hd2, hc1, hc2⟩ := F
  intro H locs ls hP hS hl
  exact lv_dup2_11 hx hb hdg (z_v_cat.trans hv) (z_v_cat.trans hw) (k H locs ls hP hS hl)
theorem j_iload {E : z_E} {own : String} {cc : ByteArray} {nL d pc : Nat} {L : z_L} {st : List Value} {μ : z_M} (F : z_F E own cc nL d) {i : Nat} {x : Int32} (hdg : decode cc pc = .ok (.iload i, 2)) (hi : L[i]? = some (some (.int x))) (k : z_J E nL (pc + 2) L (.int x :: st) μ) : z_J E nL pc L st μ := by
  obtain ⟨⟨l, D, ad, dA, sh⟩, p, e, R, s, m, args, below, meth, c, Q, A, kc, ks⟩ := E
  obtain ⟨hx, hb, hml, hown, hts, hK, hD, hA, hX, hd1, hd2, hc1, hc2⟩ := F
  intro H locs ls hP hS hl
  exact lv_iload hx hb hdg (hl.at hi) (k H locs ls hP hS hl)
theorem j_iload_n {E : z_E} {own : String} {cc : ByteArray} {nL d pc : Nat} {L : z_L} {st : List Value} {μ : z_M} (F : z_F E own cc nL d) {q : Fin 4} {x : Int32} (hdg : decode cc pc = .ok (.iload_n q, 1)) (hi : L[(q : Nat)]? = some (some (.int x))) (k : z_J E nL (pc + 1) L (.int x :: st) μ) : z_J E nL pc L st μ := by
  obtain ⟨⟨l, D, ad, dA, sh⟩, p, e, R, s, m, args, below, meth, c, Q, A, kc, ks⟩ := E
  obtain ⟨hx, hb, hml, hown, hts, hK, hD, hA, hX, hd1, hd2, hc1, hc2⟩ := F
  intro H locs ls hP hS hl
  exact lv_iload_n hx hb hdg rfl (hl.at hi) (k H locs ls hP hS hl)
theorem j_lload {E : z_E} {own : String} {cc : ByteArray} {nL d pc : Nat} {L : z_L} {st : List Value} {μ : z_M} (F : z_F E own cc nL d) {i : Nat} {x : Int64} (hdg : decode cc pc = .ok (.lload i, 2)) (hi : L[i]? = some (some (.long x))) (k : z_J E nL (pc + 2) L (.long x :: st) μ) : z_J E nL pc L st μ := by
  obtain ⟨⟨l, D, ad, dA, sh⟩, p, e, R, s, m, args, below, meth, c, Q, A, kc, ks⟩ := E
  obtain ⟨hx, hb, hml, hown, hts, hK, hD, hA, hX, hd1, hd2, hc1, hc2⟩ := F
  intro H locs ls hP hS hl
  exact lv_lload hx hb hdg (hl.at hi) (k H locs ls hP hS hl)
theorem j_lload_n {E : z_E} {own : String} {cc : ByteArray} {nL d pc : Nat} {L : z_L} {st : List Value} {μ : z_M} (F : z_F E own cc nL d) {q : Fin 4} {x : Int64} (hdg : decode cc pc = .ok (.lload_n q, 1)) (hi : L[(q : Nat)]? = some (some (.long x))) (k : z_J E nL (pc + 1) L (.long x :: st) μ) : z_J E nL pc L st μ := by
  obtain ⟨⟨l, D, ad, dA, sh⟩, p, e, R, s, m, args, below, meth, c, Q, A, kc, ks⟩ := E
  obtain ⟨hx, hb, hml, hown, hts, hK, hD, hA, hX, hd1, hd2, hc1, hc2⟩ := F
  intro H locs ls hP hS hl
  exact lv_lload_n hx hb hdg rfl (hl.at hi) (k H locs ls hP hS hl)
theorem j_aload {E : z_E} {own : String} {cc : ByteArray} {nL d pc : Nat} {L : z_L} {st : List Value} {μ : z_M} (F : z_F E own cc nL d) {i : Nat} {x : Nat} (hdg : decode cc pc = .ok (.aload i, 2)) (hi : L[i]? = some (some (.ref x))) (k : z_J E nL (pc + 2) L (.ref x :: st) μ) : z_J E nL pc L st μ := by
  obtain ⟨⟨l, D, ad, dA, sh⟩, p, e, R, s, m, args, below, meth, c, Q, A, kc, ks⟩ := E
  obtain ⟨hx, hb, hml, hown, hts, hK, hD, hA, hX, hd1, hd2, hc1, hc2⟩ := F
  intro H locs ls hP hS hl
  exact lv_aload hx hb hdg (hl.at hi) (k H locs ls hP hS hl)
theorem j_aload_n {E : z_E} {own : String} {cc : ByteArray} {nL d pc : Nat} {L : z_L} {st : List Value} {μ : z_M} (F : z_F E own cc nL d) {q : Fin 4} {x : Nat} (hdg : decode cc pc = .ok (.aload_n q, 1)) (hi : L[(q : Nat)]? = some (some (.ref x))) (k : z_J E nL (pc + 1) L (.ref x :: st) μ) : z_J E nL pc L st μ := by
  obtain ⟨⟨l, D, ad, dA, sh⟩, p, e, R, s, m, args, below, meth, c, Q, A, kc, ks⟩ := E
  obtain ⟨hx, hb, hml, hown, hts, hK, hD, hA, hX, hd1, hd2, hc1, hc2⟩ := F
  intro H locs ls hP hS hl
  exact lv_aload_n hx hb hdg rfl (hl.at hi) (k H locs ls hP hS hl)
theorem j_istore {E : z_E} {own : String} {cc : ByteArray} {nL d pc : Nat} {L : z_L} {st : List Value} {μ : z_M} (F : z_F E own cc nL d) {i : Nat} {x : Int32} {L' : z_L} (hdg : decode cc pc = .ok (.istore i, 2)) (hn : i < nL) (hz : z_nl L i = true) (hL : L.set i (some (.int x)) = L') (k : z_J E nL (pc + 2) L' st μ) : z_J E nL pc L (.int x :: st) μ := by
  obtain ⟨⟨l, D, ad, dA, sh⟩, p, e, R, s, m, args, below, meth, c, Q, A, kc, ks⟩ := E
  obtain ⟨hx, hb, hml, hown, hts, hK, hD, hA, hX, hd1, hd2, hc1, hc2⟩ := F
  intro H locs ls hP hS hl
  exact lv_istore hx hb hdg hl.has hn rfl (fun ls' h' => k H locs ls' hP hS (hL ▸ z_store1 (v := .int x) hz h'))
theorem j_istore_n {E : z_E} {own : String} {cc : ByteArray} {nL d pc : Nat} {L : z_L} {st : List Value} {μ : z_M} (F : z_F E own cc nL d) {q : Fin 4} {x : Int32} {L' : z_L} (hdg : decode cc pc = .ok (.istore_n q, 1)) (hn : (q : Nat) < nL) (hz : z_nl L (q : Nat) = true) (hL : L.set (q : Nat) (some (.int x)) = L') (k : z_J E nL (pc + 1) L' st μ) : z_J E nL pc L (.int x :: st) μ := by
  obtain ⟨⟨l, D, ad, dA, sh⟩, p, e, R, s, m, args, below, meth, c, Q, A, kc, ks⟩ := E
  obtain ⟨hx, hb, hml, hown, hts, hK, hD, hA, hX, hd1, hd2, hc1, hc2⟩ := F
  intro H locs ls hP hS hl
  exact lv_istore_n hx hb hdg rfl hl.has hn rfl (fun ls' h' => k H locs ls' hP hS (hL ▸ z_store1 (v := .int x) hz h'))
theorem j_astore {E : z_E} {own : String} {cc : ByteArray} {nL d pc : Nat} {L : z_L} {st : List Value} {μ : z_M} (F : z_F E own cc nL d) {i : Nat} {x : Nat} {L' : z_L} (hdg : decode cc pc = .ok (.astore i, 2)) (hn : i < nL) (hz : z_nl L i = true) (hL : L.set i (some (.ref x)) = L') (k : z_J E nL (pc + 2) L' st μ) : z_J E nL pc L (.ref x :: st) μ := by
  obtain ⟨⟨l, D, ad, dA, sh⟩, p, e, R, s, m, args, below, meth, c, Q, A, kc, ks⟩ := E
  obtain ⟨hx, hb, hml, hown, hts, hK, hD, hA, hX, hd1, hd2, hc1, hc2⟩ := F
  intro H locs ls hP hS hl
  exact lv_astore hx hb hdg hl.has hn rfl (fun ls' h' => k H locs ls' hP hS (hL ▸ z_store1 (v := .ref x) hz h'))
theorem j_astore_n {E : z_E} {own : String} {cc : ByteArray} {nL d pc : Nat} {L : z_L} {st : List Value} {μ : z_M} (F : z_F E own cc nL d) {q : Fin 4} {x : Nat} {L' : z_L} (hdg : decode cc pc = .ok (.astore_n q, 1)) (hn : (q : Nat) < nL) (hz : z_nl L (q : Nat) = true) (hL : L.set (q : Nat) (some (.ref x)) = L') (k : z_J E nL (pc + 1) L' st μ) : z_J E nL pc L (.ref x :: st) μ := by
  obtain ⟨⟨l, D, ad, dA, sh⟩, p, e, R, s, m, args, below, meth, c, Q, A, kc, ks⟩ := E
  obtain ⟨hx, hb, hml, hown, hts, hK, hD, hA, hX, hd1, hd2, hc1, hc2⟩ := F
  intro H locs ls hP hS hl
  exact lv_astore_n hx hb hdg rfl hl.has hn rfl (fun ls' h' => k H locs ls' hP hS (hL ▸ z_store1 (v := .ref x) hz h'))
theorem j_lstore_n {E : z_E} {own : String} {cc : ByteArray} {nL d pc : Nat} {L : z_L} {st : List Value} {μ : z_M} (F : z_F E own cc nL d) {q : Fin 4} {x : Int64} {L' : z_L} (hdg : decode cc pc = .ok (.lstore_n q, 1)) (hn : (q : Nat) + 1 < nL) (hz : z_nl L (q : Nat) = true) (hL : (L.set (q : Nat) (some (.long x))).set ((q : Nat) + 1) none = L') (k : z_J E nL (pc + 1) L' st μ) : z_J E nL pc L (.long x :: st) μ := by
  obtain ⟨⟨l, D, ad, dA, sh⟩, p, e, R, s, m, args, below, meth, c, Q, A, kc, ks⟩ := E
  obtain ⟨hx, hb, hml, hown, hts, hK, hD, hA, hX, hd1, hd2, hc1, hc2⟩ := F
  intro H locs ls hP hS hl
  exact lv_lstore_n hx hb hdg rfl hl.has hn rfl (fun ls' h' => k H locs ls' hP hS (hL ▸ z_store2 (v := .long x) hz h'))
theorem j_iinc {E : z_E} {own : String} {cc : ByteArray} {nL d pc : Nat} {L : z_L} {st : List Value} {μ : z_M} (F : z_F E own cc nL d) {i : Nat} {n : Int} {x v : Int32} {L' : z_L} (hdg : decode cc pc = .ok (.iinc i n, 3)) (hi : L[i]? = some (some (.int x))) (hv : Int32.ofInt n = v) (hn : i < nL) (hz : z_nl L i = true) (hL : L.set i (some (.int (x + v))) = L') (k : z_J E nL (pc + 3) L' st μ) : z_J E nL pc L st μ := by
  obtain ⟨⟨l, D, ad, dA, sh⟩, p, e, R, s, m, args, below, meth, c, Q, A, kc, ks⟩ := E
  obtain ⟨hx, hb, hml, hown, hts, hK, hD, hA, hX, hd1, hd2, hc1, hc2⟩ := F
  intro H locs ls hP hS hl
  obtain ⟨q, hq⟩ := List.getElem?_of_mem (z_lv_mem (ad := ad) hi)
  exact lv_iinc hx hb hdg hl.has hq (by rw [hv]) hn rfl (fun ls' h' => k H locs ls' hP hS (hL ▸ z_store1 (v := .int (x + v)) hz h'))
theorem j_if_eq {E : z_E} {own : String} {cc : ByteArray} {nL d pc : Nat} {L : z_L} {st : List Value} {μ : z_M} (F : z_F E own cc nL d) {x : Int32} {off : Int} {tgt : Nat} (hdg : decode cc pc = .ok (.ifCond .eq off, 3)) (ht : (pc : Int) + off = (tgt : Int)) (kt : x = 0 → z_J E nL tgt L st μ) (kf : ¬ x = 0 → z_J E nL (pc + 3) L st μ) : z_J E nL pc L (.int x :: st) μ := by
  obtain ⟨⟨l, D, ad, dA, sh⟩, p, e, R, s, m, args, below, meth, c, Q, A, kc, ks⟩ := E
  obtain ⟨hx, hb, hml, hown, hts, hK, hD, hA, hX, hd1, hd2, hc1, hc2⟩ := F
  intro H locs ls hP hS hl
  exact lv_if_eq hx hb hdg ht (fun q => kt q H locs ls hP hS hl) (fun q => kf q H locs ls hP hS hl)
theorem j_icmp_eq {E : z_E} {own : String} {cc : ByteArray} {nL d pc : Nat} {L : z_L} {st : List Value} {μ : z_M} (F : z_F E own cc nL d) {x y : Int32} {off : Int} {tgt : Nat} (hdg : decode cc pc = .ok (.if_icmp .eq off, 3)) (ht : (pc : Int) + off = (tgt : Int)) (kt : x = y → z_J E nL tgt L st μ) (kf : ¬ x = y → z_J E nL (pc + 3) L st μ) : z_J E nL pc L (.int y :: .int x :: st) μ := by
  obtain ⟨⟨l, D, ad, dA, sh⟩, p, e, R, s, m, args, below, meth, c, Q, A, kc, ks⟩ := E
  obtain ⟨hx, hb, hml, hown, hts, hK, hD, hA, hX, hd1, hd2, hc1, hc2⟩ := F
  intro H locs ls hP hS hl
  exact lv_icmp_eq hx hb hdg ht (fun q => kt q H locs ls hP hS hl) (fun q => kf q H locs ls hP hS hl)
theorem j_if_ne {E : z_E} {own : String} {cc : ByteArray} {nL d pc : Nat} {L : z_L} {st : List Value} {μ : z_M} (F : z_F E own cc nL d) {x : Int32} {off : Int} {tgt : Nat} (hdg : decode cc pc = .ok (.ifCond .ne off, 3)) (ht : (pc : Int) + off = (tgt : Int)) (kt : ¬ x = 0 → z_J E nL tgt L st μ) (kf : x = 0 → z_J E nL (pc + 3) L st μ) : z_J E nL pc L (.int x :: st) μ := by
  obtain ⟨⟨l, D, ad, dA, sh⟩, p, e, R, s, m, args, below, meth, c, Q, A, kc, ks⟩ := E
  obtain ⟨hx, hb, hml, hown, hts, hK, hD, hA, hX, hd1, hd2, hc1, hc2⟩ := F
  intro H locs ls hP hS hl
  exact lv_if_ne hx hb hdg ht (fun q => kt q H locs ls hP hS hl) (fun q => kf q H locs ls hP hS hl)
theorem j_icmp_ne {E : z_E} {own : String} {cc : ByteArray} {nL d pc : Nat} {L : z_L} {st : List Value} {μ : z_M} (F : z_F E own cc nL d) {x y : Int32} {off : Int} {tgt : Nat} (hdg : decode cc pc = .ok (.if_icmp .ne off, 3)) (ht : (pc : Int) + off = (tgt : Int)) (kt : ¬ x = y → z_J E nL tgt L st μ) (kf : x = y → z_J E nL (pc + 3) L st μ) : z_J E nL pc L (.int y :: .int x :: st) μ := by
  obtain ⟨⟨l, D, ad, dA, sh⟩, p, e, R, s, m, args, below, meth, c, Q, A, kc, ks⟩ := E
  obtain ⟨hx, hb, hml, hown, hts, hK, hD, hA, hX, hd1, hd2, hc1, hc2⟩ := F
  intro H locs ls hP hS hl
  exact lv_icmp_ne hx hb hdg ht (fun q => kt q H locs ls hP hS hl) (fun q => kf q H locs ls hP hS hl)
theorem j_if_lt {E : z_E} {own : String} {cc : ByteArray} {nL d pc : Nat} {L : z_L} {st : List Value} {μ : z_M} (F : z_F E own cc nL d) {x : Int32} {off : Int} {tgt : Nat} (hdg : decode cc pc = .ok (.ifCond .lt off, 3)) (ht : (pc : Int) + off = (tgt : Int)) (kt : x < 0 → z_J E nL tgt L st μ) (kf : ¬ x < 0 → z_J E nL (pc + 3) L st μ) : z_J E nL pc L (.int x :: st) μ := by
  obtain ⟨⟨l, D, ad, dA, sh⟩, p, e, R, s, m, args, below, meth, c, Q, A, kc, ks⟩ := E
  obtain ⟨hx, hb, hml, hown, hts, hK, hD, hA, hX, hd1, hd2, hc1, hc2⟩ := F
  intro H locs ls hP hS hl
  exact lv_if_lt hx hb hdg ht (fun q => kt q H locs ls hP hS hl) (fun q => kf q H locs ls hP hS hl)
theorem j_icmp_lt {E : z_E} {own : String} {cc : ByteArray} {nL d pc : Nat} {L : z_L} {st : List Value} {μ : z_M} (F : z_F E own cc nL d) {x y : Int32} {off : Int} {tgt : Nat} (hdg : decode cc pc = .ok (.if_icmp .lt off, 3)) (ht : (pc : Int) + off = (tgt : Int)) (kt : x < y → z_J E nL tgt L st μ) (kf : ¬ x < y → z_J E nL (pc + 3) L st μ) : z_J E nL pc L (.int y :: .int x :: st) μ := by
  obtain ⟨⟨l, D, ad, dA, sh⟩, p, e, R, s, m, args, below, meth, c, Q, A, kc, ks⟩ := E
  obtain ⟨hx, hb, hml, hown, hts, hK, hD, hA, hX, hd1, hd2, hc1, hc2⟩ := F
  intro H locs ls hP hS hl
  exact lv_icmp_lt hx hb hdg ht (fun q => kt q H locs ls hP hS hl) (fun q => kf q H locs ls hP hS hl)
theorem j_if_ge {E : z_E} {own : String} {cc : ByteArray} {nL d pc : Nat} {L : z_L} {st : List Value} {μ : z_M} (F : z_F E own cc nL d) {x : Int32} {off : Int} {tgt : Nat} (hdg : decode cc pc = .ok (.ifCond .ge off, 3)) (ht : (pc : Int) + off = (tgt : Int)) (kt : 0 ≤ x → z_J E nL tgt L st μ) (kf : ¬ 0 ≤ x → z_J E nL (pc + 3) L st μ) : z_J E nL pc L (.int x :: st) μ := by
  obtain ⟨⟨l, D, ad, dA, sh⟩, p, e, R, s, m, args, below, meth, c, Q, A, kc, ks⟩ := E
  obtain ⟨hx, hb, hml, hown, hts, hK, hD, hA, hX, hd1, hd2, hc1, hc2⟩ := F
  intro H locs ls hP hS hl
  exact lv_if_ge hx hb hdg ht (fun q => kt q H locs ls hP hS hl) (fun q => kf q H locs ls hP hS hl)
theorem j_icmp_ge {E : z_E} {own : String} {cc : ByteArray} {nL d pc : Nat} {L : z_L} {st : List Value} {μ : z_M} (F : z_F E own cc nL d) {x y : Int32} {off : Int} {tgt : Nat} (hdg : decode cc pc = .ok (.if_icmp .ge off, 3)) (ht : (pc : Int) + off = (tgt : Int)) (kt : y ≤ x → z_J E nL tgt L st μ) (kf : ¬ y ≤ x → z_J E nL (pc + 3) L st μ) : z_J E nL pc L (.int y :: .int x :: st) μ := by
  obtain ⟨⟨l, D, ad, dA, sh⟩, p, e, R, s, m, args, below, meth, c, Q, A, kc, ks⟩ := E
  obtain ⟨hx, hb, hml, hown, hts, hK, hD, hA, hX, hd1, hd2, hc1, hc2⟩ := F
  intro H locs ls hP hS hl
  exact lv_icmp_ge hx hb hdg ht (fun q => kt q H locs ls hP hS hl) (fun q => kf q H locs ls hP hS hl)
theorem j_if_gt {E : z_E} {own : String} {cc : ByteArray} {nL d pc : Nat} {L : z_L} {st : List Value} {μ : z_M} (F : z_F E own cc nL d) {x : Int32} {off : Int} {tgt : Nat} (hdg : decode cc pc = .ok (.ifCond .gt off, 3)) (ht : (pc : Int) + off = (tgt : Int)) (kt : 0 < x → z_J E nL tgt L st μ) (kf : ¬ 0 < x → z_J E nL (pc + 3) L st μ) : z_J E nL pc L (.int x :: st) μ := by
  obtain ⟨⟨l, D, ad, dA, sh⟩, p, e, R, s, m, args, below, meth, c, Q, A, kc, ks⟩ := E
  obtain ⟨hx, hb, hml, hown, hts, hK, hD, hA, hX, hd1, hd2, hc1, hc2⟩ := F
  intro H locs ls hP hS hl
  exact lv_if_gt hx hb hdg ht (fun q => kt q H locs ls hP hS hl) (fun q => kf q H locs ls hP hS hl)
theorem j_icmp_gt {E : z_E} {own : String} {cc : ByteArray} {nL d pc : Nat} {L : z_L} {st : List Value} {μ : z_M} (F : z_F E own cc nL d) {x y : Int32} {off : Int} {tgt : Nat} (hdg : decode cc pc = .ok (.if_icmp .gt off, 3)) (ht : (pc : Int) + off = (tgt : Int)) (kt : y < x → z_J E nL tgt L st μ) (kf : ¬ y < x → z_J E nL (pc + 3) L st μ) : z_J E nL pc L (.int y :: .int x :: st) μ := by
  obtain ⟨⟨l, D, ad, dA, sh⟩, p, e, R, s, m, args, below, meth, c, Q, A, kc, ks⟩ := E
  obtain ⟨hx, hb, hml, hown, hts, hK, hD, hA, hX, hd1, hd2, hc1, hc2⟩ := F
  intro H locs ls hP hS hl
  exact lv_icmp_gt hx hb hdg ht (fun q => kt q H locs ls hP hS hl) (fun q => kf q H locs ls hP hS hl)
theorem j_if_le {E : z_E} {own : String} {cc : ByteArray} {nL d pc : Nat} {L : z_L} {st : List Value} {μ : z_M} (F : z_F E own cc nL d) {x : Int32} {off : Int} {tgt : Nat} (hdg : decode cc pc = .ok (.ifCond .le off, 3)) (ht : (pc : Int) + off = (tgt : Int)) (kt : x ≤ 0 → z_J E nL tgt L st μ) (kf : ¬ x ≤ 0 → z_J E nL (pc + 3) L st μ) : z_J E nL pc L (.int x :: st) μ := by
  obtain ⟨⟨l, D, ad, dA, sh⟩, p, e, R, s, m, args, below, meth, c, Q, A, kc, ks⟩ := E
  obtain ⟨hx, hb, hml, hown, hts, hK, hD, hA, hX, hd1, hd2, hc1, hc2⟩ := F
  intro H locs ls hP hS hl
  exact lv_if_le hx hb hdg ht (fun q => kt q H locs ls hP hS hl) (fun q => kf q H locs ls hP hS hl)
theorem j_icmp_le {E : z_E} {own : String} {cc : ByteArray} {nL d pc : Nat} {L : z_L} {st : List Value} {μ : z_M} (F : z_F E own cc nL d) {x y : Int32} {off : Int} {tgt : Nat} (hdg : decode cc pc = .ok (.if_icmp .le off, 3)) (ht : (pc : Int) + off = (tgt : Int)) (kt : x ≤ y → z_J E nL tgt L st μ) (kf : ¬ x ≤ y → z_J E nL (pc + 3) L st μ) : z_J E nL pc L (.int y :: .int x :: st) μ := by
  obtain ⟨⟨l, D, ad, dA, sh⟩, p, e, R, s, m, args, below, meth, c, Q, A, kc, ks⟩ := E
  obtain ⟨hx, hb, hml, hown, hts, hK, hD, hA, hX, hd1, hd2, hc1, hc2⟩ := F
  intro H locs ls hP hS hl
  exact lv_icmp_le hx hb hdg ht (fun q => kt q H locs ls hP hS hl) (fun q => kf q H locs ls hP hS hl)
theorem j_goto {E : z_E} {own : String} {cc : ByteArray} {nL d pc : Nat} {L : z_L} {st : List Value} {μ : z_M} (F : z_F E own cc nL d) {off : Int} {tgt : Nat} (hdg : decode cc pc = .ok (.goto off, 3)) (ht : (pc : Int) + off = (tgt : Int)) (k : z_J E nL tgt L st μ) : z_J E nL pc L st μ := by
  obtain ⟨⟨l, D, ad, dA, sh⟩, p, e, R, s, m, args, below, meth, c, Q, A, kc, ks⟩ := E
  obtain ⟨hx, hb, hml, hown, hts, hK, hD, hA, hX, hd1, hd2, hc1, hc2⟩ := F
  intro H locs ls hP hS hl
  exact lv_goto hx hb hdg ht (k H locs ls hP hS hl)
theorem j_tableIn {E : z_E} {own : String} {cc : ByteArray} {nL d pc : Nat} {L : z_L} {st : List Value} {μ : z_M} (F : z_F E own cc nL d) {dflt lo hi : Int} {offs : Array Int} {len : Nat} {x : Int32} {off : Int} {tgt : Nat} (hdg : decode cc pc = .ok (.tableswitch dflt lo hi offs, len)) (h1 : ¬ x.toInt < lo) (h2 : ¬ hi < x.toInt) (ho : offs[(x.toInt - lo).toNat]? = some off) (ht : (pc : Int) + off = (tgt : Int)) (k : z_J E nL tgt L st μ) : z_J E nL pc L (.int x :: st) μ := by
  obtain ⟨⟨l, D, ad, dA, sh⟩, p, e, R, s, m, args, below, meth, c, Q, A, kc, ks⟩ := E
  obtain ⟨hx, hb, hml, hown, hts, hK, hD, hA, hX, hd1, hd2, hc1, hc2⟩ := F
  intro H locs ls hP hS hl
  exact lv_tableIn hx hb hdg h1 h2 ho ht (k H locs ls hP hS hl)
theorem j_tableOut {E : z_E} {own : String} {cc : ByteArray} {nL d pc : Nat} {L : z_L} {st : List Value} {μ : z_M} (F : z_F E own cc nL d) {dflt lo hi : Int} {offs : Array Int} {len : Nat} {x : Int32} {tgt : Nat} (hdg : decode cc pc = .ok (.tableswitch dflt lo hi offs, len)) (h : x.toInt < lo ∨ hi < x.toInt) (ht : (pc : Int) + dflt = (tgt : Int)) (k : z_J E nL tgt L st μ) : z_J E nL pc L (.int x :: st) μ := by
  obtain ⟨⟨l, D, ad, dA, sh⟩, p, e, R, s, m, args, below, meth, c, Q, A, kc, ks⟩ := E
  obtain ⟨hx, hb, hml, hown, hts, hK, hD, hA, hX, hd1, hd2, hc1, hc2⟩ := F
  intro H locs ls hP hS hl
  exact lv_tableOut hx hb hdg h ht (k H locs ls hP hS hl)
theorem j_mk {E : z_E} {own : String} {cc : ByteArray} {nL d pc : Nat} {L : z_L} {st : List Value} {μ : z_M} (F : z_F E own cc nL d) (b : List Bool) {L' : z_L} (hL : z_mk b L = L') (k : z_J E nL pc L' st μ) : z_J E nL pc L st μ := by
  obtain ⟨⟨l, D, ad, dA, sh⟩, p, e, R, s, m, args, below, meth, c, Q, A, kc, ks⟩ := E
  obtain ⟨hx, hb, hml, hown, hts, hK, hD, hA, hX, hd1, hd2, hc1, hc2⟩ := F
  intro H locs ls hP hS hl
  exact k H locs ls hP hS (hL ▸ hl.mk b)
theorem j_ldc2 {E : z_E} {own : String} {cc : ByteArray} {nL d pc : Nat} {L : z_L} {st : List Value} {μ : z_M} (F : z_F E own cc nL d) {index : Nat} {v : Int64} (hw : Cond.constantLong own index v ∈ z_T) (hdg : decode cc pc = .ok (.ldc2_w index, 3)) (k : z_J E nL (pc + 3) L (.long v :: st) μ) : z_J E nL pc L st μ := by
  obtain ⟨⟨l, D, ad, dA, sh⟩, p, e, R, s, m, args, below, meth, c, Q, A, kc, ks⟩ := E
  obtain ⟨hx, hb, hml, hown, hts, hK, hD, hA, hX, hd1, hd2, hc1, hc2⟩ := F
  intro H locs ls hP hS hl
  exact lv_ldc2 hx hb hown (hts _ hw) hdg (k H locs ls hP hS hl)
/-- field k of class ci, as own's pool spells it at idx -/
def z_fl (own : String) (idx ci k : Nat) : Prop := ∃ (C : String) (T : u_T) (N : Nat), z_cl[ci]? = some (C, T, N) ∧ k < N ∧ (∀ w ∈ u_ws C T N, w ∈ z_T) ∧ Cond.fieldLink own idx (T k).1 (T k).2.1 (T k).2.2.1 ∈ z_T
/-- it may be written; its type -/
def z_fp (ci k : Nat) (fin : Bool) (ty : FieldType) : Prop := ∃ (C : String) (T : u_T) (N : Nat) (tn : Nat → FieldType), z_cl[ci]? = some (C, T, N) ∧ (T k).2.2.2 = fin ∧ (T k).1 = C ∧ parseFieldDescriptor (T k).2.2.1 = some ty ∧ (∀ k, k < N → parseFieldDescriptor (T k).2.2.1 = some (tn k)) ∧ (∀ a, a < N → ∀ b, b < N → a ≠ b → (T a).2.1 ≠ (T b).2.1)
theorem z_fs_get {ad : Nat → Nat} {μ : z_M} {i k q : Nat} {ks : List Nat} (hk : ks[k]? = some q) : (ks.mapIdx (fun k q => z_f ad μ i k q))[k]? = some (z_f ad μ i k q) := by
  simp [List.getElem?_mapIdx, hk]
theorem j_getI {E : z_E} {own : String} {cc : ByteArray} {nL d pc : Nat} {L : z_L} {st : List Value} {μ : z_M} (F : z_F E own cc nL d) {o k ci idx : Nat} {fs : List Nat}  (hf : z_fl own idx ci k) (hs : (z_sh E.1)[o]? = some (.inr (ci, fs))) (hk : fs[k]? = some 0) (hdg : decode cc pc = .ok (.getfield idx, 3)) (kk : z_J E nL (pc + 3) L (.int (μ.1 o k) :: st) μ) : z_J E nL pc L (.ref o :: st) μ := by
  obtain ⟨⟨l, D, ad, dA, sh⟩, p, e, R, s, m, args, below, meth, c, Q, A, kc, ks⟩ := E
  obtain ⟨hx, hb, hml, hown, hts, hK, hD, hA, hX, hd1, hd2, hc1, hc2⟩ := F
  intro H locs ls hP hS hl
  obtain ⟨C, T, N, g1, g2, g3, g4⟩ := hf
  exact va_get (D := D) hx hb hts g3 hown hK hP o (z_w_get hs) g1 k g2 (hts _ g4) (fun _ h9 => h9) (z_fs_get hk) hdg (kk H locs ls hP hS hl)
theorem j_getL {E : z_E} {own : String} {cc : ByteArray} {nL d pc : Nat} {L : z_L} {st : List Value} {μ : z_M} (F : z_F E own cc nL d) {o k ci idx : Nat} {fs : List Nat}  (hf : z_fl own idx ci k) (hs : (z_sh E.1)[o]? = some (.inr (ci, fs))) (hk : fs[k]? = some 1) (hdg : decode cc pc = .ok (.getfield idx, 3)) (kk : z_J E nL (pc + 3) L (.long (μ.2.1 o k) :: st) μ) : z_J E nL pc L (.ref o :: st) μ := by
  obtain ⟨⟨l, D, ad, dA, sh⟩, p, e, R, s, m, args, below, meth, c, Q, A, kc, ks⟩ := E
  obtain ⟨hx, hb, hml, hown, hts, hK, hD, hA, hX, hd1, hd2, hc1, hc2⟩ := F
  intro H locs ls hP hS hl
  obtain ⟨C, T, N, g1, g2, g3, g4⟩ := hf
  exact va_get (D := D) hx hb hts g3 hown hK hP o (z_w_get hs) g1 k g2 (hts _ g4) (fun _ h9 => h9) (z_fs_get hk) hdg (kk H locs ls hP hS hl)
theorem j_getR {E : z_E} {own : String} {cc : ByteArray} {nL d pc : Nat} {L : z_L} {st : List Value} {μ : z_M} (F : z_F E own cc nL d) {o k ci idx : Nat} {fs : List Nat} {r : Nat} (hr : μ.2.2 o k = some r) (hf : z_fl own idx ci k) (hs : (z_sh E.1)[o]? = some (.inr (ci, fs))) (hk : fs[k]? = some 2) (hdg : decode cc pc = .ok (.getfield idx, 3)) (kk : z_J E nL (pc + 3) L (.ref r :: st) μ) : z_J E nL pc L (.ref o :: st) μ := by
  obtain ⟨⟨l, D, ad, dA, sh⟩, p, e, R, s, m, args, below, meth, c, Q, A, kc, ks⟩ := E
  obtain ⟨hx, hb, hml, hown, hts, hK, hD, hA, hX, hd1, hd2, hc1, hc2⟩ := F
  intro H locs ls hP hS hl
  obtain ⟨C, T, N, g1, g2, g3, g4⟩ := hf
  have hv : z_f ad μ o k 2 = .ref (ad r) := by simp [z_f, hr, va_rf]
  exact va_get (D := D) hx hb hts g3 hown hK hP o (z_w_get hs) g1 k g2 (hts _ g4) (fun _ h9 => h9) ((z_fs_get hk).trans (congrArg some hv)) hdg (kk H locs ls hP hS hl)
theorem j_putI {E : z_E} {own : String} {cc : ByteArray} {nL d pc : Nat} {L : z_L} {st : List Value} {μ : z_M} (F : z_F E own cc nL d) {o k ci idx : Nat} {fs : List Nat} {x : Int32}  (hf : z_fl own idx ci k) (hp : z_fp ci k false .int) (hs : (z_sh E.1)[o]? = some (.inr (ci, fs))) (hk : fs[k]? = some 0) (hdg : decode cc pc = .ok (.putfield idx, 3)) (kk : z_J E nL (pc + 3) L st (z_si μ o k x)) : z_J E nL pc L (.int x :: .ref o :: st) μ := by
  obtain ⟨⟨l, D, ad, dA, sh⟩, p, e, R, s, m, args, below, meth, c, Q, A, kc, ks⟩ := E
  obtain ⟨hx, hb, hml, hown, hts, hK, hD, hA, hX, hd1, hd2, hc1, hc2⟩ := F
  intro H locs ls hP hS hl
  obtain ⟨C, T, N, g1, g2, g3, g4⟩ := hf
  obtain ⟨C', T', N', tn, f1, f2, f3, f4, f5, f6⟩ := hp
  cases g1.symm.trans f1
  have hv : z_f ad (z_si μ o k x) o k 0 = z_v ad (.int x) := by simp [z_f, z_si, upd, z_v]
  refine va_put (D := D) hx hb hts g3 tn f5 f6 hown hK hP (hD μ) hS o (z_w_get hs) g1 k g2 (hts _ g4) (fun _ h9 => h9) f2 f4 rfl rfl (by have := (List.getElem?_eq_some_iff.mp hk).1; simpa using this) hdg (fun H1 locs1 hP1 hD1 hS1 => ?_)
  refine kk H1 locs1 ls ?_ hS1 hl
  rw [← z_w_set hs z_e_si]
  rw [← hv, z_fs_set hk z_f_si] at hP1
  exact hP1
theorem j_putZ {E : z_E} {own : String} {cc : ByteArray} {nL d pc : Nat} {L : z_L} {st : List Value} {μ : z_M} (F : z_F E own cc nL d) {o k ci idx : Nat} {fs : List Nat} {x : Int32} (hz : x = 0 ∨ x = 1)  (hf : z_fl own idx ci k) (hp : z_fp ci k false .boolean) (hs : (z_sh E.1)[o]? = some (.inr (ci, fs))) (hk : fs[k]? = some 0) (hdg : decode cc pc = .ok (.putfield idx, 3)) (kk : z_J E nL (pc + 3) L st (z_si μ o k x)) : z_J E nL pc L (.int x :: .ref o :: st) μ := by
  obtain ⟨⟨l, D, ad, dA, sh⟩, p, e, R, s, m, args, below, meth, c, Q, A, kc, ks⟩ := E
  obtain ⟨hx, hb, hml, hown, hts, hK, hD, hA, hX, hd1, hd2, hc1, hc2⟩ := F
  intro H locs ls hP hS hl
  obtain ⟨C, T, N, g1, g2, g3, g4⟩ := hf
  obtain ⟨C', T', N', tn, f1, f2, f3, f4, f5, f6⟩ := hp
  cases g1.symm.trans f1
  have hv : z_f ad (z_si μ o k x) o k 0 = z_v ad (.int x) := by simp [z_f, z_si, upd, z_v]
  refine va_put (D := D) hx hb hts g3 tn f5 f6 hown hK hP (hD μ) hS o (z_w_get hs) g1 k g2 (hts _ g4) (fun _ h9 => h9) f2 f4 (by rcases hz with rfl | rfl <;> rfl) (by rcases hz with rfl | rfl <;> rfl) (by have := (List.getElem?_eq_some_iff.mp hk).1; simpa using this) hdg (fun H1 locs1 hP1 hD1 hS1 => ?_)
  refine kk H1 locs1 ls ?_ hS1 hl
  rw [← z_w_set hs z_e_si]
  rw [← hv, z_fs_set hk z_f_si] at hP1
  exact hP1
theorem j_putL {E : z_E} {own : String} {cc : ByteArray} {nL d pc : Nat} {L : z_L} {st : List Value} {μ : z_M} (F : z_F E own cc nL d) {o k ci idx : Nat} {fs : List Nat} {x : Int64}  (hf : z_fl own idx ci k) (hp : z_fp ci k false .long) (hs : (z_sh E.1)[o]? = some (.inr (ci, fs))) (hk : fs[k]? = some 1) (hdg : decode cc pc = .ok (.putfield idx, 3)) (kk : z_J E nL (pc + 3) L st (z_sl μ o k x)) : z_J E nL pc L (.long x :: .ref o :: st) μ := by
  obtain ⟨⟨l, D, ad, dA, sh⟩, p, e, R, s, m, args, below, meth, c, Q, A, kc, ks⟩ := E
  obtain ⟨hx, hb, hml, hown, hts, hK, hD, hA, hX, hd1, hd2, hc1, hc2⟩ := F
  intro H locs ls hP hS hl
  obtain ⟨C, T, N, g1, g2, g3, g4⟩ := hf
  obtain ⟨C', T', N', tn, f1, f2, f3, f4, f5, f6⟩ := hp
  cases g1.symm.trans f1
  have hv : z_f ad (z_sl μ o k x) o k 1 = z_v ad (.long x) := by simp [z_f, z_sl, vp_updL, z_v]
  refine va_put (D := D) hx hb hts g3 tn f5 f6 hown hK hP (hD μ) hS o (z_w_get hs) g1 k g2 (hts _ g4) (fun _ h9 => h9) f2 f4 rfl rfl (by have := (List.getElem?_eq_some_iff.mp hk).1; simpa using this) hdg (fun H1 locs1 hP1 hD1 hS1 => ?_)
  refine kk H1 locs1 ls ?_ hS1 hl
  rw [← z_w_set hs z_e_sl]
  rw [← hv, z_fs_set hk z_f_sl] at hP1
  exact hP1
theorem j_putR {E : z_E} {own : String} {cc : ByteArray} {nL d pc : Nat} {L : z_L} {st : List Value} {μ : z_M} (F : z_F E own cc nL d) {o k ci idx : Nat} {fs : List Nat} {r : Nat} {tr : FieldType} (htr : (∃ C, tr = .object C) ∨ ∃ t, tr = .array t)  (hf : z_fl own idx ci k) (hp : z_fp ci k false tr) (hs : (z_sh E.1)[o]? = some (.inr (ci, fs))) (hk : fs[k]? = some 2) (hdg : decode cc pc = .ok (.putfield idx, 3)) (kk : z_J E nL (pc + 3) L st (z_sr μ o k (some r))) : z_J E nL pc L (.ref r :: .ref o :: st) μ := by
  obtain ⟨⟨l, D, ad, dA, sh⟩, p, e, R, s, m, args, below, meth, c, Q, A, kc, ks⟩ := E
  obtain ⟨hx, hb, hml, hown, hts, hK, hD, hA, hX, hd1, hd2, hc1, hc2⟩ := F
  intro H locs ls hP hS hl
  obtain ⟨C, T, N, g1, g2, g3, g4⟩ := hf
  obtain ⟨C', T', N', tn, f1, f2, f3, f4, f5, f6⟩ := hp
  cases g1.symm.trans f1
  have hv : z_f ad (z_sr μ o k (some r)) o k 2 = z_v ad (.ref r) := by simp [z_f, z_sr, va_up, va_rf, z_v]
  refine va_put (D := D) hx hb hts g3 tn f5 f6 hown hK hP (hD μ) hS o (z_w_get hs) g1 k g2 (hts _ g4) (fun _ h9 => h9) f2 f4 (by rcases htr with ⟨C, rfl⟩ | ⟨t, rfl⟩ <;> rfl) (by rcases htr with ⟨C, rfl⟩ | ⟨t, rfl⟩ <;> rfl) (by have := (List.getElem?_eq_some_iff.mp hk).1; simpa using this) hdg (fun H1 locs1 hP1 hD1 hS1 => ?_)
  refine kk H1 locs1 ls ?_ hS1 hl
  rw [← z_w_set hs z_e_sr]
  rw [← hv, z_fs_set hk z_f_sr] at hP1
  exact hP1
theorem j_putRF {E : z_E} {own : String} {cc : ByteArray} {nL d pc : Nat} {L : z_L} {st : List Value} {μ : z_M} (F : z_F E own cc nL d) {o k ci idx : Nat} {fs : List Nat} {r : Nat} {tr : FieldType} (htr : (∃ C, tr = .object C) ∨ ∃ t, tr = .array t) (hinit : E.2.2.2.2.2.2.2.2.1.name = "<init>") (hC : ∀ C T N, z_cl[ci]? = some (C, T, N) → C = own) (hf : z_fl own idx ci k) (hp : z_fp ci k true tr) (hs : (z_sh E.1)[o]? = some (.inr (ci, fs))) (hk : fs[k]? = some 2) (hdg : decode cc pc = .ok (.putfield idx, 3)) (kk : z_J E nL (pc + 3) L st (z_sr μ o k (some r))) : z_J E nL pc L (.ref r :: .ref o :: st) μ := by
  obtain ⟨⟨l, D, ad, dA, sh⟩, p, e, R, s, m, args, below, meth, c, Q, A, kc, ks⟩ := E
  obtain ⟨hx, hb, hml, hown, hts, hK, hD, hA, hX, hd1, hd2, hc1, hc2⟩ := F
  intro H locs ls hP hS hl
  obtain ⟨C, T, N, g1, g2, g3, g4⟩ := hf
  obtain ⟨C', T', N', tn, f1, f2, f3, f4, f5, f6⟩ := hp
  cases g1.symm.trans f1
  have hv : z_f ad (z_sr μ o k (some r)) o k 2 = z_v ad (.ref r) := by simp [z_f, z_sr, va_up, va_rf, z_v]
  refine va_putF (D := D) hx hb hts g3 tn f5 f6 hown hK hP (hD μ) hS o (z_w_get hs) g1 k g2 (hts _ g4) (fun _ h9 => h9) f2 hinit (f3.trans (hC _ _ _ g1)) f4 (by rcases htr with ⟨C, rfl⟩ | ⟨t, rfl⟩ <;> rfl) (by rcases htr with ⟨C, rfl⟩ | ⟨t, rfl⟩ <;> rfl) (by have := (List.getElem?_eq_some_iff.mp hk).1; simpa using this) hdg (fun H1 locs1 hP1 hD1 hS1 => ?_)
  refine kk H1 locs1 ls ?_ hS1 hl
  rw [← z_w_set hs z_e_sr]
  rw [← hv, z_fs_set hk z_f_sr] at hP1
  exact hP1
theorem j_iald {E : z_E} {own : String} {cc : ByteArray} {nL d pc : Nat} {L : z_L} {st : List Value} {μ : z_M} (F : z_F E own cc nL d) {a n : Nat} {i : Int32} (hs : (z_sh E.1)[a]? = some (.inl (0, n))) (hin : vp_in i n) (hdg : decode cc pc = .ok (.iaload, 1)) (kk : z_J E nL (pc + 1) L (.int (μ.1 a i.toNatClampNeg) :: st) μ) : z_J E nL pc L (.int i :: .ref a :: st) μ := by
  obtain ⟨⟨l, D, ad, dA, sh⟩, p, e, R, s, m, args, below, meth, c, Q, A, kc, ks⟩ := E
  obtain ⟨hx, hb, hml, hown, hts, hK, hD, hA, hX, hd1, hd2, hc1, hc2⟩ := F
  intro H locs ls hP hS hl
  exact va_iald (f := μ.1 a) hx hb hK hP a 0 (z_w_get hs) rfl hin hdg (kk H locs ls hP hS hl)
theorem j_zald {E : z_E} {own : String} {cc : ByteArray} {nL d pc : Nat} {L : z_L} {st : List Value} {μ : z_M} (F : z_F E own cc nL d) {a n : Nat} {i : Int32} (hs : (z_sh E.1)[a]? = some (.inl (1, n))) (hin : vp_in i n) (hdg : decode cc pc = .ok (.baload, 1)) (kk : z_J E nL (pc + 1) L (.int (μ.1 a i.toNatClampNeg) :: st) μ) : z_J E nL pc L (.int i :: .ref a :: st) μ := by
  obtain ⟨⟨l, D, ad, dA, sh⟩, p, e, R, s, m, args, below, meth, c, Q, A, kc, ks⟩ := E
  obtain ⟨hx, hb, hml, hown, hts, hK, hD, hA, hX, hd1, hd2, hc1, hc2⟩ := F
  intro H locs ls hP hS hl
  exact va_zald (f := μ.1 a) hx hb hK hP a 1 (z_w_get hs) rfl hin hdg (kk H locs ls hP hS hl)
theorem j_iast {E : z_E} {own : String} {cc : ByteArray} {nL d pc : Nat} {L : z_L} {st : List Value} {μ : z_M} (F : z_F E own cc nL d) {a n : Nat} {i x : Int32} (hs : (z_sh E.1)[a]? = some (.inl (0, n))) (hin : vp_in i n) (hdg : decode cc pc = .ok (.iastore, 1)) (kk : z_J E nL (pc + 1) L st (z_si μ a i.toNatClampNeg x)) : z_J E nL pc L (.int x :: .int i :: .ref a :: st) μ := by
  obtain ⟨⟨l, D, ad, dA, sh⟩, p, e, R, s, m, args, below, meth, c, Q, A, kc, ks⟩ := E
  obtain ⟨hx, hb, hml, hown, hts, hK, hD, hA, hX, hd1, hd2, hc1, hc2⟩ := F
  intro H locs ls hP hS hl
  refine va_iast (f := μ.1 a) hx hb hK hP (hD μ) hS a 0 (z_w_get hs) rfl hin hdg (fun H1 locs1 hP1 hD1 hS1 => ?_)
  refine kk H1 locs1 ls ?_ hS1 hl
  rw [← z_w_set hs z_e_si]
  have e : z_e ad dA (z_si μ a i.toNatClampNeg x) a (.inl (0, n)) = .inl (dA 0, n, .inl (upd (μ.1 a) i.toNatClampNeg x)) := by simp [z_e, z_si]
  rw [e]
  exact hP1
theorem j_zast {E : z_E} {own : String} {cc : ByteArray} {nL d pc : Nat} {L : z_L} {st : List Value} {μ : z_M} (F : z_F E own cc nL d) {a n : Nat} {i x : Int32} (hs : (z_sh E.1)[a]? = some (.inl (1, n))) (hin : vp_in i n) (hdg : decode cc pc = .ok (.bastore, 1)) (kk : z_J E nL (pc + 1) L st (z_si μ a i.toNatClampNeg (x &&& 1))) : z_J E nL pc L (.int x :: .int i :: .ref a :: st) μ := by
  obtain ⟨⟨l, D, ad, dA, sh⟩, p, e, R, s, m, args, below, meth, c, Q, A, kc, ks⟩ := E
  obtain ⟨hx, hb, hml, hown, hts, hK, hD, hA, hX, hd1, hd2, hc1, hc2⟩ := F
  intro H locs ls hP hS hl
  refine va_zast (f := μ.1 a) hx hb hK hP (hD μ) hS a 1 (z_w_get hs) rfl hin hdg (fun H1 locs1 hP1 hD1 hS1 => ?_)
  refine kk H1 locs1 ls ?_ hS1 hl
  rw [← z_w_set hs z_e_si]
  have e : z_e ad dA (z_si μ a i.toNatClampNeg (x &&& 1)) a (.inl (1, n)) = .inl (dA 1, n, .inl (upd (μ.1 a) i.toNatClampNeg (x &&& 1))) := by simp [z_e, z_si]
  rw [e]
  exact hP1
theorem j_alen {E : z_E} {own : String} {cc : ByteArray} {nL d pc : Nat} {L : z_L} {st : List Value} {μ : z_M} (F : z_F E own cc nL d) {a n t : Nat} {v : Int32} (hs : (z_sh E.1)[a]? = some (.inl (t, n))) (ht : t < 5) (hv : Int32.ofNat n = v) (hdg : decode cc pc = .ok (.arraylength, 1)) (kk : z_J E nL (pc + 1) L (.int v :: st) μ) : z_J E nL pc L (.ref a :: st) μ := by
  obtain ⟨⟨l, D, ad, dA, sh⟩, p, e, R, s, m, args, below, meth, c, Q, A, kc, ks⟩ := E
  obtain ⟨hx, hb, hml, hown, hts, hK, hD, hA, hX, hd1, hd2, hc1, hc2⟩ := F
  intro H locs ls hP hS hl
  have hq : ∃ ty, (z_tys dA)[t]? = some (dA t, ty) := by
    match t, ht with
    | 0, _ => exact ⟨_, rfl⟩
    | 1, _ => exact ⟨_, rfl⟩
    | 2, _ => exact ⟨_, rfl⟩
    | 3, _ => exact ⟨_, rfl⟩
    | 4, _ => exact ⟨_, rfl⟩
  obtain ⟨ty, hq⟩ := hq
  exact va_alen hx hb hK hP a t (z_w_get hs) hq hv hdg (kk H locs ls hP hS hl)
theorem j_aald {E : z_E} {own : String} {cc : ByteArray} {nL d pc : Nat} {L : z_L} {st : List Value} {μ : z_M} (F : z_F E own cc nL d) {a n t r : Nat} {i : Int32} (hs : (z_sh E.1)[a]? = some (.inl (t, n))) (ht : 2 ≤ t ∧ t < 5) (hin : vp_in i n) (hr : μ.2.2 a i.toNatClampNeg = some r) (hdg : decode cc pc = .ok (.aaload, 1)) (kk : z_J E nL (pc + 1) L (.ref r :: st) μ) : z_J E nL pc L (.int i :: .ref a :: st) μ := by
  obtain ⟨⟨l, D, ad, dA, sh⟩, p, e, R, s, m, args, below, meth, c, Q, A, kc, ks⟩ := E
  obtain ⟨hx, hb, hml, hown, hts, hK, hD, hA, hX, hd1, hd2, hc1, hc2⟩ := F
  intro H locs ls hP hS hl
  have hq : ∃ ty, (z_tys dA)[t]? = some (dA t, ty) ∧ ty.isReference = true := by
    match t, ht with
    | 2, _ => exact ⟨_, rfl, rfl⟩
    | 3, _ => exact ⟨_, rfl, rfl⟩
    | 4, _ => exact ⟨_, rfl, rfl⟩
  obtain ⟨ty, hq, hty⟩ := hq
  have hlt : i.toNatClampNeg < n := Nat.not_le.mp fun q => hin (Or.inr q)
  have e : z_e ad dA μ a (.inl (t, n)) = .inl (dA t, n, .inr (.inr (.inr (.inr (fun k => (μ.2.2 a k).map ad))))) := by
    simp only [z_e]
    rw [if_neg (by omega)]
  have hc := hP a _ (z_w_get hs)
  rw [e] at hc
  refine W.aald (v := .ref (ad r)) (ty := ty) hx hb hc ((hK.2 t _ hq).1 n (fun j => va_rf ((μ.2.2 a j).map ad))) hty (fun q => by cases q) (by show ¬ (i < 0 ∨ (arrV _ _ _).slots.size ≤ _); rw [arrV_size]; exact hin) (by show (arrV _ _ _).slots[_]? = _; rw [arrV_read _ _ hlt]; simp [hr, va_rf]) rfl rfl hdg (kk H locs ls hP hS hl)
theorem j_aast {E : z_E} {own : String} {cc : ByteArray} {nL d pc : Nat} {L : z_L} {st : List Value} {μ : z_M} (F : z_F E own cc nL d) {a n t r ci : Nat} {fs : List Nat} {i : Int32} (q0 : vw_C) (hs : (z_sh E.1)[a]? = some (.inl (t, n))) (ht : (t = 2 ∧ ci = 0) ∨ (t = 3 ∧ ci = 3)) (hin : vp_in i n) (hr : (z_sh E.1)[r]? = some (.inr (ci, fs))) (hdg : decode cc pc = .ok (.aastore, 1)) (kk : z_J E nL (pc + 1) L st (z_sr μ a i.toNatClampNeg (some r))) : z_J E nL pc L (.ref r :: .int i :: .ref a :: st) μ := by
  obtain ⟨⟨l, D, ad, dA, sh⟩, p, e, R, s, m, args, below, meth, c, Q, A, kc, ks⟩ := E
  obtain ⟨hx, hb, hml, hown, hts, hK, hD, hA, hX, hd1, hd2, hc1, hc2⟩ := F
  intro H locs ls hP hS hl
  have hq : ∃ q0 : vw_C, z_cl[ci]? = some q0 ∧ (z_tys dA)[t]? = some (dA t, .object q0.1) ∧ 2 ≤ t := by
    rcases ht with ⟨rfl, rfl⟩ | ⟨rfl, rfl⟩
    · exact ⟨_, rfl, rfl, by omega⟩
    · exact ⟨_, rfl, rfl, by omega⟩
  obtain ⟨q0, hq1, hq2, hq3⟩ := hq
  have e : ∀ ν : z_M, z_e ad dA ν a (.inl (t, n)) = .inl (dA t, n, .inr (.inr (.inr (.inr (fun k => (ν.2.2 a k).map ad))))) := by
    intro ν
    simp only [z_e]
    rw [if_neg (by omega)]
  refine va_astq (r := q0) hx hb hK hP (hD μ) hS a t r ci (by rw [z_w_get hs, e]) hq2 (z_w_get hr) hq1 hin hdg (fun H1 locs1 hP1 hD1 hS1 => ?_)
  refine kk H1 locs1 ls ?_ hS1 hl
  rw [← z_w_set hs z_e_sr, e]
  have e2 : (fun k => ((z_sr μ a i.toNatClampNeg (some r)).2.2 a k).map ad) = va_up (fun k => (μ.2.2 a k).map ad) i.toNatClampNeg (some (ad r)) := by
    funext k
    by_cases hk : k = i.toNatClampNeg
    · simp [z_sr, va_up, hk]
    · simp [z_sr, va_up, hk]
  rw [e2]
  exact hP1
theorem j_iret {E : z_E} {own : String} {cc : ByteArray} {nL d pc : Nat} {L : z_L} {st : List Value} {μ : z_M} (F : z_F E own cc nL d) {ret : FieldType} {P : Option Value → z_M → Prop} (Rt : z_R E (some ret) P) {x : Int32} (hn : narrow ret (.int x) = .int x) (hdg : decode cc pc = .ok (.ireturn, 1)) (h : P (some (.int x)) μ) : z_J E nL pc L [.int x] μ := by
  obtain ⟨⟨l, D, ad, dA, sh⟩, p, e, R, s, m, args, below, meth, c, Q, A, kc, ks⟩ := E
  obtain ⟨hx, hb, hml, hown, hts, hK, hD, hA, hX, hd1, hd2, hc1, hc2⟩ := F
  obtain ⟨hlocks, hr, rfl⟩ := Rt
  intro H locs ls hP hS hl
  exact W.zret hx hb hr hn (fun t ht hW => ⟨⟨some (.int x), μ, rfl, h, by rw [ht]; exact hP⟩, hS.F ht⟩) hS.2.2 hdg hlocks
theorem j_lret {E : z_E} {own : String} {cc : ByteArray} {nL d pc : Nat} {L : z_L} {st : List Value} {μ : z_M} (F : z_F E own cc nL d) {P : Option Value → z_M → Prop} (Rt : z_R E (some .long) P) {x : Int64} (hdg : decode cc pc = .ok (.lreturn, 1)) (h : P (some (.long x)) μ) : z_J E nL pc L [.long x] μ := by
  obtain ⟨⟨l, D, ad, dA, sh⟩, p, e, R, s, m, args, below, meth, c, Q, A, kc, ks⟩ := E
  obtain ⟨hx, hb, hml, hown, hts, hK, hD, hA, hX, hd1, hd2, hc1, hc2⟩ := F
  obtain ⟨hlocks, hr, rfl⟩ := Rt
  intro H locs ls hP hS hl
  exact W.lret hx hb hr (fun t ht hW => ⟨⟨some (.long x), μ, rfl, h, by rw [ht]; exact hP⟩, hS.F ht⟩) hS.2.2 hdg hlocks
theorem j_vret {E : z_E} {own : String} {cc : ByteArray} {nL d pc : Nat} {L : z_L} {st : List Value} {μ : z_M} (F : z_F E own cc nL d) {P : Option Value → z_M → Prop} (Rt : z_R E none P) (hdg : decode cc pc = .ok (.return_, 1)) (h : P none μ) : z_J E nL pc L [] μ := by
  obtain ⟨⟨l, D, ad, dA, sh⟩, p, e, R, s, m, args, below, meth, c, Q, A, kc, ks⟩ := E
  obtain ⟨hx, hb, hml, hown, hts, hK, hD, hA, hX, hd1, hd2, hc1, hc2⟩ := F
  obtain ⟨hlocks, hr, rfl⟩ := Rt
  intro H locs ls hP hS hl
  exact W.vret hx hb hr (fun t ht hW => ⟨⟨none, μ, rfl, h, by rw [ht]; exact hP⟩, hS.F ht⟩) hS.2.2 hdg hlocks
end
section
/-! THE ROWS OF CALLS -/
section ZGo
variable {p : Program} {l : Launch} {e : Env} {R : Room} {s : State} {m : MethodId} {args : Array Value} {below : List Frame} {meth : Method} {c : Code} {H : Heap} {locs : List Loc} {kc ks : Nat} {Q : State → Prop} {D : va_G} {ad : Nat → Nat} {dA : Nat → ClassId} {sh : List z_H} {A : Nat → Prop} {pc : Nat} {ls : Array Slot}
theorem z_go {rest st0 : List Value} {a : Array Value} {A1 : Nat → Prop} {free : Addr → Prop} {P : Option Value → z_M → Prop} (hr : va_Run p l e R s m args below meth c H locs kc ks 0 0 (F0 m pc ls st0) rest (z_Qc (l, D, ad, dA, sh) A1 P a) free) (hS : va_S A s.heap H locs) (hA : ∀ q, q < H.size → A1 q → A q) (hf : ∀ q, free q → A q)
    (kk : ∀ (v : Option Value) (μ' : z_M) (H1 : Heap) (locs1 : List Loc), P v μ' → va_P D z_cl (z_w ad dA sh μ') H1 → va_S A s.heap H1 locs1 → W p l e R s m args below meth c H1 locs1 kc ks Q (F0 m (pc + 3) ls ((v.map (z_v ad)).toList ++ rest))) : W p l e R s m args below meth c H locs kc ks Q (F0 m pc ls st0) := by
  intro T hT X
  obtain ⟨v, st₀, t, T', L, h0, X', hL, e1, e2, ⟨⟨w, μ', hv, hp, hb⟩, hz, hk⟩, st⟩ := hr T hT X
  cases hv
  rw [h0] at hz hk
  obtain ⟨t2, a1, b1⟩ := kk w μ' T'.heap (locs ++ L) hp (by rw [e1]; exact hb)
    ⟨Nat.le_trans hS.1 (by rw [e1]; exact hz), fun q h1 h2 => by rw [e1, hk q (Nat.lt_of_lt_of_le h1 hS.1) (fun z => h2 (hA q (Nat.lt_of_lt_of_le h1 hS.1) z))]; exact hS.2.1 q h1 h2, fun q hq => by
      rcases List.mem_append.mp hq with h | h
      · exact hS.2.2 q h
      · exact hf _ (hL q h)⟩ T' rfl X'
  exact ⟨t2, st t2 a1, b1⟩
end ZGo
theorem z_app {ad : Nat → Nat} (v : Option Value) (st : List Value) : (v.toList ++ st).map (z_v ad) = (v.map (z_v ad)).toList ++ st.map (z_v ad) := by
  cases v <;> simp
theorem z_cats {ad : Nat → Nat} (st : List Value) : ((st.map (z_v ad)).map fun v => v.category).sum = (st.map fun v => v.category).sum := by
  rw [List.map_map]
  congr 1
  apply List.map_congr_left
  intro v _
  exact z_v_cat
/-- the start of a contract doesn't look at frames -/
theorem z_blind {G : z_Gl} {av : List Value} {μ : z_M} {sz : Nat} : FrameBlind (va_Pc av (z_pre G μ sz)) := by
  obtain ⟨l, D, ad, dA, sh⟩ := G
  intro a U g mk h
  obtain ⟨q0, q1, qP, qK, qD, qX⟩ := h
  exact ⟨q0, q1, qP, va_K.moved (u := U) (U := U.calling g mk a) (Vm.Alike.refl U.vm) qK, qD, qX.same rfl⟩
theorem z_start {l : Launch} {D : va_G} {ad : Nat → Nat} {dA : Nat → ClassId} {sh : List z_H} {A : Nat → Prop} {s U : State} {H : Heap} {locs : List Loc} {av : List Value} {μ : z_M} (hK : va_K D z_cl (z_tys dA) s) (hD : va_D A (z_w ad dA sh μ)) (hA : ∀ q, s.heap.size ≤ q → A q) (hX : z_X ad A s s.heap) (hP : va_P D z_cl (z_w ad dA sh μ) H) (hS : va_S A s.heap H locs) (hU : U.heap = H) (hW : s.WarmedH U.vm) : va_Pc (av.map (z_v ad)) (z_pre (l, D, ad, dA, sh) μ H.size) (av.map (z_v ad)).toArray U := by
  refine ⟨rfl, by rw [hU], by rw [hU]; exact hP, va_K.moved hW.alike hK, hD.weaken (fun _ _ _ _ => trivial), ?_⟩
  rw [hU]
  refine hX.to hW hS.2.1 (fun q h => ?_)
  rcases h with ⟨k, e, h⟩ | h
  · exact hD.2 k _ h
  · exact hA q (Nat.le_trans hS.1 h)
theorem z_inA {ad : Nat → Nat} {dA : Nat → ClassId} {sh : List z_H} {A : Nat → Prop} {s : State} {H : Heap} {locs : List Loc} {μ : z_M} (hD : va_D A (z_w ad dA sh μ)) (hA : ∀ q, s.heap.size ≤ q → A q) (hS : va_S A s.heap H locs) : ∀ q, va_A (z_w ad dA sh μ) H.size q → A q := by
  intro q h
  rcases h with ⟨k, e, h⟩ | h
  · exact hD.2 k _ h
  · exact hA q (Nat.le_trans hS.1 h)
/-- what the tables say of a method -/
def z_Yc (y : MethodName) (cc : ByteArray) (nL : Nat) (ret : Option FieldType) (n : Nat) : Prop := Cond.code y cc nL ret ∈ z_T ∧ Cond.initialized y.cls ∈ z_T ∧ (y.cls ≠ "java/lang/invoke/MethodHandle" ∧ y.cls ≠ "java/lang/invoke/VarHandle" ∧ (parseMethodDescriptor y.desc).map (fun d => d.parameters.length) = some n) ∧ nL ≤ 17
def z_Yv (y : MethodName) : Prop := Cond.instanceMethod y ∈ z_T ∧ Cond.selects y.cls y y ∈ z_T
theorem z_code_good {y : MethodName} {cc : ByteArray} {nL : Nat} {ret : Option FieldType} (h : Cond.code y cc nL ret ∈ z_T) : GoodIn z_T (Cond.code y cc nL ret :: z_T) := by
  intro w hw
  rcases List.mem_cons.mp hw with rfl | hw
  · exact z_T_good _ h
  · exact z_T_good _ hw
section ZCall
variable {E : z_E} {own : String} {cc : ByteArray} {nL d pc : Nat} {L : z_L} {st st0 : List Value} {μ : z_M}
theorem j_callV (F : z_F E own cc nL d) {y : MethodName} {yc : ByteArray} {yL n yd o ci idx : Nat} {ret : Option FieldType} {As : List Value} {fs : List Nat} {P : Option Value → z_M → Prop} (hM : z_C0 E.1 y yc yL ret yd (.ref o :: As) μ P) (hc : z_Yc y yc yL ret n) (hv : z_Yv y) (hlk : Cond.methodLink own idx y ∈ z_T)
    (hs : (z_sh E.1)[o]? = some (.inr (ci, fs))) (hcl : (z_cl[ci]?).map (fun q => q.1) = some y.cls) (hn : As.length = n) (hd : yd + 1 ≤ d) (hst : (st.map fun v => v.category).sum ≤ 8) (h0 : st0 = As.reverse ++ .ref o :: st) (hdg : decode cc pc = .ok (.invokevirtual idx, 3))
    (k : ∀ (v : Option Value) (μ' : z_M), P v μ' → z_J E nL (pc + 3) L (v.toList ++ st) μ') : z_J E nL pc L st0 μ := by
  obtain ⟨⟨l, D, ad, dA, sh⟩, p, e, R, s, m, args, below, meth, c, Q, A, kc, ks⟩ := E
  obtain ⟨hx, hb, hml, hown, hts, hK, hD, hA, hX, hd1, hd2, hc1, hc2⟩ := F
  obtain ⟨y1, y2, y3, y4⟩ := hc
  obtain ⟨v1, v2⟩ := hv
  intro H locs ls hP hS hl
  subst h0
  cases hcq : z_cl[ci]? with
  | none => rw [hcq] at hcl; cases hcl
  | some q =>
    have hq1 : q.1 = y.cls := by rw [hcq] at hcl; exact Option.some.inj hcl
    have hrun := va_runV (l := l) (e := e) (below := below) (meth := meth) (locs := locs) (cells := kc) (slots := ks) (p := p) (R := R) (g := F0 m pc ls ((As.reverse ++ .ref o :: st).map (z_v ad))) (As := As.map (z_v ad)) (rest := st.map (z_v ad)) (b := ad o) (C := y.cls) (n := n) (Ts := z_T) (own := own) (cc := cc) (nL := nL) (index := idx) ⟨hx, hb, hml, hown, hts⟩ (hM H.size)
      ⟨callB_of n hts (z_code_good y1) rfl rfl rfl (hts _ y2) (hts _ hlk) y3 ⟨by show yd + 1 ≤ _; omega, by show 8 + (yL + 11) + 36 * yd ≤ _; omega⟩, hts _ v1, hts _ v2⟩
      ⟨z_blind, by rw [← hq1]; exact va_recv hK hP hcq (z_w_get hs), fun U hU hW => z_start (av := .ref o :: As) hK (hD μ) hA hX hP hS hU hW⟩ rfl (by simpa using hn) hl.1 (by simp [List.map_reverse, z_v]) (lv_room (by rw [z_cats]; exact hst)) hdg ⟨hc1, hc2⟩
    exact z_go hrun hS (fun q _ h => z_inA (hD μ) hA hS q h) (fun q h => z_inA (hD μ) hA hS q h) (fun v μ' H1 locs1 hp hP1 hS1 => by
      have := k v μ' hp H1 locs1 ls hP1 hS1 hl
      rw [z_app] at this
      exact this)
theorem j_callS (F : z_F E own cc nL d) {y : MethodName} {yc : ByteArray} {yL n yd idx : Nat} {ret : Option FieldType} {As : List Value} {P : Option Value → z_M → Prop} (hM : z_C0 E.1 y yc yL ret yd As μ P) (hc : z_Yc y yc yL ret n) (hv : Cond.static y ∈ z_T) (hlk : Cond.methodLink own idx y ∈ z_T)
    (hn : As.length = n) (hd : yd + 1 ≤ d) (hst : (st.map fun v => v.category).sum ≤ 8) (h0 : st0 = As.reverse ++ st) (hdg : decode cc pc = .ok (.invokestatic idx, 3))
    (k : ∀ (v : Option Value) (μ' : z_M), P v μ' → z_J E nL (pc + 3) L (v.toList ++ st) μ') : z_J E nL pc L st0 μ := by
  obtain ⟨⟨l, D, ad, dA, sh⟩, p, e, R, s, m, args, below, meth, c, Q, A, kc, ks⟩ := E
  obtain ⟨hx, hb, hml, hown, hts, hK, hD, hA, hX, hd1, hd2, hc1, hc2⟩ := F
  obtain ⟨y1, y2, y3, y4⟩ := hc
  intro H locs ls hP hS hl
  subst h0
  have hrun := va_runS (l := l) (e := e) (below := below) (meth := meth) (locs := locs) (cells := kc) (slots := ks) (p := p) (R := R) (g := F0 m pc ls ((As.reverse ++ st).map (z_v ad))) (As := As.map (z_v ad)) (rest := st.map (z_v ad)) (n := n) (Ts := z_T) (own := own) (cc := cc) (nL := nL) (index := idx) ⟨hx, hb, hml, hown, hts⟩ (hM H.size)
    ⟨callB_of n hts (z_code_good y1) rfl rfl rfl (hts _ y2) (hts _ hlk) y3 ⟨by show yd + 1 ≤ _; omega, by show 8 + (yL + 11) + 36 * yd ≤ _; omega⟩, hts _ hv⟩
    ⟨z_blind, fun U hU hW => z_start (av := As) hK (hD μ) hA hX hP hS hU hW⟩ rfl (by simpa using hn) hl.1 (by simp [List.map_reverse]) (lv_room (by rw [z_cats]; exact hst)) hdg ⟨hc1, hc2⟩
  exact z_go hrun hS (fun q _ h => z_inA (hD μ) hA hS q h) (fun q h => z_inA (hD μ) hA hS q h) (fun v μ' H1 locs1 hp hP1 hS1 => by
    have := k v μ' hp H1 locs1 ls hP1 hS1 hl
    rw [z_app] at this
    exact this)
theorem j_callSN (F : z_F E own cc nL d) {y : MethodName} {yc : ByteArray} {yL n yd idx : Nat} {ret : Option FieldType} {As : List Value} {P : Option Value → z_M → Prop} (hM : z_C0 E.1 y yc yL ret yd As μ P) (hc : z_Yc y yc yL ret n) (hv : Cond.static y ∈ z_T) (hlk : (own, idx, y) ∈ z_NW)
    (hn : As.length = n) (hd : yd + 1 ≤ d) (hst : (st.map fun v => v.category).sum ≤ 8) (h0 : st0 = As.reverse ++ st) (hdg : decode cc pc = .ok (.invokestatic idx, 3))
    (k : ∀ (v : Option Value) (μ' : z_M), P v μ' → z_J E nL (pc + 3) L (v.toList ++ st) μ') : z_J E nL pc L st0 μ := by
  obtain ⟨⟨l, D, ad, dA, sh⟩, p, e, R, s, m, args, below, meth, c, Q, A, kc, ks⟩ := E
  obtain ⟨hx, hb, hml, hown, hts, hK, hD, hA, hX, hd1, hd2, hc1, hc2⟩ := F
  obtain ⟨y1, y2, y3, y4⟩ := hc
  intro H locs ls hP hS hl
  subst h0
  have hrun := va_runSN (l := l) (e := e) (below := below) (meth := meth) (locs := locs) (cells := kc) (slots := ks) (p := p) (R := R) (g := F0 m pc ls ((As.reverse ++ st).map (z_v ad))) (As := As.map (z_v ad)) (rest := st.map (z_v ad)) (n := n) (Ts := z_T) (own := own) (cc := cc) (nL := nL) (index := idx) ⟨hx, hb, hml, hown, hts⟩ (hM H.size)
    ⟨va_cnB n hts (z_code_good y1) rfl rfl rfl (hX.1 _ hlk) (hts _ y2) y3 ⟨by show yd + 1 ≤ _; omega, by show 8 + (yL + 11) + 36 * yd ≤ _; omega⟩, hts _ hv, trivial⟩
    ⟨z_blind, fun U hU hW => z_start (av := As) hK (hD μ) hA hX hP hS hU hW⟩ rfl (by simpa using hn) hl.1 (by simp [List.map_reverse]) (lv_room (by rw [z_cats]; exact hst)) hdg ⟨hc1, hc2⟩
  exact z_go hrun hS (fun q _ h => z_inA (hD μ) hA hS q h) (fun q h => z_inA (hD μ) hA hS q h) (fun v μ' H1 locs1 hp hP1 hS1 => by
    have := k v μ' hp H1 locs1 ls hP1 hS1 hl
    rw [z_app] at this
    exact this)
/-! the same, by kind of answer -/
theorem j_callVi (F : z_F E own cc nL d) {y : MethodName} {yc : ByteArray} {yL n yd o ci idx : Nat} {ret : Option FieldType} {As : List Value} {fs : List Nat} {P : Int32 → z_M → Prop} (hM : z_Ci E.1 y yc yL ret yd (.ref o :: As) μ P) (hc : z_Yc y yc yL ret n) (hv : z_Yv y) (hlk : Cond.methodLink own idx y ∈ z_T)
    (hs : (z_sh E.1)[o]? = some (.inr (ci, fs))) (hcl : (z_cl[ci]?).map (fun q => q.1) = some y.cls) (hn : As.length = n) (hd : yd + 1 ≤ d) (hst : (st.map fun v => v.category).sum ≤ 8) (h0 : st0 = As.reverse ++ .ref o :: st) (hdg : decode cc pc = .ok (.invokevirtual idx, 3))
    (k : ∀ (r : Int32) (μ' : z_M), μ'.2.2 = μ.2.2 → P r μ' → z_J E nL (pc + 3) L (.int r :: st) μ') : z_J E nL pc L st0 μ :=
  j_callV F hM hc hv hlk hs hcl hn hd hst h0 hdg (fun v μ' hp => by obtain ⟨h1, r, rfl, h2⟩ := hp; exact k r μ' h1 h2)
theorem j_callVv (F : z_F E own cc nL d) {y : MethodName} {yc : ByteArray} {yL n yd o ci idx : Nat} {ret : Option FieldType} {As : List Value} {fs : List Nat} {P : z_M → Prop} (hM : z_Cv E.1 y yc yL ret yd (.ref o :: As) μ P) (hc : z_Yc y yc yL ret n) (hv : z_Yv y) (hlk : Cond.methodLink own idx y ∈ z_T)
    (hs : (z_sh E.1)[o]? = some (.inr (ci, fs))) (hcl : (z_cl[ci]?).map (fun q => q.1) = some y.cls) (hn : As.length = n) (hd : yd + 1 ≤ d) (hst : (st.map fun v => v.category).sum ≤ 8) (h0 : st0 = As.reverse ++ .ref o :: st) (hdg : decode cc pc = .ok (.invokevirtual idx, 3))
    (k : ∀ (μ' : z_M), μ'.2.2 = μ.2.2 → P μ' → z_J E nL (pc + 3) L st μ') : z_J E nL pc L st0 μ :=
  j_callV F hM hc hv hlk hs hcl hn hd hst h0 hdg (fun v μ' hp => by obtain ⟨h1, rfl, h2⟩ := hp; exact k μ' h1 h2)
theorem j_callSi (F : z_F E own cc nL d) {y : MethodName} {yc : ByteArray} {yL n yd idx : Nat} {ret : Option FieldType} {As : List Value} {P : Int32 → z_M → Prop} (hM : z_Ci E.1 y yc yL ret yd As μ P) (hc : z_Yc y yc yL ret n) (hv : Cond.static y ∈ z_T) (hlk : Cond.methodLink own idx y ∈ z_T)
    (hn : As.length = n) (hd : yd + 1 ≤ d) (hst : (st.map fun v => v.category).sum ≤ 8) (h0 : st0 = As.reverse ++ st) (hdg : decode cc pc = .ok (.invokestatic idx, 3))
    (k : ∀ (r : Int32) (μ' : z_M), μ'.2.2 = μ.2.2 → P r μ' → z_J E nL (pc + 3) L (.int r :: st) μ') : z_J E nL pc L st0 μ :=
  j_callS F hM hc hv hlk hn hd hst h0 hdg (fun v μ' hp => by obtain ⟨h1, r, rfl, h2⟩ := hp; exact k r μ' h1 h2)
theorem j_callSl (F : z_F E own cc nL d) {y : MethodName} {yc : ByteArray} {yL n yd idx : Nat} {ret : Option FieldType} {As : List Value} {P : Int64 → z_M → Prop} (hM : z_Cl E.1 y yc yL ret yd As μ P) (hc : z_Yc y yc yL ret n) (hv : Cond.static y ∈ z_T) (hlk : Cond.methodLink own idx y ∈ z_T)
    (hn : As.length = n) (hd : yd + 1 ≤ d) (hst : (st.map fun v => v.category).sum ≤ 8) (h0 : st0 = As.reverse ++ st) (hdg : decode cc pc = .ok (.invokestatic idx, 3))
    (k : ∀ (r : Int64) (μ' : z_M), μ'.2.2 = μ.2.2 → P r μ' → z_J E nL (pc + 3) L (.long r :: st) μ') : z_J E nL pc L st0 μ :=
  j_callS F hM hc hv hlk hn hd hst h0 hdg (fun v μ' hp => by obtain ⟨h1, r, rfl, h2⟩ := hp; exact k r μ' h1 h2)
theorem j_callSv (F : z_F E own cc nL d) {y : MethodName} {yc : ByteArray} {yL n yd idx : Nat} {ret : Option FieldType} {As : List Value} {P : z_M → Prop} (hM : z_Cv E.1 y yc yL ret yd As μ P) (hc : z_Yc y yc yL ret n) (hv : Cond.static y ∈ z_T) (hlk : Cond.methodLink own idx y ∈ z_T)
    (hn : As.length = n) (hd : yd + 1 ≤ d) (hst : (st.map fun v => v.category).sum ≤ 8) (h0 : st0 = As.reverse ++ st) (hdg : decode cc pc = .ok (.invokestatic idx, 3))
    (k : ∀ (μ' : z_M), μ'.2.2 = μ.2.2 → P μ' → z_J E nL (pc + 3) L st μ') : z_J E nL pc L st0 μ :=
  j_callS F hM hc hv hlk hn hd hst h0 hdg (fun v μ' hp => by obtain ⟨h1, rfl, h2⟩ := hp; exact k μ' h1 h2)
theorem j_callNi (F : z_F E own cc nL d) {y : MethodName} {yc : ByteArray} {yL n yd idx : Nat} {ret : Option FieldType} {As : List Value} {P : Int32 → z_M → Prop} (hM : z_Ci E.1 y yc yL ret yd As μ P) (hc : z_Yc y yc yL ret n) (hv : Cond.static y ∈ z_T) (hlk : (own, idx, y) ∈ z_NW)
    (hn : As.length = n) (hd : yd + 1 ≤ d) (hst : (st.map fun v => v.category).sum ≤ 8) (h0 : st0 = As.reverse ++ st) (hdg : decode cc pc = .ok (.invokestatic idx, 3))
    (k : ∀ (r : Int32) (μ' : z_M), μ'.2.2 = μ.2.2 → P r μ' → z_J E nL (pc + 3) L (.int r :: st) μ') : z_J E nL pc L st0 μ :=
  j_callSN F hM hc hv hlk hn hd hst h0 hdg (fun v μ' hp => by obtain ⟨h1, r, rfl, h2⟩ := hp; exact k r μ' h1 h2)
theorem j_callNv (F : z_F E own cc nL d) {y : MethodName} {yc : ByteArray} {yL n yd idx : Nat} {ret : Option FieldType} {As : List Value} {P : z_M → Prop} (hM : z_Cv E.1 y yc yL ret yd As μ P) (hc : z_Yc y yc yL ret n) (hv : Cond.static y ∈ z_T) (hlk : (own, idx, y) ∈ z_NW)
    (hn : As.length = n) (hd : yd + 1 ≤ d) (hst : (st.map fun v => v.category).sum ≤ 8) (h0 : st0 = As.reverse ++ st) (hdg : decode cc pc = .ok (.invokestatic idx, 3))
    (k : ∀ (μ' : z_M), μ'.2.2 = μ.2.2 → P μ' → z_J E nL (pc + 3) L st μ') : z_J E nL pc L st0 μ :=
  j_callSN F hM hc hv hlk hn hd hst h0 hdg (fun v μ' hp => by obtain ⟨h1, rfl, h2⟩ := hp; exact k μ' h1 h2)
/-! Math.max, min, abs; System.arraycopy of ints -/
theorem j_mmax (F : z_F E own cc nL d) {idx : Nat} {x y : Int32} (hw : Cond.methodLink own idx Lib.Math.max.name ∈ z_T ∧ Cond.static Lib.Math.max.name ∈ z_T ∧ Cond.initialized "java/lang/Math" ∈ z_T ∧ Cond.code Lib.Math.max.name Lib.Math.max.code 2 (some .int) ∈ z_T) (hd : 1 ≤ d) (hst : (st.map fun v => v.category).sum ≤ 8) (hdg : decode cc pc = .ok (.invokestatic idx, 3)) (k : z_J E nL (pc + 3) L (.int (if x < y then y else x) :: st) μ) : z_J E nL pc L (.int y :: .int x :: st) μ := by
  obtain ⟨⟨l, D, ad, dA, sh⟩, p, e, R, s, m, args, below, meth, c, Q, A, kc, ks⟩ := E
  obtain ⟨hx, hb, hml, hown, hts, hK, hD, hA, hX, hd1, hd2, hc1, hc2⟩ := F
  intro H locs ls hP hS hl
  exact va_mmax hx hb (hml.trans hl.1.symm) hown (hts _ hw.1) (hts _ hw.2.1) (hts _ hw.2.2.1) (hts _ hw.2.2.2) (by omega) (by rw [z_cats]; omega) hc1 hc2 hdg (k H locs ls hP hS hl)
theorem j_mmin (F : z_F E own cc nL d) {idx : Nat} {x y : Int32} (hw : Cond.methodLink own idx Lib.Math.min.name ∈ z_T ∧ Cond.static Lib.Math.min.name ∈ z_T ∧ Cond.initialized "java/lang/Math" ∈ z_T ∧ Cond.code Lib.Math.min.name Lib.Math.min.code 2 (some .int) ∈ z_T) (hd : 1 ≤ d) (hst : (st.map fun v => v.category).sum ≤ 8) (hdg : decode cc pc = .ok (.invokestatic idx, 3)) (k : z_J E nL (pc + 3) L (.int (if y < x then y else x) :: st) μ) : z_J E nL pc L (.int y :: .int x :: st) μ := by
  obtain ⟨⟨l, D, ad, dA, sh⟩, p, e, R, s, m, args, below, meth, c, Q, A, kc, ks⟩ := E
  obtain ⟨hx, hb, hml, hown, hts, hK, hD, hA, hX, hd1, hd2, hc1, hc2⟩ := F
  intro H locs ls hP hS hl
  exact va_mmin hx hb (hml.trans hl.1.symm) hown (hts _ hw.1) (hts _ hw.2.1) (hts _ hw.2.2.1) (hts _ hw.2.2.2) (by omega) (by rw [z_cats]; omega) hc1 hc2 hdg (k H locs ls hP hS hl)
theorem j_mabs (F : z_F E own cc nL d) {idx : Nat} {x : Int32} (hw : Cond.methodLink own idx Lib.Math.abs.name ∈ z_T ∧ Cond.static Lib.Math.abs.name ∈ z_T ∧ Cond.initialized "java/lang/Math" ∈ z_T ∧ Cond.code Lib.Math.abs.name Lib.Math.abs.code 1 (some .int) ∈ z_T) (hd : 1 ≤ d) (hst : (st.map fun v => v.category).sum ≤ 8) (hdg : decode cc pc = .ok (.invokestatic idx, 3)) (k : z_J E nL (pc + 3) L (.int (if 0 ≤ x then x else 0 - x) :: st) μ) : z_J E nL pc L (.int x :: st) μ := by
  obtain ⟨⟨l, D, ad, dA, sh⟩, p, e, R, s, m, args, below, meth, c, Q, A, kc, ks⟩ := E
  obtain ⟨hx, hb, hml, hown, hts, hK, hD, hA, hX, hd1, hd2, hc1, hc2⟩ := F
  intro H locs ls hP hS hl
  exact va_mabs hx hb (hml.trans hl.1.symm) hown (hts _ hw.1) (hts _ hw.2.1) (hts _ hw.2.2.1) (hts _ hw.2.2.2) (by omega) (by rw [z_cats]; omega) hc1 hc2 hdg (k H locs ls hP hS hl)
theorem j_acopy (F : z_F E own cc nL d) {idx a b n0 n1 : Nat} {sp dp n : Int32} (hw : Cond.methodLink own idx arraycopyName ∈ z_T ∧ Cond.native arraycopyName ∈ z_T ∧ Cond.static arraycopyName ∈ z_T ∧ Cond.initialized "java/lang/System" ∈ z_T) (hd : 1 ≤ d) (hst : (st.map fun v => v.category).sum ≤ 8) (ha : (z_sh E.1)[a]? = some (.inl (0, n0))) (hb0 : (z_sh E.1)[b]? = some (.inl (0, n1)))
    (h1 : ¬ sp < 0) (h2 : ¬ dp < 0) (h3 : ¬ n < 0) (h4 : sp.toNatClampNeg + n.toNatClampNeg ≤ n0) (h5 : dp.toNatClampNeg + n.toNatClampNeg ≤ n1) (hdg : decode cc pc = .ok (.invokestatic idx, 3)) (k : z_J E nL (pc + 3) L st (z_sw μ b (va_cpy (μ.1 a) (μ.1 b) sp.toNatClampNeg dp.toNatClampNeg n.toNatClampNeg))) : z_J E nL pc L (.int n :: .int dp :: .ref b :: .int sp :: .ref a :: st) μ := by
  obtain ⟨⟨l, D, ad, dA, sh⟩, p, e, R, s, m, args, below, meth, c, Q, A, kc, ks⟩ := E
  obtain ⟨hx, hb, hml, hown, hts, hK, hD, hA, hX, hd1, hd2, hc1, hc2⟩ := F
  intro H locs ls hP hS hl
  have hnw : nativeFrameWords "java/lang/System" "arraycopy" 5 ≤ 12 := by decide +kernel
  have hlo : ((st.map (z_v ad)).map fun v => v.category).sum + (nativeFrameWords "java/lang/System" "arraycopy" 5 + 11) ≤ R.locals := by
    rw [z_cats (ad := ad)]
    omega
  refine va_copyi (f := μ.1 a) (g := μ.1 b) (ty := .int) hx hb (hml.trans hl.1.symm) hown (hts _ hw.1) (hts _ hw.2.1) (hts _ hw.2.2.1) (hts _ hw.2.2.2) hK hP (hD μ) hS a b 0 0 (z_w_get ha) (z_w_get hb0) rfl rfl rfl h1 h2 h3 h4 h5 (fun _ _ => rfl) (by omega) hlo hdg (fun H1 locs1 hP1 hD1 hS1 => ?_)
  refine k H1 locs1 ls ?_ hS1 hl
  rw [← z_w_set hb0 z_e_sw]
  have e1 : z_e ad dA (z_sw μ b (va_cpy (μ.1 a) (μ.1 b) sp.toNatClampNeg dp.toNatClampNeg n.toNatClampNeg)) b (.inl (0, n1)) = .inl (dA 0, n1, .inl (va_cpy (μ.1 a) (μ.1 b) sp.toNatClampNeg dp.toNatClampNeg n.toNatClampNeg)) := by simp [z_e, z_sw]
  rw [e1]
  exact hP1
end ZCall
end
section
/-! THE LAYOUT of the cells (in the order in which the law makes them), WORDS of the tables by their places, small words of the functions: written by wip/whole/emit.py -/
abbrev z_in (i : Int32) (n : Nat) : Prop := ¬ (i < 0 ∨ n ≤ i.toNatClampNeg)
/-- a loop's fuel -/
def z_N : Nat := 5000
def z_st {α : Type} (m : z_M) (f : z_M → Option α) : Option α := f m
def z_lt {α β : Type} (a : β) (f : β → Option α) : Option α := f a
def z_b1 {α : Type} (x : Option z_M) (f : z_M → Option α) : Option α := match x with
  | some m => f m
  | none => none
def z_b2 {α β : Type} (x : Option (β × z_M)) (f : β → z_M → Option α) : Option α := match x with
  | some q => f q.1 q.2
  | none => none
theorem z_st_some {α : Type} {m : z_M} {f : z_M → Option α} {r : α} (h : z_st m f = some r) : ∃ m', m' = m ∧ f m' = some r := ⟨m, rfl, h⟩
theorem z_lt_some {α β : Type} {a : β} {f : β → Option α} {r : α} (h : z_lt a f = some r) : ∃ b, b = a ∧ f b = some r := ⟨a, rfl, h⟩
theorem z_b1_some {α : Type} {x : Option z_M} {f : z_M → Option α} {r : α} (h : z_b1 x f = some r) : ∃ m, x = some m ∧ f m = some r := by
  cases x with
  | none => cases h
  | some m => exact ⟨m, rfl, h⟩
theorem z_b2_some {α β : Type} {x : Option (β × z_M)} {f : β → z_M → Option α} {r : α} (h : z_b2 x f = some r) : ∃ b m, x = some (b, m) ∧ f b m = some r := by
  cases x with
  | none => cases h
  | some q => exact ⟨q.1, q.2, rfl, h⟩
theorem z_ifs {α : Type} {c : Prop} [Decidable c] {a : Option α} {r : α} (h : (if c then a else none) = some r) : c ∧ a = some r := by
  by_cases hc : c
  · rw [if_pos hc] at h
    exact ⟨hc, h⟩
  · rw [if_neg hc] at h
    cases h
theorem z_nb {x : Int32} (h : x = 0 ∨ x = 1) : narrow .boolean (.int x) = .int x := by
  rcases h with rfl | rfl <;> rfl
def z_SH : List z_H := [.inr (4, [2, 2, 2, 2, 2, 2, 2, 2, 2, 2]), .inl (2, 4), .inr (1, [2, 0, 0, 0, 0, 0, 0, 0, 0]), .inl (0, 240), .inr (3, [0, 0, 0, 2, 2, 2, 2, 2, 2, 2, 2, 2, 2]), .inl (0, 6), .inl (0, 6), .inl (0, 14), .inl (0, 14), .inl (0, 14), .inl (0, 14), .inl (0, 14), .inl (0, 14), .inl (0, 5), .inl (0, 3), .inr (3, [0, 0, 0, 2, 2, 2, 2, 2, 2, 2, 2, 2, 2]), .inl (0, 6), .inl (0, 6), .inl (0, 14), .inl (0, 14), .inl (0, 14), .inl (0, 14), .inl (0, 14), .inl (0, 14), .inl (0, 5), .inl (0, 3), .inl (3, 2), .inl (1, 2), .inr (2, [2, 0, 0, 2, 2, 2, 2, 2, 2, 2, 2, 2, 2, 2, 2, 2]), .inl (0, 14), .inl (0, 14), .inl (0, 14), .inl (0, 14), .inl (0, 14), .inl (0, 14), .inl (0, 5), .inl (0, 5), .inl (0, 5), .inl (0, 5), .inl (4, 6), .inl (0, 14), .inl (0, 14), .inl (0, 14), .inl (0, 14), .inl (0, 14), .inl (0, 14), .inl (0, 6), .inl (0, 3), .inl (0, 3), .inl (0, 14), .inl (0, 6), .inr (0, [2, 2, 2, 2, 0, 0, 0, 0, 0, 0, 0, 0, 0]), .inl (0, 8), .inl (0, 8), .inl (0, 8), .inl (0, 8), .inr (0, [2, 2, 2, 2, 0, 0, 0, 0, 0, 0, 0, 0, 0]), .inl (0, 8), .inl (0, 8), .inl (0, 8), .inl (0, 8), .inr (0, [2, 2, 2, 2, 0, 0, 0, 0, 0, 0, 0, 0, 0]), .inl (0, 8), .inl (0, 8), .inl (0, 8), .inl (0, 8), .inr (0, [2, 2, 2, 2, 0, 0, 0, 0, 0, 0, 0, 0, 0]), .inl (0, 8), .inl (0, 8), .inl (0, 8), .inl (0, 8), .inr (0, [2, 2, 2, 2, 0, 0, 0, 0, 0, 0, 0, 0, 0]), .inl (0, 8), .inl (0, 8), .inl (0, 8), .inl (0, 8), .inr (3, [0, 0, 0, 2, 2, 2, 2, 2, 2, 2, 2, 2, 2]), .inl (0, 6), .inl (0, 6), .inl (0, 14), .inl (0, 14), .inl (0, 14), .inl (0, 14), .inl (0, 14), .inl (0, 14), .inl (0, 5), .inl (0, 3), .inr (3, [0, 0, 0, 2, 2, 2, 2, 2, 2, 2, 2, 2, 2]), .inl (0, 6), .inl (0, 6), .inl (0, 14), .inl (0, 14), .inl (0, 14), .inl (0, 14), .inl (0, 14), .inl (0, 14), .inl (0, 5), .inl (0, 3), .inr (5, [2, 2, 2, 2, 2, 2, 2, 2, 2, 2, 2, 2, 2, 0, 0, 0, 1, 0, 0, 0, 0, 0, 2, 2, 0, 2, 2, 0, 2, 2, 2, 2, 2, 2, 2, 2, 2, 2, 2, 2, 2, 2, 2, 2, 2, 2, 2, 2]), .inl (0, 32), .inl (0, 32), .inl (0, 32), .inl (1, 32), .inl (1, 256), .inl (0, 20), .inl (0, 8), .inl (0, 8), .inl (0, 8), .inl (1, 8), .inl (1, 64), .inl (0, 5), .inl (0, 240), .inl (1, 256), .inl (0, 32), .inl (0, 7), .inl (0, 7), .inl (0, 15), .inl (0, 15), .inl (0, 15), .inl (0, 15), .inl (1, 15), .inl (0, 15), .inl (0, 15), .inl (1, 15), .inl (0, 5), .inl (0, 3), .inl (0, 15), .inl (0, 5), .inl (0, 5), .inl (0, 3), .inl (1, 15), .inl (0, 5), .inl (0, 6), .inl (0, 15), .inl (0, 300), .inl (1, 2)]
theorem c_0 : z_SH[0]? = some (.inr (4, [2, 2, 2, 2, 2, 2, 2, 2, 2, 2])) := rfl
theorem c_1 : z_SH[1]? = some (.inl (2, 4)) := rfl
theorem c_2 : z_SH[2]? = some (.inr (1, [2, 0, 0, 0, 0, 0, 0, 0, 0])) := rfl
theorem c_3 : z_SH[3]? = some (.inl (0, 240)) := rfl
theorem c_4 : z_SH[4]? = some (.inr (3, [0, 0, 0, 2, 2, 2, 2, 2, 2, 2, 2, 2, 2])) := rfl
theorem c_5 : z_SH[5]? = some (.inl (0, 6)) := rfl
theorem c_6 : z_SH[6]? = some (.inl (0, 6)) := rfl
theorem c_7 : z_SH[7]? = some (.inl (0, 14)) := rfl
theorem c_8 : z_SH[8]? = some (.inl (0, 14)) := rfl
theorem c_9 : z_SH[9]? = some (.inl (0, 14)) := rfl
theorem c_10 : z_SH[10]? = some (.inl (0, 14)) := rfl
theorem c_11 : z_SH[11]? = some (.inl (0, 14)) := rfl
theorem c_12 : z_SH[12]? = some (.inl (0, 14)) := rfl
theorem c_13 : z_SH[13]? = some (.inl (0, 5)) := rfl
theorem c_14 : z_SH[14]? = some (.inl (0, 3)) := rfl
theorem c_15 : z_SH[15]? = some (.inr (3, [0, 0, 0, 2, 2, 2, 2, 2, 2, 2, 2, 2, 2])) := rfl
theorem c_16 : z_SH[16]? = some (.inl (0, 6)) := rfl
theorem c_17 : z_SH[17]? = some (.inl (0, 6)) := rfl
theorem c_18 : z_SH[18]? = some (.inl (0, 14)) := rfl
theorem c_19 : z_SH[19]? = some (.inl (0, 14)) := rfl
theorem c_20 : z_SH[20]? = some (.inl (0, 14)) := rfl
theorem c_21 : z_SH[21]? = some (.inl (0, 14)) := rfl
theorem c_22 : z_SH[22]? = some (.inl (0, 14)) := rfl
theorem c_23 : z_SH[23]? = some (.inl (0, 14)) := rfl
theorem c_24 : z_SH[24]? = some (.inl (0, 5)) := rfl
theorem c_25 : z_SH[25]? = some (.inl (0, 3)) := rfl
theorem c_26 : z_SH[26]? = some (.inl (3, 2)) := rfl
theorem c_27 : z_SH[27]? = some (.inl (1, 2)) := rfl
theorem c_28 : z_SH[28]? = some (.inr (2, [2, 0, 0, 2, 2, 2, 2, 2, 2, 2, 2, 2, 2, 2, 2, 2])) := rfl
theorem c_29 : z_SH[29]? = some (.inl (0, 14)) := rfl
theorem c_30 : z_SH[30]? = some (.inl (0, 14)) := rfl
theorem c_31 : z_SH[31]? = some (.inl (0, 14)) := rfl
theorem c_32 : z_SH[32]? = some (.inl (0, 14)) := rfl
theorem c_33 : z_SH[33]? = some (.inl (0, 14)) := rfl
theorem c_34 : z_SH[34]? = some (.inl (0, 14)) := rfl
theorem c_35 : z_SH[35]? = some (.inl (0, 5)) := rfl
theorem c_36 : z_SH[36]? = some (.inl (0, 5)) := rfl
theorem c_37 : z_SH[37]? = some (.inl (0, 5)) := rfl
theorem c_38 : z_SH[38]? = some (.inl (0, 5)) := rfl
theorem c_39 : z_SH[39]? = some (.inl (4, 6)) := rfl
theorem c_40 : z_SH[40]? = some (.inl (0, 14)) := rfl
theorem c_41 : z_SH[41]? = some (.inl (0, 14)) := rfl
theorem c_42 : z_SH[42]? = some (.inl (0, 14)) := rfl
theorem c_43 : z_SH[43]? = some (.inl (0, 14)) := rfl
theorem c_44 : z_SH[44]? = some (.inl (0, 14)) := rfl
theorem c_45 : z_SH[45]? = some (.inl (0, 14)) := rfl
theorem c_46 : z_SH[46]? = some (.inl (0, 6)) := rfl
theorem c_47 : z_SH[47]? = some (.inl (0, 3)) := rfl
theorem c_48 : z_SH[48]? = some (.inl (0, 3)) := rfl
theorem c_49 : z_SH[49]? = some (.inl (0, 14)) := rfl
theorem c_50 : z_SH[50]? = some (.inl (0, 6)) := rfl
theorem c_51 : z_SH[51]? = some (.inr (0, [2, 2, 2, 2, 0, 0, 0, 0, 0, 0, 0, 0, 0])) := rfl
theorem c_52 : z_SH[52]? = some (.inl (0, 8)) := rfl
theorem c_53 : z_SH[53]? = some (.inl (0, 8)) := rfl
theorem c_54 : z_SH[54]? = some (.inl (0, 8)) := rfl
theorem c_55 : z_SH[55]? = some (.inl (0, 8)) := rfl
theorem c_56 : z_SH[56]? = some (.inr (0, [2, 2, 2, 2, 0, 0, 0, 0, 0, 0, 0, 0, 0])) := rfl
theorem c_57 : z_SH[57]? = some (.inl (0, 8)) := rfl
theorem c_58 : z_SH[58]? = some (.inl (0, 8)) := rfl
theorem c_59 : z_SH[59]? = some (.inl (0, 8)) := rfl
theorem c_60 : z_SH[60]? = some (.inl (0, 8)) := rfl
theorem c_61 : z_SH[61]? = some (.inr (0, [2, 2, 2, 2, 0, 0, 0, 0, 0, 0, 0, 0, 0])) := rfl
theorem c_62 : z_SH[62]? = some (.inl (0, 8)) := rfl
theorem c_63 : z_SH[63]? = some (.inl (0, 8)) := rfl
theorem c_64 : z_SH[64]? = some (.inl (0, 8)) := rfl
theorem c_65 : z_SH[65]? = some (.inl (0, 8)) := rfl
theorem c_66 : z_SH[66]? = some (.inr (0, [2, 2, 2, 2, 0, 0, 0, 0, 0, 0, 0, 0, 0])) := rfl
theorem c_67 : z_SH[67]? = some (.inl (0, 8)) := rfl
theorem c_68 : z_SH[68]? = some (.inl (0, 8)) := rfl
theorem c_69 : z_SH[69]? = some (.inl (0, 8)) := rfl
theorem c_70 : z_SH[70]? = some (.inl (0, 8)) := rfl
theorem c_71 : z_SH[71]? = some (.inr (0, [2, 2, 2, 2, 0, 0, 0, 0, 0, 0, 0, 0, 0])) := rfl
theorem c_72 : z_SH[72]? = some (.inl (0, 8)) := rfl
theorem c_73 : z_SH[73]? = some (.inl (0, 8)) := rfl
theorem c_74 : z_SH[74]? = some (.inl (0, 8)) := rfl
theorem c_75 : z_SH[75]? = some (.inl (0, 8)) := rfl
theorem c_76 : z_SH[76]? = some (.inr (3, [0, 0, 0, 2, 2, 2, 2, 2, 2, 2, 2, 2, 2])) := rfl
theorem c_77 : z_SH[77]? = some (.inl (0, 6)) := rfl
theorem c_78 : z_SH[78]? = some (.inl (0, 6)) := rfl
theorem c_79 : z_SH[79]? = some (.inl (0, 14)) := rfl
theorem c_80 : z_SH[80]? = some (.inl (0, 14)) := rfl
theorem c_81 : z_SH[81]? = some (.inl (0, 14)) := rfl
theorem c_82 : z_SH[82]? = some (.inl (0, 14)) := rfl
theorem c_83 : z_SH[83]? = some (.inl (0, 14)) := rfl
theorem c_84 : z_SH[84]? = some (.inl (0, 14)) := rfl
theorem c_85 : z_SH[85]? = some (.inl (0, 5)) := rfl
theorem c_86 : z_SH[86]? = some (.inl (0, 3)) := rfl
theorem c_87 : z_SH[87]? = some (.inr (3, [0, 0, 0, 2, 2, 2, 2, 2, 2, 2, 2, 2, 2])) := rfl
theorem c_88 : z_SH[88]? = some (.inl (0, 6)) := rfl
theorem c_89 : z_SH[89]? = some (.inl (0, 6)) := rfl
theorem c_90 : z_SH[90]? = some (.inl (0, 14)) := rfl
theorem c_91 : z_SH[91]? = some (.inl (0, 14)) := rfl
theorem c_92 : z_SH[92]? = some (.inl (0, 14)) := rfl
theorem c_93 : z_SH[93]? = some (.inl (0, 14)) := rfl
theorem c_94 : z_SH[94]? = some (.inl (0, 14)) := rfl
theorem c_95 : z_SH[95]? = some (.inl (0, 14)) := rfl
theorem c_96 : z_SH[96]? = some (.inl (0, 5)) := rfl
theorem c_97 : z_SH[97]? = some (.inl (0, 3)) := rfl
theorem c_98 : z_SH[98]? = some (.inr (5, [2, 2, 2, 2, 2, 2, 2, 2, 2, 2, 2, 2, 2, 0, 0, 0, 1, 0, 0, 0, 0, 0, 2, 2, 0, 2, 2, 0, 2, 2, 2, 2, 2, 2, 2, 2, 2, 2, 2, 2, 2, 2, 2, 2, 2, 2, 2, 2])) := rfl
theorem c_99 : z_SH[99]? = some (.inl (0, 32)) := rfl
theorem c_100 : z_SH[100]? = some (.inl (0, 32)) := rfl
theorem c_101 : z_SH[101]? = some (.inl (0, 32)) := rfl
theorem c_102 : z_SH[102]? = some (.inl (1, 32)) := rfl
theorem c_103 : z_SH[103]? = some (.inl (1, 256)) := rfl
theorem c_104 : z_SH[104]? = some (.inl (0, 20)) := rfl
theorem c_105 : z_SH[105]? = some (.inl (0, 8)) := rfl
theorem c_106 : z_SH[106]? = some (.inl (0, 8)) := rfl
theorem c_107 : z_SH[107]? = some (.inl (0, 8)) := rfl
theorem c_108 : z_SH[108]? = some (.inl (1, 8)) := rfl
theorem c_109 : z_SH[109]? = some (.inl (1, 64)) := rfl
theorem c_110 : z_SH[110]? = some (.inl (0, 5)) := rfl
theorem c_111 : z_SH[111]? = some (.inl (0, 240)) := rfl
theorem c_112 : z_SH[112]? = some (.inl (1, 256)) := rfl
theorem c_113 : z_SH[113]? = some (.inl (0, 32)) := rfl
theorem c_114 : z_SH[114]? = some (.inl (0, 7)) := rfl
theorem c_115 : z_SH[115]? = some (.inl (0, 7)) := rfl
theorem c_116 : z_SH[116]? = some (.inl (0, 15)) := rfl
theorem c_117 : z_SH[117]? = some (.inl (0, 15)) := rfl
theorem c_118 : z_SH[118]? = some (.inl (0, 15)) := rfl
theorem c_119 : z_SH[119]? = some (.inl (0, 15)) := rfl
theorem c_120 : z_SH[120]? = some (.inl (1, 15)) := rfl
theorem c_121 : z_SH[121]? = some (.inl (0, 15)) := rfl
theorem c_122 : z_SH[122]? = some (.inl (0, 15)) := rfl
theorem c_123 : z_SH[123]? = some (.inl (1, 15)) := rfl
theorem c_124 : z_SH[124]? = some (.inl (0, 5)) := rfl
theorem c_125 : z_SH[125]? = some (.inl (0, 3)) := rfl
theorem c_126 : z_SH[126]? = some (.inl (0, 15)) := rfl
theorem c_127 : z_SH[127]? = some (.inl (0, 5)) := rfl
theorem c_128 : z_SH[128]? = some (.inl (0, 5)) := rfl
theorem c_129 : z_SH[129]? = some (.inl (0, 3)) := rfl
theorem c_130 : z_SH[130]? = some (.inl (1, 15)) := rfl
theorem c_131 : z_SH[131]? = some (.inl (0, 5)) := rfl
theorem c_132 : z_SH[132]? = some (.inl (0, 6)) := rfl
theorem c_133 : z_SH[133]? = some (.inl (0, 15)) := rfl
theorem c_134 : z_SH[134]? = some (.inl (0, 300)) := rfl
theorem c_135 : z_SH[135]? = some (.inl (1, 2)) := rfl
/-- references that never change -/
def z_RL : List (Nat × Nat × Nat) := [(0, 0, 1), (0, 1, 2), (2, 0, 3), (0, 2, 4), (4, 3, 5), (4, 4, 6), (4, 5, 7), (4, 6, 8), (4, 7, 9), (4, 8, 10), (4, 9, 11), (4, 10, 12), (4, 11, 13), (4, 12, 14), (0, 3, 15), (15, 3, 16), (15, 4, 17), (15, 5, 18), (15, 6, 19), (15, 7, 20), (15, 8, 21), (15, 9, 22), (15, 10, 23), (15, 11, 24), (15, 12, 25), (0, 4, 26), (0, 5, 27), (0, 6, 28), (28, 0, 29), (28, 3, 30), (28, 4, 31), (28, 5, 32), (28, 6, 33), (28, 7, 34), (28, 8, 35), (28, 9, 36), (28, 10, 37), (28, 11, 38), (28, 12, 39), (28, 13, 46), (28, 14, 47), (28, 15, 48), (0, 7, 49), (0, 8, 50), (51, 0, 52), (51, 1, 53), (51, 2, 54), (51, 3, 55), (56, 0, 57), (56, 1, 58), (56, 2, 59), (56, 3, 60), (61, 0, 62), (61, 1, 63), (61, 2, 64), (61, 3, 65), (66, 0, 67), (66, 1, 68), (66, 2, 69), (66, 3, 70), (71, 0, 72), (71, 1, 73), (71, 2, 74), (71, 3, 75), (76, 3, 77), (76, 4, 78), (76, 5, 79), (76, 6, 80), (76, 7, 81), (76, 8, 82), (76, 9, 83), (76, 10, 84), (76, 11, 85), (76, 12, 86), (87, 3, 88), (87, 4, 89), (87, 5, 90), (87, 6, 91), (87, 7, 92), (87, 8, 93), (87, 9, 94), (87, 10, 95), (87, 11, 96), (87, 12, 97), (98, 0, 99), (98, 1, 100), (98, 2, 101), (98, 3, 102), (98, 4, 103), (98, 5, 104), (98, 6, 105), (98, 7, 106), (98, 8, 107), (98, 9, 108), (98, 10, 109), (98, 11, 110), (98, 12, 111), (98, 22, 112), (98, 23, 113), (98, 25, 114), (98, 26, 115), (98, 28, 116), (98, 29, 117), (98, 30, 118), (98, 31, 119), (98, 32, 120), (98, 33, 121), (98, 34, 122), (98, 35, 123), (98, 36, 124), (98, 37, 125), (98, 38, 126), (98, 39, 127), (98, 40, 128), (98, 41, 129), (98, 42, 130), (98, 43, 131), (98, 44, 132), (98, 45, 133), (98, 46, 134), (98, 47, 135)]
theorem r_0_0 : (0, 0, 1) ∈ z_RL := List.mem_of_getElem? (i := 0) rfl
theorem r_0_1 : (0, 1, 2) ∈ z_RL := List.mem_of_getElem? (i := 1) rfl
theorem r_2_0 : (2, 0, 3) ∈ z_RL := List.mem_of_getElem? (i := 2) rfl
theorem r_0_2 : (0, 2, 4) ∈ z_RL := List.mem_of_getElem? (i := 3) rfl
theorem r_4_3 : (4, 3, 5) ∈ z_RL := List.mem_of_getElem? (i := 4) rfl
theorem r_4_4 : (4, 4, 6) ∈ z_RL := List.mem_of_getElem? (i := 5) rfl
theorem r_4_5 : (4, 5, 7) ∈ z_RL := List.mem_of_getElem? (i := 6) rfl
theorem r_4_6 : (4, 6, 8) ∈ z_RL := List.mem_of_getElem? (i := 7) rfl
theorem r_4_7 : (4, 7, 9) ∈ z_RL := List.mem_of_getElem? (i := 8) rfl
theorem r_4_8 : (4, 8, 10) ∈ z_RL := List.mem_of_getElem? (i := 9) rfl
theorem r_4_9 : (4, 9, 11) ∈ z_RL := List.mem_of_getElem? (i := 10) rfl
theorem r_4_10 : (4, 10, 12) ∈ z_RL := List.mem_of_getElem? (i := 11) rfl
theorem r_4_11 : (4, 11, 13) ∈ z_RL := List.mem_of_getElem? (i := 12) rfl
theorem r_4_12 : (4, 12, 14) ∈ z_RL := List.mem_of_getElem? (i := 13) rfl
theorem r_0_3 : (0, 3, 15) ∈ z_RL := List.mem_of_getElem? (i := 14) rfl
theorem r_15_3 : (15, 3, 16) ∈ z_RL := List.mem_of_getElem? (i := 15) rfl
theorem r_15_4 : (15, 4, 17) ∈ z_RL := List.mem_of_getElem? (i := 16) rfl
theorem r_15_5 : (15, 5, 18) ∈ z_RL := List.mem_of_getElem? (i := 17) rfl
theorem r_15_6 : (15, 6, 19) ∈ z_RL := List.mem_of_getElem? (i := 18) rfl
theorem r_15_7 : (15, 7, 20) ∈ z_RL := List.mem_of_getElem? (i := 19) rfl
theorem r_15_8 : (15, 8, 21) ∈ z_RL := List.mem_of_getElem? (i := 20) rfl
theorem r_15_9 : (15, 9, 22) ∈ z_RL := List.mem_of_getElem? (i := 21) rfl
theorem r_15_10 : (15, 10, 23) ∈ z_RL := List.mem_of_getElem? (i := 22) rfl
theorem r_15_11 : (15, 11, 24) ∈ z_RL := List.mem_of_getElem? (i := 23) rfl
theorem r_15_12 : (15, 12, 25) ∈ z_RL := List.mem_of_getElem? (i := 24) rfl
theorem r_0_4 : (0, 4, 26) ∈ z_RL := List.mem_of_getElem? (i := 25) rfl
theorem r_0_5 : (0, 5, 27) ∈ z_RL := List.mem_of_getElem? (i := 26) rfl
theorem r_0_6 : (0, 6, 28) ∈ z_RL := List.mem_of_getElem? (i := 27) rfl
theorem r_28_0 : (28, 0, 29) ∈ z_RL := List.mem_of_getElem? (i := 28) rfl
theorem r_28_3 : (28, 3, 30) ∈ z_RL := List.mem_of_getElem? (i := 29) rfl
theorem r_28_4 : (28, 4, 31) ∈ z_RL := List.mem_of_getElem? (i := 30) rfl
theorem r_28_5 : (28, 5, 32) ∈ z_RL := List.mem_of_getElem? (i := 31) rfl
theorem r_28_6 : (28, 6, 33) ∈ z_RL := List.mem_of_getElem? (i := 32) rfl
theorem r_28_7 : (28, 7, 34) ∈ z_RL := List.mem_of_getElem? (i := 33) rfl
theorem r_28_8 : (28, 8, 35) ∈ z_RL := List.mem_of_getElem? (i := 34) rfl
theorem r_28_9 : (28, 9, 36) ∈ z_RL := List.mem_of_getElem? (i := 35) rfl
theorem r_28_10 : (28, 10, 37) ∈ z_RL := List.mem_of_getElem? (i := 36) rfl
theorem r_28_11 : (28, 11, 38) ∈ z_RL := List.mem_of_getElem? (i := 37) rfl
theorem r_28_12 : (28, 12, 39) ∈ z_RL := List.mem_of_getElem? (i := 38) rfl
theorem r_28_13 : (28, 13, 46) ∈ z_RL := List.mem_of_getElem? (i := 39) rfl
theorem r_28_14 : (28, 14, 47) ∈ z_RL := List.mem_of_getElem? (i := 40) rfl
theorem r_28_15 : (28, 15, 48) ∈ z_RL := List.mem_of_getElem? (i := 41) rfl
theorem r_0_7 : (0, 7, 49) ∈ z_RL := List.mem_of_getElem? (i := 42) rfl
theorem r_0_8 : (0, 8, 50) ∈ z_RL := List.mem_of_getElem? (i := 43) rfl
theorem r_51_0 : (51, 0, 52) ∈ z_RL := List.mem_of_getElem? (i := 44) rfl
theorem r_51_1 : (51, 1, 53) ∈ z_RL := List.mem_of_getElem? (i := 45) rfl
theorem r_51_2 : (51, 2, 54) ∈ z_RL := List.mem_of_getElem? (i := 46) rfl
theorem r_51_3 : (51, 3, 55) ∈ z_RL := List.mem_of_getElem? (i := 47) rfl
theorem r_56_0 : (56, 0, 57) ∈ z_RL := List.mem_of_getElem? (i := 48) rfl
theorem r_56_1 : (56, 1, 58) ∈ z_RL := List.mem_of_getElem? (i := 49) rfl
theorem r_56_2 : (56, 2, 59) ∈ z_RL := List.mem_of_getElem? (i := 50) rfl
theorem r_56_3 : (56, 3, 60) ∈ z_RL := List.mem_of_getElem? (i := 51) rfl
theorem r_61_0 : (61, 0, 62) ∈ z_RL := List.mem_of_getElem? (i := 52) rfl
theorem r_61_1 : (61, 1, 63) ∈ z_RL := List.mem_of_getElem? (i := 53) rfl
theorem r_61_2 : (61, 2, 64) ∈ z_RL := List.mem_of_getElem? (i := 54) rfl
theorem r_61_3 : (61, 3, 65) ∈ z_RL := List.mem_of_getElem? (i := 55) rfl
theorem r_66_0 : (66, 0, 67) ∈ z_RL := List.mem_of_getElem? (i := 56) rfl
theorem r_66_1 : (66, 1, 68) ∈ z_RL := List.mem_of_getElem? (i := 57) rfl
theorem r_66_2 : (66, 2, 69) ∈ z_RL := List.mem_of_getElem? (i := 58) rfl
theorem r_66_3 : (66, 3, 70) ∈ z_RL := List.mem_of_getElem? (i := 59) rfl
theorem r_71_0 : (71, 0, 72) ∈ z_RL := List.mem_of_getElem? (i := 60) rfl
theorem r_71_1 : (71, 1, 73) ∈ z_RL := List.mem_of_getElem? (i := 61) rfl
theorem r_71_2 : (71, 2, 74) ∈ z_RL := List.mem_of_getElem? (i := 62) rfl
theorem r_71_3 : (71, 3, 75) ∈ z_RL := List.mem_of_getElem? (i := 63) rfl
theorem r_76_3 : (76, 3, 77) ∈ z_RL := List.mem_of_getElem? (i := 64) rfl
theorem r_76_4 : (76, 4, 78) ∈ z_RL := List.mem_of_getElem? (i := 65) rfl
theorem r_76_5 : (76, 5, 79) ∈ z_RL := List.mem_of_getElem? (i := 66) rfl
theorem r_76_6 : (76, 6, 80) ∈ z_RL := List.mem_of_getElem? (i := 67) rfl
theorem r_76_7 : (76, 7, 81) ∈ z_RL := List.mem_of_getElem? (i := 68) rfl
theorem r_76_8 : (76, 8, 82) ∈ z_RL := List.mem_of_getElem? (i := 69) rfl
theorem r_76_9 : (76, 9, 83) ∈ z_RL := List.mem_of_getElem? (i := 70) rfl
theorem r_76_10 : (76, 10, 84) ∈ z_RL := List.mem_of_getElem? (i := 71) rfl
theorem r_76_11 : (76, 11, 85) ∈ z_RL := List.mem_of_getElem? (i := 72) rfl
theorem r_76_12 : (76, 12, 86) ∈ z_RL := List.mem_of_getElem? (i := 73) rfl
theorem r_87_3 : (87, 3, 88) ∈ z_RL := List.mem_of_getElem? (i := 74) rfl
theorem r_87_4 : (87, 4, 89) ∈ z_RL := List.mem_of_getElem? (i := 75) rfl
theorem r_87_5 : (87, 5, 90) ∈ z_RL := List.mem_of_getElem? (i := 76) rfl
theorem r_87_6 : (87, 6, 91) ∈ z_RL := List.mem_of_getElem? (i := 77) rfl
theorem r_87_7 : (87, 7, 92) ∈ z_RL := List.mem_of_getElem? (i := 78) rfl
theorem r_87_8 : (87, 8, 93) ∈ z_RL := List.mem_of_getElem? (i := 79) rfl
theorem r_87_9 : (87, 9, 94) ∈ z_RL := List.mem_of_getElem? (i := 80) rfl
theorem r_87_10 : (87, 10, 95) ∈ z_RL := List.mem_of_getElem? (i := 81) rfl
theorem r_87_11 : (87, 11, 96) ∈ z_RL := List.mem_of_getElem? (i := 82) rfl
theorem r_87_12 : (87, 12, 97) ∈ z_RL := List.mem_of_getElem? (i := 83) rfl
theorem r_98_0 : (98, 0, 99) ∈ z_RL := List.mem_of_getElem? (i := 84) rfl
theorem r_98_1 : (98, 1, 100) ∈ z_RL := List.mem_of_getElem? (i := 85) rfl
theorem r_98_2 : (98, 2, 101) ∈ z_RL := List.mem_of_getElem? (i := 86) rfl
theorem r_98_3 : (98, 3, 102) ∈ z_RL := List.mem_of_getElem? (i := 87) rfl
theorem r_98_4 : (98, 4, 103) ∈ z_RL := List.mem_of_getElem? (i := 88) rfl
theorem r_98_5 : (98, 5, 104) ∈ z_RL := List.mem_of_getElem? (i := 89) rfl
theorem r_98_6 : (98, 6, 105) ∈ z_RL := List.mem_of_getElem? (i := 90) rfl
theorem r_98_7 : (98, 7, 106) ∈ z_RL := List.mem_of_getElem? (i := 91) rfl
theorem r_98_8 : (98, 8, 107) ∈ z_RL := List.mem_of_getElem? (i := 92) rfl
theorem r_98_9 : (98, 9, 108) ∈ z_RL := List.mem_of_getElem? (i := 93) rfl
theorem r_98_10 : (98, 10, 109) ∈ z_RL := List.mem_of_getElem? (i := 94) rfl
theorem r_98_11 : (98, 11, 110) ∈ z_RL := List.mem_of_getElem? (i := 95) rfl
theorem r_98_12 : (98, 12, 111) ∈ z_RL := List.mem_of_getElem? (i := 96) rfl
theorem r_98_22 : (98, 22, 112) ∈ z_RL := List.mem_of_getElem? (i := 97) rfl
theorem r_98_23 : (98, 23, 113) ∈ z_RL := List.mem_of_getElem? (i := 98) rfl
theorem r_98_25 : (98, 25, 114) ∈ z_RL := List.mem_of_getElem? (i := 99) rfl
theorem r_98_26 : (98, 26, 115) ∈ z_RL := List.mem_of_getElem? (i := 100) rfl
theorem r_98_28 : (98, 28, 116) ∈ z_RL := List.mem_of_getElem? (i := 101) rfl
theorem r_98_29 : (98, 29, 117) ∈ z_RL := List.mem_of_getElem? (i := 102) rfl
theorem r_98_30 : (98, 30, 118) ∈ z_RL := List.mem_of_getElem? (i := 103) rfl
theorem r_98_31 : (98, 31, 119) ∈ z_RL := List.mem_of_getElem? (i := 104) rfl
theorem r_98_32 : (98, 32, 120) ∈ z_RL := List.mem_of_getElem? (i := 105) rfl
theorem r_98_33 : (98, 33, 121) ∈ z_RL := List.mem_of_getElem? (i := 106) rfl
theorem r_98_34 : (98, 34, 122) ∈ z_RL := List.mem_of_getElem? (i := 107) rfl
theorem r_98_35 : (98, 35, 123) ∈ z_RL := List.mem_of_getElem? (i := 108) rfl
theorem r_98_36 : (98, 36, 124) ∈ z_RL := List.mem_of_getElem? (i := 109) rfl
theorem r_98_37 : (98, 37, 125) ∈ z_RL := List.mem_of_getElem? (i := 110) rfl
theorem r_98_38 : (98, 38, 126) ∈ z_RL := List.mem_of_getElem? (i := 111) rfl
theorem r_98_39 : (98, 39, 127) ∈ z_RL := List.mem_of_getElem? (i := 112) rfl
theorem r_98_40 : (98, 40, 128) ∈ z_RL := List.mem_of_getElem? (i := 113) rfl
theorem r_98_41 : (98, 41, 129) ∈ z_RL := List.mem_of_getElem? (i := 114) rfl
theorem r_98_42 : (98, 42, 130) ∈ z_RL := List.mem_of_getElem? (i := 115) rfl
theorem r_98_43 : (98, 43, 131) ∈ z_RL := List.mem_of_getElem? (i := 116) rfl
theorem r_98_44 : (98, 44, 132) ∈ z_RL := List.mem_of_getElem? (i := 117) rfl
theorem r_98_45 : (98, 45, 133) ∈ z_RL := List.mem_of_getElem? (i := 118) rfl
theorem r_98_46 : (98, 46, 134) ∈ z_RL := List.mem_of_getElem? (i := 119) rfl
theorem r_98_47 : (98, 47, 135) ∈ z_RL := List.mem_of_getElem? (i := 120) rfl
def z_lawS : List z_H := [.inr (0, [2, 2, 2, 2, 0, 0, 0, 0, 0, 0, 0, 0, 0]), .inl (0, 8), .inl (0, 8), .inl (0, 8), .inl (0, 8)]
def z_lawR : List (Option Nat) := [some 1, some 2, some 3, some 4, none, none, none, none, none, none, none, none, none]
def z_shipS : List z_H := [.inr (3, [0, 0, 0, 2, 2, 2, 2, 2, 2, 2, 2, 2, 2]), .inl (0, 6), .inl (0, 6), .inl (0, 14), .inl (0, 14), .inl (0, 14), .inl (0, 14), .inl (0, 14), .inl (0, 14), .inl (0, 5), .inl (0, 3)]
def z_shipR : List (Option Nat) := [none, none, none, some 1, some 2, some 3, some 4, some 5, some 6, some 7, some 8, some 9, some 10]
def z_LAWS : List Nat := [51, 56, 61, 66, 71]
def z_SHIPS : List Nat := [4, 15, 76, 87]
/-- an object with its own arrays behind it -/
def z_blk (S : List z_H) (Rf : List (Option Nat)) (sh : List z_H) (ρ : Nat → Nat → Option Nat) (o : Nat) : Prop := (∀ (j : Nat) (x : z_H), S[j]? = some x → sh[o + j]? = some x) ∧ ∀ (k r : Nat), Rf[k]? = some (some r) → ρ o k = some (o + r)
theorem z_blk.r {S : List z_H} {Rf : List (Option Nat)} {sh : List z_H} {ρ : Nat → Nat → Option Nat} {o : Nat} {μ : z_M} (h : z_blk S Rf sh ρ o) (hρ : μ.2.2 = ρ) (k : Nat) {r : Nat} (hk : Rf[k]? = some (some r)) : μ.2.2 o k = some (o + r) := by
  rw [hρ]
  exact h.2 k r hk
/-- all cells are made, the fixed references stand, those that move are where they may be -/
def z_ok (sh : List z_H) (ρ : Nat → Nat → Option Nat) : Prop := sh = z_SH ∧ (∀ q ∈ z_RL, ρ q.1 q.2.1 = some q.2.2) ∧ (∀ r, ρ 0 9 = some r → r ∈ z_LAWS) ∧ (∀ k r, ρ 1 k = some r → r ∈ z_LAWS) ∧ (∀ k r, ρ 26 k = some r → r ∈ [76, 87]) ∧ (∀ k r, ρ 39 k = some r → r ∈ [40, 41, 42, 43, 44, 45])
section ZOk
variable {sh : List z_H} {ρ : Nat → Nat → Option Nat} {μ : z_M}
theorem z_ok.s (h : z_ok sh ρ) {i : Nat} {x : z_H} (hi : z_SH[i]? = some x) : sh[i]? = some x := by
  rw [h.1]
  exact hi
theorem z_ok.r (h : z_ok sh ρ) (hρ : μ.2.2 = ρ) {i k r : Nat} (hq : (i, k, r) ∈ z_RL) : μ.2.2 i k = some r := by
  rw [hρ]
  exact h.2.1 _ hq
theorem z_blk_of {S : List z_H} {Rf : List (Option Nat)} (h : z_ok sh ρ) (o : Nat) (h1 : (List.range S.length).all (fun j => decide (z_SH[o + j]? = S[j]?)) = true) (h2 : (List.range Rf.length).all (fun k => match Rf[k]? with | some (some r) => decide ((o, k, o + r) ∈ z_RL) | _ => true) = true) : z_blk S Rf sh ρ o := by
  refine ⟨fun j x hj => ?_, fun k r hk => ?_⟩
  · rw [h.1]
    have hl := (List.getElem?_eq_some_iff.mp hj).1
    have := List.all_eq_true.mp h1 j (List.mem_range.mpr hl)
    rw [of_decide_eq_true this]
    exact hj
  · have hl := (List.getElem?_eq_some_iff.mp hk).1
    have := List.all_eq_true.mp h2 k (List.mem_range.mpr hl)
    rw [hk] at this
    exact h.2.1 _ (of_decide_eq_true this)
theorem z_ok.lawB (h : z_ok sh ρ) {o : Nat} (ho : o ∈ z_LAWS) : z_blk z_lawS z_lawR sh ρ o := by
  have ho : o ∈ [51, 56, 61, 66, 71] := ho
  simp only [List.mem_cons, List.not_mem_nil, or_false] at ho
  rcases ho with rfl | rfl | rfl | rfl | rfl <;> exact z_blk_of h _ (by decide +kernel) (by decide +kernel)
theorem z_ok.shipB (h : z_ok sh ρ) {o : Nat} (ho : o ∈ z_SHIPS) : z_blk z_shipS z_shipR sh ρ o := by
  have ho : o ∈ [4, 15, 76, 87] := ho
  simp only [List.mem_cons, List.not_mem_nil, or_false] at ho
  rcases ho with rfl | rfl | rfl | rfl <;> exact z_blk_of h _ (by decide +kernel) (by decide +kernel)
theorem z_ok.draft (h : z_ok sh ρ) (hρ : μ.2.2 = ρ) {r : Nat} (hr : μ.2.2 0 9 = some r) : z_blk z_lawS z_lawR sh ρ r := h.lawB (h.2.2.1 r (by rw [← hρ]; exact hr))
theorem z_ok.lawsAt (h : z_ok sh ρ) (hρ : μ.2.2 = ρ) {k r : Nat} (hr : μ.2.2 1 k = some r) : z_blk z_lawS z_lawR sh ρ r := h.lawB (h.2.2.2.1 k r (by rw [← hρ]; exact hr))
theorem z_ok.imgAt (h : z_ok sh ρ) (hρ : μ.2.2 = ρ) {k r : Nat} (hr : μ.2.2 26 k = some r) : z_blk z_shipS z_shipR sh ρ r := by
  have := h.2.2.2.2.1 k r (by rw [← hρ]; exact hr)
  refine h.shipB ?_
  simp only [List.mem_cons, List.not_mem_nil, or_false] at this
  rcases this with rfl | rfl <;> decide
theorem z_ok.rowAt (h : z_ok sh ρ) (hρ : μ.2.2 = ρ) {k r : Nat} (hr : μ.2.2 39 k = some r) : sh[r]? = some (.inl (0, 14)) := by
  have := h.2.2.2.2.2 k r (by rw [← hρ]; exact hr)
  rw [h.1]
  simp only [List.mem_cons, List.not_mem_nil, or_false] at this
  rcases this with rfl | rfl | rfl | rfl | rfl | rfl <;> rfl
end ZOk
theorem iX0 : ∀ w ∈ u_ws RX0 TX0 13, w ∈ z_T := by decide +kernel
theorem iX1 : ∀ w ∈ u_ws RX1 TX1 9, w ∈ z_T := by decide +kernel
theorem iX2 : ∀ w ∈ u_ws RX2 TX2 16, w ∈ z_T := by decide +kernel
theorem iX3 : ∀ w ∈ u_ws RX3 TX3 13, w ∈ z_T := by decide +kernel
theorem iX4 : ∀ w ∈ u_ws RX4 TX4 10, w ∈ z_T := by decide +kernel
theorem iX5 : ∀ w ∈ u_ws RX5 TX5 48, w ∈ z_T := by decide +kernel
theorem m_0 : Cond.selects RX1 yX1_nextToken yX1_nextToken ∈ z_T := z_T_in 0 (by decide +kernel) (by decide +kernel)
theorem m_1 : Cond.selects RX1 yX1_beginClause yX1_beginClause ∈ z_T := z_T_in 1 (by decide +kernel) (by decide +kernel)
theorem m_2 : Cond.selects RX1 yX1_wordIn yX1_wordIn ∈ z_T := z_T_in 2 (by decide +kernel) (by decide +kernel)
theorem m_3 : Cond.selects RX1 yX1_isWordAt yX1_isWordAt ∈ z_T := z_T_in 3 (by decide +kernel) (by decide +kernel)
theorem m_4 : Cond.selects RX1 yX1_refuse yX1_refuse ∈ z_T := z_T_in 4 (by decide +kernel) (by decide +kernel)
theorem m_5 : Cond.selects RX1 yX1_isOneTooMany yX1_isOneTooMany ∈ z_T := z_T_in 5 (by decide +kernel) (by decide +kernel)
theorem m_6 : Cond.selects RX1 yX1_readBody yX1_readBody ∈ z_T := z_T_in 6 (by decide +kernel) (by decide +kernel)
theorem m_7 : Cond.selects RX1 yX1_readRides yX1_readRides ∈ z_T := z_T_in 7 (by decide +kernel) (by decide +kernel)
theorem m_8 : Cond.selects RX1 yX1_readKind yX1_readKind ∈ z_T := z_T_in 8 (by decide +kernel) (by decide +kernel)
theorem m_9 : Cond.selects RX1 yX1_readFund yX1_readFund ∈ z_T := z_T_in 9 (by decide +kernel) (by decide +kernel)
theorem m_10 : Cond.selects RX1 yX1_isFundNext yX1_isFundNext ∈ z_T := z_T_in 10 (by decide +kernel) (by decide +kernel)
theorem m_11 : Cond.selects RX1 yX1_readAhead yX1_readAhead ∈ z_T := z_T_in 11 (by decide +kernel) (by decide +kernel)
theorem m_12 : Cond.selects RX1 yX1_readFirst yX1_readFirst ∈ z_T := z_T_in 12 (by decide +kernel) (by decide +kernel)
theorem m_13 : Cond.selects RX1 yX1_readBehind yX1_readBehind ∈ z_T := z_T_in 13 (by decide +kernel) (by decide +kernel)
theorem m_14 : Cond.selects RX1 yX1_readWithin yX1_readWithin ∈ z_T := z_T_in 14 (by decide +kernel) (by decide +kernel)
theorem m_15 : Cond.selects RX1 yX1_readDies yX1_readDies ∈ z_T := z_T_in 15 (by decide +kernel) (by decide +kernel)
theorem m_16 : Cond.selects RX1 yX1_readNumber yX1_readNumber ∈ z_T := z_T_in 16 (by decide +kernel) (by decide +kernel)
theorem m_17 : Cond.selects RX1 yX1_readLeave yX1_readLeave ∈ z_T := z_T_in 17 (by decide +kernel) (by decide +kernel)
theorem m_18 : Cond.selects RX1 yX1_readCosts yX1_readCosts ∈ z_T := z_T_in 18 (by decide +kernel) (by decide +kernel)
theorem m_19 : Cond.selects RX1 yX1_readClose yX1_readClose ∈ z_T := z_T_in 19 (by decide +kernel) (by decide +kernel)
theorem m_20 : Cond.selects RX0 yX0_followSteps yX0_followSteps ∈ z_T := z_T_in 20 (by decide +kernel) (by decide +kernel)
theorem m_21 : Cond.selects RX0 yX0_raiseRanks yX0_raiseRanks ∈ z_T := z_T_in 21 (by decide +kernel) (by decide +kernel)
theorem m_22 : Cond.selects RX4 yX4_isClaim yX4_isClaim ∈ z_T := z_T_in 22 (by decide +kernel) (by decide +kernel)
theorem m_23 : Cond.selects RX3 yX3_lastUnbarred yX3_lastUnbarred ∈ z_T := z_T_in 23 (by decide +kernel) (by decide +kernel)
theorem m_24 : Cond.selects RX3 yX3_lacksLeave yX3_lacksLeave ∈ z_T := z_T_in 24 (by decide +kernel) (by decide +kernel)
theorem m_25 : Cond.selects RX2 yX2_joinLine yX2_joinLine ∈ z_T := z_T_in 25 (by decide +kernel) (by decide +kernel)
theorem m_26 : Cond.selects RX2 yX2_payAllFrom yX2_payAllFrom ∈ z_T := z_T_in 26 (by decide +kernel) (by decide +kernel)
theorem m_27 : Cond.selects RX2 yX2_payFund yX2_payFund ∈ z_T := z_T_in 27 (by decide +kernel) (by decide +kernel)
theorem m_28 : Cond.selects RX2 yX2_marshal yX2_marshal ∈ z_T := z_T_in 28 (by decide +kernel) (by decide +kernel)
theorem m_29 : Cond.selects RX2 yX2_mostPayable yX2_mostPayable ∈ z_T := z_T_in 29 (by decide +kernel) (by decide +kernel)
theorem m_30 : Cond.selects RX2 yX2_wantedOf yX2_wantedOf ∈ z_T := z_T_in 30 (by decide +kernel) (by decide +kernel)
theorem m_31 : Cond.selects RX2 yX2_nextOrder yX2_nextOrder ∈ z_T := z_T_in 31 (by decide +kernel) (by decide +kernel)
theorem m_32 : Cond.selects RX2 yX2_swapFunds yX2_swapFunds ∈ z_T := z_T_in 32 (by decide +kernel) (by decide +kernel)
theorem m_33 : Cond.selects RX2 yX2_paidForShip yX2_paidForShip ∈ z_T := z_T_in 33 (by decide +kernel) (by decide +kernel)
theorem m_34 : Cond.selects RX4 yX4_holdingWithout yX4_holdingWithout ∈ z_T := z_T_in 34 (by decide +kernel) (by decide +kernel)
theorem m_35 : Cond.selects RX4 yX4_canSailAgain yX4_canSailAgain ∈ z_T := z_T_in 35 (by decide +kernel) (by decide +kernel)
theorem m_36 : Cond.selects RX4 yX4_supposeVoyage yX4_supposeVoyage ∈ z_T := z_T_in 36 (by decide +kernel) (by decide +kernel)
theorem m_37 : Cond.selects RX4 yX4_wiseFor yX4_wiseFor ∈ z_T := z_T_in 37 (by decide +kernel) (by decide +kernel)
theorem m_38 : Cond.selects RX4 yX4_worthFor yX4_worthFor ∈ z_T := z_T_in 38 (by decide +kernel) (by decide +kernel)
theorem m_39 : Cond.selects RX4 yX4_hangsOn yX4_hangsOn ∈ z_T := z_T_in 39 (by decide +kernel) (by decide +kernel)
theorem m_40 : Cond.selects RX5 yX5_bare yX5_bare ∈ z_T := z_T_in 40 (by decide +kernel) (by decide +kernel)
theorem m_41 : Cond.selects RX5 yX5_keepLaw yX5_keepLaw ∈ z_T := z_T_in 41 (by decide +kernel) (by decide +kernel)
theorem m_42 : Cond.selects RX5 yX5_findRanks yX5_findRanks ∈ z_T := z_T_in 42 (by decide +kernel) (by decide +kernel)
theorem m_43 : Cond.selects RX5 yX5_areAlike yX5_areAlike ∈ z_T := z_T_in 43 (by decide +kernel) (by decide +kernel)
theorem m_44 : Cond.selects RX5 yX5_levelRanks yX5_levelRanks ∈ z_T := z_T_in 44 (by decide +kernel) (by decide +kernel)
theorem m_46 : Cond.selects RX5 yX5_here yX5_here ∈ z_T := z_T_in 46 (by decide +kernel) (by decide +kernel)
theorem m_47 : Cond.selects RX5 yX5_takeClause yX5_takeClause ∈ z_T := z_T_in 47 (by decide +kernel) (by decide +kernel)
theorem m_48 : Cond.selects RX5 yX5_readWord yX5_readWord ∈ z_T := z_T_in 48 (by decide +kernel) (by decide +kernel)
theorem m_49 : Cond.selects RX5 yX5_clauseOf yX5_clauseOf ∈ z_T := z_T_in 49 (by decide +kernel) (by decide +kernel)
theorem m_50 : Cond.selects RX5 yX5_fails yX5_fails ∈ z_T := z_T_in 50 (by decide +kernel) (by decide +kernel)
theorem m_51 : Cond.selects RX5 yX5_takeRides yX5_takeRides ∈ z_T := z_T_in 51 (by decide +kernel) (by decide +kernel)
theorem m_52 : Cond.selects RX5 yX5_takeKind yX5_takeKind ∈ z_T := z_T_in 52 (by decide +kernel) (by decide +kernel)
theorem m_53 : Cond.selects RX5 yX5_kindOf yX5_kindOf ∈ z_T := z_T_in 53 (by decide +kernel) (by decide +kernel)
theorem m_54 : Cond.selects RX5 yX5_fundOf yX5_fundOf ∈ z_T := z_T_in 54 (by decide +kernel) (by decide +kernel)
theorem m_55 : Cond.selects RX5 yX5_takeAhead yX5_takeAhead ∈ z_T := z_T_in 55 (by decide +kernel) (by decide +kernel)
theorem m_56 : Cond.selects RX5 yX5_takeOnce yX5_takeOnce ∈ z_T := z_T_in 56 (by decide +kernel) (by decide +kernel)
theorem m_57 : Cond.selects RX5 yX5_takeNumber yX5_takeNumber ∈ z_T := z_T_in 57 (by decide +kernel) (by decide +kernel)
theorem m_58 : Cond.selects RX5 yX5_withinOf yX5_withinOf ∈ z_T := z_T_in 58 (by decide +kernel) (by decide +kernel)
theorem m_59 : Cond.selects RX5 yX5_takeOfKind yX5_takeOfKind ∈ z_T := z_T_in 59 (by decide +kernel) (by decide +kernel)
theorem m_60 : Cond.selects RX5 yX5_ring yX5_ring ∈ z_T := z_T_in 60 (by decide +kernel) (by decide +kernel)
theorem m_61 : Cond.selects RX5 yX5_putClaim yX5_putClaim ∈ z_T := z_T_in 61 (by decide +kernel) (by decide +kernel)
theorem m_62 : Cond.selects RX5 yX5_isClaim yX5_isClaim ∈ z_T := z_T_in 62 (by decide +kernel) (by decide +kernel)
theorem m_63 : Cond.selects RX5 yX5_voyageOf yX5_voyageOf ∈ z_T := z_T_in 63 (by decide +kernel) (by decide +kernel)
theorem m_64 : Cond.selects RX5 yX5_why yX5_why ∈ z_T := z_T_in 64 (by decide +kernel) (by decide +kernel)
theorem m_65 : Cond.selects RX5 yX5_order2 yX5_order2 ∈ z_T := z_T_in 65 (by decide +kernel) (by decide +kernel)
theorem m_66 : Cond.selects RX5 yX5_isThere yX5_isThere ∈ z_T := z_T_in 66 (by decide +kernel) (by decide +kernel)
theorem m_67 : Cond.selects RX5 yX5_isOn yX5_isOn ∈ z_T := z_T_in 67 (by decide +kernel) (by decide +kernel)
theorem m_68 : Cond.selects RX5 yX5_payOut yX5_payOut ∈ z_T := z_T_in 68 (by decide +kernel) (by decide +kernel)
theorem m_69 : Cond.selects RX5 yX5_payAll yX5_payAll ∈ z_T := z_T_in 69 (by decide +kernel) (by decide +kernel)
theorem m_70 : Cond.selects RX5 yX5_findStep yX5_findStep ∈ z_T := z_T_in 70 (by decide +kernel) (by decide +kernel)
theorem m_71 : Cond.selects RX5 yX5_isWanting yX5_isWanting ∈ z_T := z_T_in 71 (by decide +kernel) (by decide +kernel)
theorem m_72 : Cond.selects RX5 yX5_wants yX5_wants ∈ z_T := z_T_in 72 (by decide +kernel) (by decide +kernel)
theorem m_73 : Cond.selects RX5 yX5_payStep yX5_payStep ∈ z_T := z_T_in 73 (by decide +kernel) (by decide +kernel)
theorem m_74 : Cond.selects RX5 yX5_pay yX5_pay ∈ z_T := z_T_in 74 (by decide +kernel) (by decide +kernel)
theorem m_75 : Cond.selects RX5 yX5_having yX5_having ∈ z_T := z_T_in 75 (by decide +kernel) (by decide +kernel)
theorem m_76 : Cond.selects RX5 yX5_hanging yX5_hanging ∈ z_T := z_T_in 76 (by decide +kernel) (by decide +kernel)
theorem m_78 : Cond.initialized RX4 ∈ z_T := z_T_in 78 (by decide +kernel) (by decide +kernel)
theorem m_79 : Cond.initialized RX1 ∈ z_T := z_T_in 79 (by decide +kernel) (by decide +kernel)
theorem m_80 : Cond.initialized RX3 ∈ z_T := z_T_in 80 (by decide +kernel) (by decide +kernel)
theorem m_81 : Cond.initialized RX2 ∈ z_T := z_T_in 81 (by decide +kernel) (by decide +kernel)
theorem m_82 : Cond.initialized RX0 ∈ z_T := z_T_in 82 (by decide +kernel) (by decide +kernel)
theorem m_83 : Cond.initialized RX5 ∈ z_T := z_T_in 83 (by decide +kernel) (by decide +kernel)
theorem m_88 : Cond.initialized "java/lang/Math" ∈ z_T := z_T_in 88 (by decide +kernel) (by decide +kernel)
theorem m_89 : Cond.initialized RJ6 ∈ z_T := z_T_in 89 (by decide +kernel) (by decide +kernel)
theorem m_90 : Cond.initialized "java/lang/System" ∈ z_T := z_T_in 90 (by decide +kernel) (by decide +kernel)
theorem m_107 : Cond.fieldLink RX1 9 "LastLent$LawText" "bytes" "[I" ∈ z_T := z_T_in 107 (by decide +kernel) (by decide +kernel)
theorem m_108 : Cond.fieldLink RX1 22 "LastLent$LawText" "size" "I" ∈ z_T := z_T_in 108 (by decide +kernel) (by decide +kernel)
theorem m_109 : Cond.fieldLink RX4 59 "LastLent$LawText" "size" "I" ∈ z_T := z_T_in 109 (by decide +kernel) (by decide +kernel)
theorem m_110 : Cond.fieldLink RX1 15 "LastLent$LawText" "faultNumber" "I" ∈ z_T := z_T_in 110 (by decide +kernel) (by decide +kernel)
theorem m_111 : Cond.fieldLink RX4 75 "LastLent$LawText" "faultNumber" "I" ∈ z_T := z_T_in 111 (by decide +kernel) (by decide +kernel)
theorem m_112 : Cond.fieldLink RX1 19 "LastLent$LawText" "faultPlace" "I" ∈ z_T := z_T_in 112 (by decide +kernel) (by decide +kernel)
theorem m_113 : Cond.fieldLink RX4 81 "LastLent$LawText" "faultPlace" "I" ∈ z_T := z_T_in 113 (by decide +kernel) (by decide +kernel)
theorem m_114 : Cond.fieldLink RX1 42 "LastLent$LawText" "token" "I" ∈ z_T := z_T_in 114 (by decide +kernel) (by decide +kernel)
theorem m_115 : Cond.fieldLink RX1 154 "LastLent$LawText" "start" "I" ∈ z_T := z_T_in 115 (by decide +kernel) (by decide +kernel)
theorem m_116 : Cond.fieldLink RX1 30 "LastLent$LawText" "place" "I" ∈ z_T := z_T_in 116 (by decide +kernel) (by decide +kernel)
theorem m_117 : Cond.fieldLink RX1 33 "LastLent$LawText" "clausesTold" "I" ∈ z_T := z_T_in 117 (by decide +kernel) (by decide +kernel)
theorem m_118 : Cond.fieldLink RX1 36 "LastLent$LawText" "ridesTold" "I" ∈ z_T := z_T_in 118 (by decide +kernel) (by decide +kernel)
theorem m_145 : Cond.fieldLink RX3 42 "LastLent$Ship" "voyages" "I" ∈ z_T := z_T_in 145 (by decide +kernel) (by decide +kernel)
theorem m_146 : Cond.fieldLink RX4 188 "LastLent$Ship" "voyages" "I" ∈ z_T := z_T_in 146 (by decide +kernel) (by decide +kernel)
theorem m_147 : Cond.fieldLink RX3 46 "LastLent$Ship" "claims" "I" ∈ z_T := z_T_in 147 (by decide +kernel) (by decide +kernel)
theorem m_148 : Cond.fieldLink RX2 89 "LastLent$Ship" "claims" "I" ∈ z_T := z_T_in 148 (by decide +kernel) (by decide +kernel)
theorem m_149 : Cond.fieldLink RX4 191 "LastLent$Ship" "claims" "I" ∈ z_T := z_T_in 149 (by decide +kernel) (by decide +kernel)
theorem m_150 : Cond.fieldLink RX3 49 "LastLent$Ship" "leaves" "I" ∈ z_T := z_T_in 150 (by decide +kernel) (by decide +kernel)
theorem m_151 : Cond.fieldLink RX4 178 "LastLent$Ship" "leaves" "I" ∈ z_T := z_T_in 151 (by decide +kernel) (by decide +kernel)
theorem m_152 : Cond.fieldLink RX3 9 "LastLent$Ship" "begins" "[I" ∈ z_T := z_T_in 152 (by decide +kernel) (by decide +kernel)
theorem m_153 : Cond.fieldLink RX3 15 "LastLent$Ship" "ends" "[I" ∈ z_T := z_T_in 153 (by decide +kernel) (by decide +kernel)
theorem m_154 : Cond.fieldLink RX3 18 "LastLent$Ship" "kinds" "[I" ∈ z_T := z_T_in 154 (by decide +kernel) (by decide +kernel)
theorem m_155 : Cond.fieldLink RX2 94 "LastLent$Ship" "kinds" "[I" ∈ z_T := z_T_in 155 (by decide +kernel) (by decide +kernel)
theorem m_156 : Cond.fieldLink RX4 169 "LastLent$Ship" "kinds" "[I" ∈ z_T := z_T_in 156 (by decide +kernel) (by decide +kernel)
theorem m_157 : Cond.fieldLink RX3 21 "LastLent$Ship" "holders" "[I" ∈ z_T := z_T_in 157 (by decide +kernel) (by decide +kernel)
theorem m_158 : Cond.fieldLink RX4 166 "LastLent$Ship" "holders" "[I" ∈ z_T := z_T_in 158 (by decide +kernel) (by decide +kernel)
theorem m_159 : Cond.fieldLink RX2 143 "LastLent$Ship" "holders" "[I" ∈ z_T := z_T_in 159 (by decide +kernel) (by decide +kernel)
theorem m_160 : Cond.fieldLink RX3 24 "LastLent$Ship" "days" "[I" ∈ z_T := z_T_in 160 (by decide +kernel) (by decide +kernel)
theorem m_161 : Cond.fieldLink RX4 172 "LastLent$Ship" "days" "[I" ∈ z_T := z_T_in 161 (by decide +kernel) (by decide +kernel)
theorem m_162 : Cond.fieldLink RX3 27 "LastLent$Ship" "amounts" "[I" ∈ z_T := z_T_in 162 (by decide +kernel) (by decide +kernel)
theorem m_163 : Cond.fieldLink RX2 93 "LastLent$Ship" "amounts" "[I" ∈ z_T := z_T_in 163 (by decide +kernel) (by decide +kernel)
theorem m_164 : Cond.fieldLink RX4 175 "LastLent$Ship" "amounts" "[I" ∈ z_T := z_T_in 164 (by decide +kernel) (by decide +kernel)
theorem m_165 : Cond.fieldLink RX3 30 "LastLent$Ship" "cargoSets" "[I" ∈ z_T := z_T_in 165 (by decide +kernel) (by decide +kernel)
theorem m_166 : Cond.fieldLink RX2 97 "LastLent$Ship" "cargoSets" "[I" ∈ z_T := z_T_in 166 (by decide +kernel) (by decide +kernel)
theorem m_167 : Cond.fieldLink RX4 181 "LastLent$Ship" "cargoSets" "[I" ∈ z_T := z_T_in 167 (by decide +kernel) (by decide +kernel)
theorem m_168 : Cond.fieldLink RX3 33 "LastLent$Ship" "asked" "[I" ∈ z_T := z_T_in 168 (by decide +kernel) (by decide +kernel)
theorem m_169 : Cond.fieldLink RX4 151 "LastLent$Ship" "asked" "[I" ∈ z_T := z_T_in 169 (by decide +kernel) (by decide +kernel)
theorem m_170 : Cond.fieldLink RX3 36 "LastLent$Ship" "sums" "[I" ∈ z_T := z_T_in 170 (by decide +kernel) (by decide +kernel)
theorem m_171 : Cond.fieldLink RX2 60 "LastLent$Ship" "sums" "[I" ∈ z_T := z_T_in 171 (by decide +kernel) (by decide +kernel)
theorem m_172 : Cond.fieldLink RX4 157 "LastLent$Ship" "sums" "[I" ∈ z_T := z_T_in 172 (by decide +kernel) (by decide +kernel)
theorem m_173 : Cond.fieldLink RX3 39 "LastLent$Ship" "owners" "[I" ∈ z_T := z_T_in 173 (by decide +kernel) (by decide +kernel)
theorem m_174 : Cond.fieldLink RX4 163 "LastLent$Ship" "owners" "[I" ∈ z_T := z_T_in 174 (by decide +kernel) (by decide +kernel)
theorem m_175 : Cond.fieldLink RX2 146 "LastLent$Ship" "owners" "[I" ∈ z_T := z_T_in 175 (by decide +kernel) (by decide +kernel)
theorem m_212 : Cond.fieldLink RX2 9 "LastLent$PayOut" "line" "[I" ∈ z_T := z_T_in 212 (by decide +kernel) (by decide +kernel)
theorem m_213 : Cond.fieldLink RX2 86 "LastLent$PayOut" "lined" "I" ∈ z_T := z_T_in 213 (by decide +kernel) (by decide +kernel)
theorem m_214 : Cond.fieldLink RX2 92 "LastLent$PayOut" "claims" "I" ∈ z_T := z_T_in 214 (by decide +kernel) (by decide +kernel)
theorem m_215 : Cond.fieldLink RX2 15 "LastLent$PayOut" "standings" "[I" ∈ z_T := z_T_in 215 (by decide +kernel) (by decide +kernel)
theorem m_216 : Cond.fieldLink RX2 18 "LastLent$PayOut" "rideSets" "[I" ∈ z_T := z_T_in 216 (by decide +kernel) (by decide +kernel)
theorem m_217 : Cond.fieldLink RX2 21 "LastLent$PayOut" "amounts" "[I" ∈ z_T := z_T_in 217 (by decide +kernel) (by decide +kernel)
theorem m_218 : Cond.fieldLink RX2 24 "LastLent$PayOut" "wants" "[I" ∈ z_T := z_T_in 218 (by decide +kernel) (by decide +kernel)
theorem m_219 : Cond.fieldLink RX2 27 "LastLent$PayOut" "gives" "[I" ∈ z_T := z_T_in 219 (by decide +kernel) (by decide +kernel)
theorem m_220 : Cond.fieldLink RX2 30 "LastLent$PayOut" "sums" "[I" ∈ z_T := z_T_in 220 (by decide +kernel) (by decide +kernel)
theorem m_221 : Cond.fieldLink RX2 33 "LastLent$PayOut" "rests" "[I" ∈ z_T := z_T_in 221 (by decide +kernel) (by decide +kernel)
theorem m_222 : Cond.fieldLink RX4 231 "LastLent$PayOut" "rests" "[I" ∈ z_T := z_T_in 222 (by decide +kernel) (by decide +kernel)
theorem m_223 : Cond.fieldLink RX2 36 "LastLent$PayOut" "funds" "[I" ∈ z_T := z_T_in 223 (by decide +kernel) (by decide +kernel)
theorem m_224 : Cond.fieldLink RX4 241 "LastLent$PayOut" "funds" "[I" ∈ z_T := z_T_in 224 (by decide +kernel) (by decide +kernel)
theorem m_225 : Cond.fieldLink RX2 39 "LastLent$PayOut" "bestFunds" "[I" ∈ z_T := z_T_in 225 (by decide +kernel) (by decide +kernel)
theorem m_226 : Cond.fieldLink RX2 44 "LastLent$PayOut" "paidAfter" "[[I" ∈ z_T := z_T_in 226 (by decide +kernel) (by decide +kernel)
theorem m_227 : Cond.fieldLink RX2 47 "LastLent$PayOut" "totalAfter" "[I" ∈ z_T := z_T_in 227 (by decide +kernel) (by decide +kernel)
theorem m_228 : Cond.fieldLink RX2 50 "LastLent$PayOut" "backAsked" "[I" ∈ z_T := z_T_in 228 (by decide +kernel) (by decide +kernel)
theorem m_229 : Cond.fieldLink RX4 247 "LastLent$PayOut" "backAsked" "[I" ∈ z_T := z_T_in 229 (by decide +kernel) (by decide +kernel)
theorem m_230 : Cond.fieldLink RX2 53 "LastLent$PayOut" "backGiven" "[I" ∈ z_T := z_T_in 230 (by decide +kernel) (by decide +kernel)
theorem m_231 : Cond.fieldLink RX4 250 "LastLent$PayOut" "backGiven" "[I" ∈ z_T := z_T_in 231 (by decide +kernel) (by decide +kernel)
theorem m_272 : Cond.instanceMethod yX0_tellNothing ∈ z_T := z_T_in 272 (by decide +kernel) (by decide +kernel)
theorem m_273 : Cond.selects RX0 yX0_tellNothing yX0_tellNothing ∈ z_T := z_T_in 273 (by decide +kernel) (by decide +kernel)
theorem m_274 : Cond.code yX0_tellNothing cX0_tellNothing 2 none ∈ z_T := z_T_in 274 (by decide +kernel) (by decide +kernel)
theorem m_275 : Cond.fieldLink RX0 9 "LastLent$Law" "rides" "[I" ∈ z_T := z_T_in 275 (by decide +kernel) (by decide +kernel)
theorem m_276 : Cond.fieldLink RX4 90 "LastLent$Law" "rides" "[I" ∈ z_T := z_T_in 276 (by decide +kernel) (by decide +kernel)
theorem m_277 : Cond.fieldLink RX1 112 "LastLent$Law" "rides" "[I" ∈ z_T := z_T_in 277 (by decide +kernel) (by decide +kernel)
theorem m_278 : Cond.fieldLink RX0 15 "LastLent$Law" "dies" "[I" ∈ z_T := z_T_in 278 (by decide +kernel) (by decide +kernel)
theorem m_279 : Cond.fieldLink RX4 103 "LastLent$Law" "dies" "[I" ∈ z_T := z_T_in 279 (by decide +kernel) (by decide +kernel)
theorem m_280 : Cond.fieldLink RX3 84 "LastLent$Law" "dies" "[I" ∈ z_T := z_T_in 280 (by decide +kernel) (by decide +kernel)
theorem m_281 : Cond.fieldLink RX1 145 "LastLent$Law" "dies" "[I" ∈ z_T := z_T_in 281 (by decide +kernel) (by decide +kernel)
theorem m_282 : Cond.fieldLink RX0 18 "LastLent$Law" "aheadOf" "[I" ∈ z_T := z_T_in 282 (by decide +kernel) (by decide +kernel)
theorem m_283 : Cond.fieldLink RX4 128 "LastLent$Law" "aheadOf" "[I" ∈ z_T := z_T_in 283 (by decide +kernel) (by decide +kernel)
theorem m_284 : Cond.fieldLink RX1 125 "LastLent$Law" "aheadOf" "[I" ∈ z_T := z_T_in 284 (by decide +kernel) (by decide +kernel)
theorem m_285 : Cond.fieldLink RX0 21 "LastLent$Law" "ranks" "[I" ∈ z_T := z_T_in 285 (by decide +kernel) (by decide +kernel)
theorem m_286 : Cond.fieldLink RX4 87 "LastLent$Law" "ranks" "[I" ∈ z_T := z_T_in 286 (by decide +kernel) (by decide +kernel)
theorem m_287 : Cond.fieldLink RX0 27 "LastLent$Law" "firsts" "I" ∈ z_T := z_T_in 287 (by decide +kernel) (by decide +kernel)
theorem m_288 : Cond.fieldLink RX4 93 "LastLent$Law" "firsts" "I" ∈ z_T := z_T_in 288 (by decide +kernel) (by decide +kernel)
theorem m_289 : Cond.fieldLink RX1 128 "LastLent$Law" "firsts" "I" ∈ z_T := z_T_in 289 (by decide +kernel) (by decide +kernel)
theorem m_290 : Cond.fieldLink RX0 31 "LastLent$Law" "behinds" "I" ∈ z_T := z_T_in 290 (by decide +kernel) (by decide +kernel)
theorem m_291 : Cond.fieldLink RX4 100 "LastLent$Law" "behinds" "I" ∈ z_T := z_T_in 291 (by decide +kernel) (by decide +kernel)
theorem m_292 : Cond.fieldLink RX1 131 "LastLent$Law" "behinds" "I" ∈ z_T := z_T_in 292 (by decide +kernel) (by decide +kernel)
theorem m_293 : Cond.fieldLink RX0 34 "LastLent$Law" "needLeave" "I" ∈ z_T := z_T_in 293 (by decide +kernel) (by decide +kernel)
theorem m_294 : Cond.fieldLink RX4 106 "LastLent$Law" "needLeave" "I" ∈ z_T := z_T_in 294 (by decide +kernel) (by decide +kernel)
theorem m_295 : Cond.fieldLink RX3 90 "LastLent$Law" "needLeave" "I" ∈ z_T := z_T_in 295 (by decide +kernel) (by decide +kernel)
theorem m_296 : Cond.fieldLink RX1 148 "LastLent$Law" "needLeave" "I" ∈ z_T := z_T_in 296 (by decide +kernel) (by decide +kernel)
theorem m_297 : Cond.fieldLink RX0 37 "LastLent$Law" "ring" "I" ∈ z_T := z_T_in 297 (by decide +kernel) (by decide +kernel)
theorem m_298 : Cond.fieldLink RX4 109 "LastLent$Law" "ring" "I" ∈ z_T := z_T_in 298 (by decide +kernel) (by decide +kernel)
theorem m_299 : Cond.fieldLink RX0 40 "LastLent$Law" "aheads" "I" ∈ z_T := z_T_in 299 (by decide +kernel) (by decide +kernel)
theorem m_300 : Cond.fieldLink RX1 73 "LastLent$Law" "aheads" "I" ∈ z_T := z_T_in 300 (by decide +kernel) (by decide +kernel)
theorem m_301 : Cond.fieldLink RX4 125 "LastLent$Law" "aheads" "I" ∈ z_T := z_T_in 301 (by decide +kernel) (by decide +kernel)
theorem m_302 : Cond.fieldLink RX0 43 "LastLent$Law" "within" "I" ∈ z_T := z_T_in 302 (by decide +kernel) (by decide +kernel)
theorem m_303 : Cond.fieldLink RX4 116 "LastLent$Law" "within" "I" ∈ z_T := z_T_in 303 (by decide +kernel) (by decide +kernel)
theorem m_304 : Cond.fieldLink RX1 136 "LastLent$Law" "within" "I" ∈ z_T := z_T_in 304 (by decide +kernel) (by decide +kernel)
theorem m_305 : Cond.fieldLink RX2 67 "LastLent$Law" "costs" "I" ∈ z_T := z_T_in 305 (by decide +kernel) (by decide +kernel)
theorem m_306 : Cond.fieldLink RX0 46 "LastLent$Law" "costs" "I" ∈ z_T := z_T_in 306 (by decide +kernel) (by decide +kernel)
theorem m_307 : Cond.fieldLink RX4 122 "LastLent$Law" "costs" "I" ∈ z_T := z_T_in 307 (by decide +kernel) (by decide +kernel)
theorem m_308 : Cond.fieldLink RX1 151 "LastLent$Law" "costs" "I" ∈ z_T := z_T_in 308 (by decide +kernel) (by decide +kernel)
theorem m_309 : Cond.fieldLink RX0 49 "LastLent$Law" "laterVoyages" "Z" ∈ z_T := z_T_in 309 (by decide +kernel) (by decide +kernel)
theorem m_310 : Cond.fieldLink RX4 112 "LastLent$Law" "laterVoyages" "Z" ∈ z_T := z_T_in 310 (by decide +kernel) (by decide +kernel)
theorem m_311 : Cond.fieldLink RX1 89 "LastLent$Law" "laterVoyages" "Z" ∈ z_T := z_T_in 311 (by decide +kernel) (by decide +kernel)
theorem m_312 : Cond.fieldLink RX0 53 "LastLent$Law" "sale" "Z" ∈ z_T := z_T_in 312 (by decide +kernel) (by decide +kernel)
theorem m_313 : Cond.fieldLink RX4 119 "LastLent$Law" "sale" "Z" ∈ z_T := z_T_in 313 (by decide +kernel) (by decide +kernel)
theorem m_314 : Cond.fieldLink RX1 102 "LastLent$Law" "sale" "Z" ∈ z_T := z_T_in 314 (by decide +kernel) (by decide +kernel)
theorem m_315 : Cond.fieldLink RX3 70 "LastLent$Law" "sale" "Z" ∈ z_T := z_T_in 315 (by decide +kernel) (by decide +kernel)
theorem m_343 : Cond.fieldLink RX4 11 "LastLent" "laws" "[LLastLent$Law;" ∈ z_T := z_T_in 343 (by decide +kernel) (by decide +kernel)
theorem m_344 : Cond.fieldLink RX4 18 "LastLent" "text" "LLastLent$LawText;" ∈ z_T := z_T_in 344 (by decide +kernel) (by decide +kernel)
theorem m_345 : Cond.fieldLink RX4 25 "LastLent" "ship" "LLastLent$Ship;" ∈ z_T := z_T_in 345 (by decide +kernel) (by decide +kernel)
theorem m_346 : Cond.fieldLink RX4 29 "LastLent" "supposed" "LLastLent$Ship;" ∈ z_T := z_T_in 346 (by decide +kernel) (by decide +kernel)
theorem m_347 : Cond.fieldLink RX4 32 "LastLent" "images" "[LLastLent$Ship;" ∈ z_T := z_T_in 347 (by decide +kernel) (by decide +kernel)
theorem m_348 : Cond.fieldLink RX4 36 "LastLent" "kept" "[Z" ∈ z_T := z_T_in 348 (by decide +kernel) (by decide +kernel)
theorem m_349 : Cond.fieldLink RX4 43 "LastLent" "payOut" "LLastLent$PayOut;" ∈ z_T := z_T_in 349 (by decide +kernel) (by decide +kernel)
theorem m_350 : Cond.fieldLink RX4 47 "LastLent" "paidBefore" "[I" ∈ z_T := z_T_in 350 (by decide +kernel) (by decide +kernel)
theorem m_351 : Cond.fieldLink RX4 51 "LastLent" "hadBefore" "[I" ∈ z_T := z_T_in 351 (by decide +kernel) (by decide +kernel)
theorem m_352 : Cond.fieldLink RX4 55 "LastLent" "draft" "LLastLent$Law;" ∈ z_T := z_T_in 352 (by decide +kernel) (by decide +kernel)
theorem m_378 : Cond.methodLink RX4 63 yX1_append ∈ z_T := z_T_in 378 (by decide +kernel) (by decide +kernel)
theorem m_379 : Cond.instanceMethod yX1_append ∈ z_T := z_T_in 379 (by decide +kernel) (by decide +kernel)
theorem m_380 : Cond.selects RX1 yX1_append yX1_append ∈ z_T := z_T_in 380 (by decide +kernel) (by decide +kernel)
theorem m_381 : Cond.code yX1_append cX1_append 2 none ∈ z_T := z_T_in 381 (by decide +kernel) (by decide +kernel)
theorem m_386 : Cond.methodLink RX4 67 yX4_isLand ∈ z_T := z_T_in 386 (by decide +kernel) (by decide +kernel)
theorem m_387 : Cond.static yX4_isLand ∈ z_T := z_T_in 387 (by decide +kernel) (by decide +kernel)
theorem m_388 : Cond.code yX4_isLand cX4_isLand 1 (some .boolean) ∈ z_T := z_T_in 388 (by decide +kernel) (by decide +kernel)
theorem m_389 : Cond.methodLink RX4 71 yX1_readInto ∈ z_T := z_T_in 389 (by decide +kernel) (by decide +kernel)
theorem m_390 : Cond.instanceMethod yX1_readInto ∈ z_T := z_T_in 390 (by decide +kernel) (by decide +kernel)
theorem m_391 : Cond.selects RX1 yX1_readInto yX1_readInto ∈ z_T := z_T_in 391 (by decide +kernel) (by decide +kernel)
theorem m_392 : Cond.code yX1_readInto cX1_readInto 4 (some .int) ∈ z_T := z_T_in 392 (by decide +kernel) (by decide +kernel)
theorem m_393 : Cond.methodLink RX1 25 yX0_tellNothing ∈ z_T := z_T_in 393 (by decide +kernel) (by decide +kernel)
theorem m_394 : Cond.methodLink RX1 39 yX1_nextToken ∈ z_T := z_T_in 394 (by decide +kernel) (by decide +kernel)
theorem m_396 : Cond.instanceMethod yX1_nextToken ∈ z_T := z_T_in 396 (by decide +kernel) (by decide +kernel)
theorem m_397 : Cond.code yX1_nextToken cX1_nextToken 1 none ∈ z_T := z_T_in 397 (by decide +kernel) (by decide +kernel)
theorem m_398 : Cond.methodLink RX1 159 yX1_isLetter ∈ z_T := z_T_in 398 (by decide +kernel) (by decide +kernel)
theorem m_399 : Cond.static yX1_isLetter ∈ z_T := z_T_in 399 (by decide +kernel) (by decide +kernel)
theorem m_400 : Cond.code yX1_isLetter cX1_isLetter 1 (some .boolean) ∈ z_T := z_T_in 400 (by decide +kernel) (by decide +kernel)
theorem m_401 : Cond.methodLink RX1 162 yX1_isFigure ∈ z_T := z_T_in 401 (by decide +kernel) (by decide +kernel)
theorem m_402 : Cond.static yX1_isFigure ∈ z_T := z_T_in 402 (by decide +kernel) (by decide +kernel)
theorem m_403 : Cond.code yX1_isFigure cX1_isFigure 1 (some .boolean) ∈ z_T := z_T_in 403 (by decide +kernel) (by decide +kernel)
theorem m_404 : Cond.methodLink RX1 45 yX1_beginClause ∈ z_T := z_T_in 404 (by decide +kernel) (by decide +kernel)
theorem m_406 : Cond.instanceMethod yX1_beginClause ∈ z_T := z_T_in 406 (by decide +kernel) (by decide +kernel)
theorem m_407 : Cond.code yX1_beginClause cX1_beginClause 3 (some .int) ∈ z_T := z_T_in 407 (by decide +kernel) (by decide +kernel)
theorem m_409 : Cond.methodLink RX1 58 yX1_wordIn ∈ z_T := z_T_in 409 (by decide +kernel) (by decide +kernel)
theorem m_411 : Cond.instanceMethod yX1_wordIn ∈ z_T := z_T_in 411 (by decide +kernel) (by decide +kernel)
theorem m_412 : Cond.code yX1_wordIn cX1_wordIn 3 (some .int) ∈ z_T := z_T_in 412 (by decide +kernel) (by decide +kernel)
theorem m_413 : Cond.methodLink RX1 165 yJ0_length_8abf5 ∈ z_T := z_T_in 413 (by decide +kernel) (by decide +kernel)
theorem m_423 : Cond.methodLink RX1 171 yX1_isWordAt ∈ z_T := z_T_in 423 (by decide +kernel) (by decide +kernel)
theorem m_425 : Cond.instanceMethod yX1_isWordAt ∈ z_T := z_T_in 425 (by decide +kernel) (by decide +kernel)
theorem m_426 : Cond.code yX1_isWordAt cX1_isWordAt 5 (some .boolean) ∈ z_T := z_T_in 426 (by decide +kernel) (by decide +kernel)
theorem m_427 : Cond.methodLink RX1 175 yJ0_charAt_5068e ∈ z_T := z_T_in 427 (by decide +kernel) (by decide +kernel)
theorem m_465 : Cond.methodLink RX1 62 yX1_refuse ∈ z_T := z_T_in 465 (by decide +kernel) (by decide +kernel)
theorem m_467 : Cond.instanceMethod yX1_refuse ∈ z_T := z_T_in 467 (by decide +kernel) (by decide +kernel)
theorem m_468 : Cond.code yX1_refuse cX1_refuse 2 (some .boolean) ∈ z_T := z_T_in 468 (by decide +kernel) (by decide +kernel)
theorem m_469 : Cond.methodLink RX1 66 yX1_isOneTooMany ∈ z_T := z_T_in 469 (by decide +kernel) (by decide +kernel)
theorem m_471 : Cond.instanceMethod yX1_isOneTooMany ∈ z_T := z_T_in 471 (by decide +kernel) (by decide +kernel)
theorem m_472 : Cond.code yX1_isOneTooMany cX1_isOneTooMany 3 (some .boolean) ∈ z_T := z_T_in 472 (by decide +kernel) (by decide +kernel)
theorem m_474 : Cond.static yX4_bit ∈ z_T := z_T_in 474 (by decide +kernel) (by decide +kernel)
theorem m_475 : Cond.code yX4_bit cX4_bit 2 (some .int) ∈ z_T := z_T_in 475 (by decide +kernel) (by decide +kernel)
theorem m_476 : Cond.methodLink RX1 49 yX1_readBody ∈ z_T := z_T_in 476 (by decide +kernel) (by decide +kernel)
theorem m_478 : Cond.instanceMethod yX1_readBody ∈ z_T := z_T_in 478 (by decide +kernel) (by decide +kernel)
theorem m_479 : Cond.code yX1_readBody cX1_readBody 3 (some .boolean) ∈ z_T := z_T_in 479 (by decide +kernel) (by decide +kernel)
theorem m_480 : Cond.methodLink RX1 76 yX1_readRides ∈ z_T := z_T_in 480 (by decide +kernel) (by decide +kernel)
theorem m_482 : Cond.instanceMethod yX1_readRides ∈ z_T := z_T_in 482 (by decide +kernel) (by decide +kernel)
theorem m_483 : Cond.code yX1_readRides cX1_readRides 5 (some .boolean) ∈ z_T := z_T_in 483 (by decide +kernel) (by decide +kernel)
theorem m_484 : Cond.methodLink RX1 108 yX1_readKind ∈ z_T := z_T_in 484 (by decide +kernel) (by decide +kernel)
theorem m_486 : Cond.instanceMethod yX1_readKind ∈ z_T := z_T_in 486 (by decide +kernel) (by decide +kernel)
theorem m_487 : Cond.code yX1_readKind cX1_readKind 3 (some .int) ∈ z_T := z_T_in 487 (by decide +kernel) (by decide +kernel)
theorem m_489 : Cond.methodLink RX1 115 yX1_readFund ∈ z_T := z_T_in 489 (by decide +kernel) (by decide +kernel)
theorem m_491 : Cond.instanceMethod yX1_readFund ∈ z_T := z_T_in 491 (by decide +kernel) (by decide +kernel)
theorem m_492 : Cond.code yX1_readFund cX1_readFund 4 (some .boolean) ∈ z_T := z_T_in 492 (by decide +kernel) (by decide +kernel)
theorem m_494 : Cond.methodLink RX1 119 yX1_isFundNext ∈ z_T := z_T_in 494 (by decide +kernel) (by decide +kernel)
theorem m_496 : Cond.instanceMethod yX1_isFundNext ∈ z_T := z_T_in 496 (by decide +kernel) (by decide +kernel)
theorem m_497 : Cond.code yX1_isFundNext cX1_isFundNext 3 (some .boolean) ∈ z_T := z_T_in 497 (by decide +kernel) (by decide +kernel)
theorem m_498 : Cond.methodLink RX1 80 yX1_readAhead ∈ z_T := z_T_in 498 (by decide +kernel) (by decide +kernel)
theorem m_500 : Cond.instanceMethod yX1_readAhead ∈ z_T := z_T_in 500 (by decide +kernel) (by decide +kernel)
theorem m_501 : Cond.code yX1_readAhead cX1_readAhead 4 (some .boolean) ∈ z_T := z_T_in 501 (by decide +kernel) (by decide +kernel)
theorem m_502 : Cond.methodLink RX1 83 yX1_readFirst ∈ z_T := z_T_in 502 (by decide +kernel) (by decide +kernel)
theorem m_504 : Cond.instanceMethod yX1_readFirst ∈ z_T := z_T_in 504 (by decide +kernel) (by decide +kernel)
theorem m_505 : Cond.code yX1_readFirst cX1_readFirst 3 (some .boolean) ∈ z_T := z_T_in 505 (by decide +kernel) (by decide +kernel)
theorem m_506 : Cond.methodLink RX1 86 yX1_readBehind ∈ z_T := z_T_in 506 (by decide +kernel) (by decide +kernel)
theorem m_508 : Cond.instanceMethod yX1_readBehind ∈ z_T := z_T_in 508 (by decide +kernel) (by decide +kernel)
theorem m_509 : Cond.code yX1_readBehind cX1_readBehind 3 (some .boolean) ∈ z_T := z_T_in 509 (by decide +kernel) (by decide +kernel)
theorem m_510 : Cond.methodLink RX1 93 yX1_readWithin ∈ z_T := z_T_in 510 (by decide +kernel) (by decide +kernel)
theorem m_512 : Cond.instanceMethod yX1_readWithin ∈ z_T := z_T_in 512 (by decide +kernel) (by decide +kernel)
theorem m_513 : Cond.code yX1_readWithin cX1_readWithin 3 (some .boolean) ∈ z_T := z_T_in 513 (by decide +kernel) (by decide +kernel)
theorem m_515 : Cond.methodLink RX1 96 yX1_readDies ∈ z_T := z_T_in 515 (by decide +kernel) (by decide +kernel)
theorem m_517 : Cond.instanceMethod yX1_readDies ∈ z_T := z_T_in 517 (by decide +kernel) (by decide +kernel)
theorem m_518 : Cond.code yX1_readDies cX1_readDies 4 (some .boolean) ∈ z_T := z_T_in 518 (by decide +kernel) (by decide +kernel)
theorem m_519 : Cond.methodLink RX1 139 yX1_kindsThatDie ∈ z_T := z_T_in 519 (by decide +kernel) (by decide +kernel)
theorem m_520 : Cond.static yX1_kindsThatDie ∈ z_T := z_T_in 520 (by decide +kernel) (by decide +kernel)
theorem m_521 : Cond.code yX1_kindsThatDie cX1_kindsThatDie 3 (some .int) ∈ z_T := z_T_in 521 (by decide +kernel) (by decide +kernel)
theorem m_522 : Cond.methodLink RX1 142 yX1_readNumber ∈ z_T := z_T_in 522 (by decide +kernel) (by decide +kernel)
theorem m_524 : Cond.instanceMethod yX1_readNumber ∈ z_T := z_T_in 524 (by decide +kernel) (by decide +kernel)
theorem m_525 : Cond.code yX1_readNumber cX1_readNumber 4 (some .int) ∈ z_T := z_T_in 525 (by decide +kernel) (by decide +kernel)
theorem m_526 : Cond.methodLink RX1 99 yX1_readLeave ∈ z_T := z_T_in 526 (by decide +kernel) (by decide +kernel)
theorem m_528 : Cond.instanceMethod yX1_readLeave ∈ z_T := z_T_in 528 (by decide +kernel) (by decide +kernel)
theorem m_529 : Cond.code yX1_readLeave cX1_readLeave 3 (some .boolean) ∈ z_T := z_T_in 529 (by decide +kernel) (by decide +kernel)
theorem m_530 : Cond.methodLink RX1 105 yX1_readCosts ∈ z_T := z_T_in 530 (by decide +kernel) (by decide +kernel)
theorem m_532 : Cond.instanceMethod yX1_readCosts ∈ z_T := z_T_in 532 (by decide +kernel) (by decide +kernel)
theorem m_533 : Cond.code yX1_readCosts cX1_readCosts 3 (some .boolean) ∈ z_T := z_T_in 533 (by decide +kernel) (by decide +kernel)
theorem m_534 : Cond.methodLink RX1 53 yX1_readClose ∈ z_T := z_T_in 534 (by decide +kernel) (by decide +kernel)
theorem m_536 : Cond.instanceMethod yX1_readClose ∈ z_T := z_T_in 536 (by decide +kernel) (by decide +kernel)
theorem m_537 : Cond.code yX1_readClose cX1_readClose 1 none ∈ z_T := z_T_in 537 (by decide +kernel) (by decide +kernel)
theorem m_538 : Cond.methodLink RX4 78 yX0_settle ∈ z_T := z_T_in 538 (by decide +kernel) (by decide +kernel)
theorem m_539 : Cond.instanceMethod yX0_settle ∈ z_T := z_T_in 539 (by decide +kernel) (by decide +kernel)
theorem m_540 : Cond.selects RX0 yX0_settle yX0_settle ∈ z_T := z_T_in 540 (by decide +kernel) (by decide +kernel)
theorem m_541 : Cond.code yX0_settle cX0_settle 2 none ∈ z_T := z_T_in 541 (by decide +kernel) (by decide +kernel)
theorem m_542 : Cond.methodLink RX0 56 yX0_followSteps ∈ z_T := z_T_in 542 (by decide +kernel) (by decide +kernel)
theorem m_544 : Cond.instanceMethod yX0_followSteps ∈ z_T := z_T_in 544 (by decide +kernel) (by decide +kernel)
theorem m_545 : Cond.code yX0_followSteps cX0_followSteps 3 none ∈ z_T := z_T_in 545 (by decide +kernel) (by decide +kernel)
theorem m_547 : Cond.methodLink RX0 63 yX0_raiseRanks ∈ z_T := z_T_in 547 (by decide +kernel) (by decide +kernel)
theorem m_549 : Cond.instanceMethod yX0_raiseRanks ∈ z_T := z_T_in 549 (by decide +kernel) (by decide +kernel)
theorem m_550 : Cond.code yX0_raiseRanks cX0_raiseRanks 3 none ∈ z_T := z_T_in 550 (by decide +kernel) (by decide +kernel)
theorem m_551 : Cond.methodLink RX0 66 Lib.Math.max.name ∈ z_T := z_T_in 551 (by decide +kernel) (by decide +kernel)
theorem m_552 : Cond.static Lib.Math.max.name ∈ z_T := z_T_in 552 (by decide +kernel) (by decide +kernel)
theorem m_553 : Cond.code Lib.Math.max.name Lib.Math.max.code 2 (some .int) ∈ z_T := z_T_in 553 (by decide +kernel) (by decide +kernel)
theorem m_563 : Cond.methodLink RX4 84 yX4_isKind ∈ z_T := z_T_in 563 (by decide +kernel) (by decide +kernel)
theorem m_564 : Cond.static yX4_isKind ∈ z_T := z_T_in 564 (by decide +kernel) (by decide +kernel)
theorem m_565 : Cond.code yX4_isKind cX4_isKind 1 (some .boolean) ∈ z_T := z_T_in 565 (by decide +kernel) (by decide +kernel)
theorem m_566 : Cond.methodLink RX4 96 yX4_bit ∈ z_T := z_T_in 566 (by decide +kernel) (by decide +kernel)
theorem m_579 : Cond.methodLink RX4 131 yX4_isDay ∈ z_T := z_T_in 579 (by decide +kernel) (by decide +kernel)
theorem m_580 : Cond.static yX4_isDay ∈ z_T := z_T_in 580 (by decide +kernel) (by decide +kernel)
theorem m_581 : Cond.code yX4_isDay cX4_isDay 1 (some .boolean) ∈ z_T := z_T_in 581 (by decide +kernel) (by decide +kernel)
theorem m_582 : Cond.methodLink RX4 134 yX3_lastEnd ∈ z_T := z_T_in 582 (by decide +kernel) (by decide +kernel)
theorem m_583 : Cond.instanceMethod yX3_lastEnd ∈ z_T := z_T_in 583 (by decide +kernel) (by decide +kernel)
theorem m_584 : Cond.selects RX3 yX3_lastEnd yX3_lastEnd ∈ z_T := z_T_in 584 (by decide +kernel) (by decide +kernel)
theorem m_585 : Cond.code yX3_lastEnd cX3_lastEnd 1 (some .int) ∈ z_T := z_T_in 585 (by decide +kernel) (by decide +kernel)
theorem m_586 : Cond.methodLink RX4 138 yX3_addVoyage ∈ z_T := z_T_in 586 (by decide +kernel) (by decide +kernel)
theorem m_587 : Cond.instanceMethod yX3_addVoyage ∈ z_T := z_T_in 587 (by decide +kernel) (by decide +kernel)
theorem m_588 : Cond.selects RX3 yX3_addVoyage yX3_addVoyage ∈ z_T := z_T_in 588 (by decide +kernel) (by decide +kernel)
theorem m_589 : Cond.code yX3_addVoyage cX3_addVoyage 3 (some .int) ∈ z_T := z_T_in 589 (by decide +kernel) (by decide +kernel)
theorem m_594 : Cond.methodLink RX4 141 yX4_isHolder ∈ z_T := z_T_in 594 (by decide +kernel) (by decide +kernel)
theorem m_595 : Cond.static yX4_isHolder ∈ z_T := z_T_in 595 (by decide +kernel) (by decide +kernel)
theorem m_596 : Cond.code yX4_isHolder cX4_isHolder 1 (some .boolean) ∈ z_T := z_T_in 596 (by decide +kernel) (by decide +kernel)
theorem m_597 : Cond.methodLink RX4 144 yX3_addClaim ∈ z_T := z_T_in 597 (by decide +kernel) (by decide +kernel)
theorem m_598 : Cond.instanceMethod yX3_addClaim ∈ z_T := z_T_in 598 (by decide +kernel) (by decide +kernel)
theorem m_599 : Cond.selects RX3 yX3_addClaim yX3_addClaim ∈ z_T := z_T_in 599 (by decide +kernel) (by decide +kernel)
theorem m_600 : Cond.code yX3_addClaim cX3_addClaim 7 (some .int) ∈ z_T := z_T_in 600 (by decide +kernel) (by decide +kernel)
theorem m_605 : Cond.methodLink RX4 148 yX4_isClaim ∈ z_T := z_T_in 605 (by decide +kernel) (by decide +kernel)
theorem m_607 : Cond.instanceMethod yX4_isClaim ∈ z_T := z_T_in 607 (by decide +kernel) (by decide +kernel)
theorem m_608 : Cond.code yX4_isClaim cX4_isClaim 2 (some .boolean) ∈ z_T := z_T_in 608 (by decide +kernel) (by decide +kernel)
theorem m_613 : Cond.methodLink RX4 154 yX4_isFund ∈ z_T := z_T_in 613 (by decide +kernel) (by decide +kernel)
theorem m_614 : Cond.static yX4_isFund ∈ z_T := z_T_in 614 (by decide +kernel) (by decide +kernel)
theorem m_615 : Cond.code yX4_isFund cX4_isFund 1 (some .boolean) ∈ z_T := z_T_in 615 (by decide +kernel) (by decide +kernel)
theorem m_620 : Cond.methodLink RX4 160 yX4_isCargo ∈ z_T := z_T_in 620 (by decide +kernel) (by decide +kernel)
theorem m_621 : Cond.static yX4_isCargo ∈ z_T := z_T_in 621 (by decide +kernel) (by decide +kernel)
theorem m_622 : Cond.code yX4_isCargo cX4_isCargo 1 (some .boolean) ∈ z_T := z_T_in 622 (by decide +kernel) (by decide +kernel)
theorem m_631 : Cond.methodLink RX4 184 yX3_voyageOf ∈ z_T := z_T_in 631 (by decide +kernel) (by decide +kernel)
theorem m_632 : Cond.instanceMethod yX3_voyageOf ∈ z_T := z_T_in 632 (by decide +kernel) (by decide +kernel)
theorem m_633 : Cond.selects RX3 yX3_voyageOf yX3_voyageOf ∈ z_T := z_T_in 633 (by decide +kernel) (by decide +kernel)
theorem m_634 : Cond.code yX3_voyageOf cX3_voyageOf 4 (some .int) ∈ z_T := z_T_in 634 (by decide +kernel) (by decide +kernel)
theorem m_639 : Cond.methodLink RX4 194 yX4_sumOf ∈ z_T := z_T_in 639 (by decide +kernel) (by decide +kernel)
theorem m_640 : Cond.static yX4_sumOf ∈ z_T := z_T_in 640 (by decide +kernel) (by decide +kernel)
theorem m_641 : Cond.code yX4_sumOf cX4_sumOf 4 (some .int) ∈ z_T := z_T_in 641 (by decide +kernel) (by decide +kernel)
theorem m_646 : Cond.methodLink RX4 198 yX3_whyDead ∈ z_T := z_T_in 646 (by decide +kernel) (by decide +kernel)
theorem m_647 : Cond.instanceMethod yX3_whyDead ∈ z_T := z_T_in 647 (by decide +kernel) (by decide +kernel)
theorem m_648 : Cond.selects RX3 yX3_whyDead yX3_whyDead ∈ z_T := z_T_in 648 (by decide +kernel) (by decide +kernel)
theorem m_649 : Cond.code yX3_whyDead cX3_whyDead 4 (some .int) ∈ z_T := z_T_in 649 (by decide +kernel) (by decide +kernel)
theorem m_650 : Cond.methodLink RX3 66 yX3_lastUnbarred ∈ z_T := z_T_in 650 (by decide +kernel) (by decide +kernel)
theorem m_652 : Cond.instanceMethod yX3_lastUnbarred ∈ z_T := z_T_in 652 (by decide +kernel) (by decide +kernel)
theorem m_653 : Cond.code yX3_lastUnbarred cX3_lastUnbarred 6 (some .int) ∈ z_T := z_T_in 653 (by decide +kernel) (by decide +kernel)
theorem m_654 : Cond.methodLink RX3 87 Lib.Math.min.name ∈ z_T := z_T_in 654 (by decide +kernel) (by decide +kernel)
theorem m_655 : Cond.static Lib.Math.min.name ∈ z_T := z_T_in 655 (by decide +kernel) (by decide +kernel)
theorem m_656 : Cond.code Lib.Math.min.name Lib.Math.min.code 2 (some .int) ∈ z_T := z_T_in 656 (by decide +kernel) (by decide +kernel)
theorem m_657 : Cond.methodLink RX3 74 yX3_lacksLeave ∈ z_T := z_T_in 657 (by decide +kernel) (by decide +kernel)
theorem m_659 : Cond.instanceMethod yX3_lacksLeave ∈ z_T := z_T_in 659 (by decide +kernel) (by decide +kernel)
theorem m_660 : Cond.code yX3_lacksLeave cX3_lacksLeave 3 (some .boolean) ∈ z_T := z_T_in 660 (by decide +kernel) (by decide +kernel)
theorem m_666 : Cond.methodLink RX4 202 yX3_lastAlive ∈ z_T := z_T_in 666 (by decide +kernel) (by decide +kernel)
theorem m_667 : Cond.instanceMethod yX3_lastAlive ∈ z_T := z_T_in 667 (by decide +kernel) (by decide +kernel)
theorem m_668 : Cond.selects RX3 yX3_lastAlive yX3_lastAlive ∈ z_T := z_T_in 668 (by decide +kernel) (by decide +kernel)
theorem m_669 : Cond.code yX3_lastAlive cX3_lastAlive 5 (some .int) ∈ z_T := z_T_in 669 (by decide +kernel) (by decide +kernel)
theorem m_670 : Cond.methodLink RX3 78 Lib.Math.max.name ∈ z_T := z_T_in 670 (by decide +kernel) (by decide +kernel)
theorem m_675 : Cond.methodLink RX4 206 yX3_standing ∈ z_T := z_T_in 675 (by decide +kernel) (by decide +kernel)
theorem m_676 : Cond.instanceMethod yX3_standing ∈ z_T := z_T_in 676 (by decide +kernel) (by decide +kernel)
theorem m_677 : Cond.selects RX3 yX3_standing yX3_standing ∈ z_T := z_T_in 677 (by decide +kernel) (by decide +kernel)
theorem m_678 : Cond.code yX3_standing cX3_standing 3 (some .int) ∈ z_T := z_T_in 678 (by decide +kernel) (by decide +kernel)
theorem m_679 : Cond.methodLink RX3 56 yX3_voyageOf ∈ z_T := z_T_in 679 (by decide +kernel) (by decide +kernel)
theorem m_680 : Cond.methodLink RX3 60 yX0_standingOf ∈ z_T := z_T_in 680 (by decide +kernel) (by decide +kernel)
theorem m_681 : Cond.instanceMethod yX0_standingOf ∈ z_T := z_T_in 681 (by decide +kernel) (by decide +kernel)
theorem m_682 : Cond.selects RX0 yX0_standingOf yX0_standingOf ∈ z_T := z_T_in 682 (by decide +kernel) (by decide +kernel)
theorem m_683 : Cond.code yX0_standingOf cX0_standingOf 7 (some .int) ∈ z_T := z_T_in 683 (by decide +kernel) (by decide +kernel)
theorem m_684 : Cond.methodLink RX4 209 yJ6_compare_7cf53 ∈ z_T := z_T_in 684 (by decide +kernel) (by decide +kernel)
theorem m_685 : Cond.static yJ6_compare_7cf53 ∈ z_T := z_T_in 685 (by decide +kernel) (by decide +kernel)
theorem m_686 : Cond.code yJ6_compare_7cf53 cJ6_compare_7cf53 2 (some .int) ∈ z_T := z_T_in 686 (by decide +kernel) (by decide +kernel)
theorem m_691 : Cond.methodLink RX4 214 yX2_lineUp ∈ z_T := z_T_in 691 (by decide +kernel) (by decide +kernel)
theorem m_692 : Cond.instanceMethod yX2_lineUp ∈ z_T := z_T_in 692 (by decide +kernel) (by decide +kernel)
theorem m_693 : Cond.selects RX2 yX2_lineUp yX2_lineUp ∈ z_T := z_T_in 693 (by decide +kernel) (by decide +kernel)
theorem m_694 : Cond.code yX2_lineUp cX2_lineUp 5 none ∈ z_T := z_T_in 694 (by decide +kernel) (by decide +kernel)
theorem m_695 : Cond.methodLink RX2 100 yX0_fundsFor ∈ z_T := z_T_in 695 (by decide +kernel) (by decide +kernel)
theorem m_696 : Cond.instanceMethod yX0_fundsFor ∈ z_T := z_T_in 696 (by decide +kernel) (by decide +kernel)
theorem m_697 : Cond.selects RX0 yX0_fundsFor yX0_fundsFor ∈ z_T := z_T_in 697 (by decide +kernel) (by decide +kernel)
theorem m_698 : Cond.code yX0_fundsFor cX0_fundsFor 4 (some .int) ∈ z_T := z_T_in 698 (by decide +kernel) (by decide +kernel)
theorem m_699 : Cond.methodLink RX2 103 yX3_standing ∈ z_T := z_T_in 699 (by decide +kernel) (by decide +kernel)
theorem m_700 : Cond.methodLink RX2 107 yX3_whyDead ∈ z_T := z_T_in 700 (by decide +kernel) (by decide +kernel)
theorem m_701 : Cond.methodLink RX2 111 yX2_joinLine ∈ z_T := z_T_in 701 (by decide +kernel) (by decide +kernel)
theorem m_703 : Cond.instanceMethod yX2_joinLine ∈ z_T := z_T_in 703 (by decide +kernel) (by decide +kernel)
theorem m_704 : Cond.code yX2_joinLine cX2_joinLine 3 none ∈ z_T := z_T_in 704 (by decide +kernel) (by decide +kernel)
theorem m_705 : Cond.methodLink RX4 218 yX2_stepOf ∈ z_T := z_T_in 705 (by decide +kernel) (by decide +kernel)
theorem m_706 : Cond.instanceMethod yX2_stepOf ∈ z_T := z_T_in 706 (by decide +kernel) (by decide +kernel)
theorem m_707 : Cond.selects RX2 yX2_stepOf yX2_stepOf ∈ z_T := z_T_in 707 (by decide +kernel) (by decide +kernel)
theorem m_708 : Cond.code yX2_stepOf cX2_stepOf 7 (some .int) ∈ z_T := z_T_in 708 (by decide +kernel) (by decide +kernel)
theorem m_714 : Cond.methodLink RX4 221 yX4_isWay ∈ z_T := z_T_in 714 (by decide +kernel) (by decide +kernel)
theorem m_715 : Cond.static yX4_isWay ∈ z_T := z_T_in 715 (by decide +kernel) (by decide +kernel)
theorem m_716 : Cond.code yX4_isWay cX4_isWay 1 (some .boolean) ∈ z_T := z_T_in 716 (by decide +kernel) (by decide +kernel)
theorem m_717 : Cond.methodLink RX4 224 yX2_run ∈ z_T := z_T_in 717 (by decide +kernel) (by decide +kernel)
theorem m_718 : Cond.instanceMethod yX2_run ∈ z_T := z_T_in 718 (by decide +kernel) (by decide +kernel)
theorem m_719 : Cond.selects RX2 yX2_run yX2_run ∈ z_T := z_T_in 719 (by decide +kernel) (by decide +kernel)
theorem m_720 : Cond.code yX2_run cX2_run 6 none ∈ z_T := z_T_in 720 (by decide +kernel) (by decide +kernel)
theorem m_721 : Cond.methodLink RX2 56 yX2_lineUp ∈ z_T := z_T_in 721 (by decide +kernel) (by decide +kernel)
theorem m_723 : Cond.static yX4_copyRow ∈ z_T := z_T_in 723 (by decide +kernel) (by decide +kernel)
theorem m_724 : Cond.code yX4_copyRow cX4_copyRow 2 none ∈ z_T := z_T_in 724 (by decide +kernel) (by decide +kernel)
theorem m_725 : Cond.methodLink RX4 284 Lib.Math.min.name ∈ z_T := z_T_in 725 (by decide +kernel) (by decide +kernel)
theorem m_726 : Cond.methodLink RX4 292 arraycopyName ∈ z_T := z_T_in 726 (by decide +kernel) (by decide +kernel)
theorem m_727 : Cond.static arraycopyName ∈ z_T := z_T_in 727 (by decide +kernel) (by decide +kernel)
theorem m_728 : Cond.native arraycopyName ∈ z_T := z_T_in 728 (by decide +kernel) (by decide +kernel)
theorem m_729 : Cond.methodLink RX2 73 Lib.Math.max.name ∈ z_T := z_T_in 729 (by decide +kernel) (by decide +kernel)
theorem m_730 : Cond.methodLink RX2 79 yX2_payAllFrom ∈ z_T := z_T_in 730 (by decide +kernel) (by decide +kernel)
theorem m_732 : Cond.instanceMethod yX2_payAllFrom ∈ z_T := z_T_in 732 (by decide +kernel) (by decide +kernel)
theorem m_733 : Cond.code yX2_payAllFrom cX2_payAllFrom 3 none ∈ z_T := z_T_in 733 (by decide +kernel) (by decide +kernel)
theorem m_734 : Cond.methodLink RX2 135 yX2_payFund ∈ z_T := z_T_in 734 (by decide +kernel) (by decide +kernel)
theorem m_736 : Cond.instanceMethod yX2_payFund ∈ z_T := z_T_in 736 (by decide +kernel) (by decide +kernel)
theorem m_737 : Cond.code yX2_payFund cX2_payFund 8 (some .int) ∈ z_T := z_T_in 737 (by decide +kernel) (by decide +kernel)
theorem m_738 : Cond.methodLink RX2 139 yX2_share ∈ z_T := z_T_in 738 (by decide +kernel) (by decide +kernel)
theorem m_739 : Cond.static yX2_share ∈ z_T := z_T_in 739 (by decide +kernel) (by decide +kernel)
theorem m_740 : Cond.code yX2_share cX2_share 8 (some .int) ∈ z_T := z_T_in 740 (by decide +kernel) (by decide +kernel)
theorem m_741 : Cond.methodLink RX2 83 yX2_marshal ∈ z_T := z_T_in 741 (by decide +kernel) (by decide +kernel)
theorem m_743 : Cond.instanceMethod yX2_marshal ∈ z_T := z_T_in 743 (by decide +kernel) (by decide +kernel)
theorem m_744 : Cond.code yX2_marshal cX2_marshal 4 none ∈ z_T := z_T_in 744 (by decide +kernel) (by decide +kernel)
theorem m_745 : Cond.methodLink RX2 117 yX2_mostPayable ∈ z_T := z_T_in 745 (by decide +kernel) (by decide +kernel)
theorem m_747 : Cond.instanceMethod yX2_mostPayable ∈ z_T := z_T_in 747 (by decide +kernel) (by decide +kernel)
theorem m_748 : Cond.code yX2_mostPayable cX2_mostPayable 5 (some .int) ∈ z_T := z_T_in 748 (by decide +kernel) (by decide +kernel)
theorem m_749 : Cond.methodLink RX2 124 yX2_wantedOf ∈ z_T := z_T_in 749 (by decide +kernel) (by decide +kernel)
theorem m_751 : Cond.instanceMethod yX2_wantedOf ∈ z_T := z_T_in 751 (by decide +kernel) (by decide +kernel)
theorem m_752 : Cond.code yX2_wantedOf cX2_wantedOf 4 (some .int) ∈ z_T := z_T_in 752 (by decide +kernel) (by decide +kernel)
theorem m_753 : Cond.methodLink RX2 128 Lib.Math.min.name ∈ z_T := z_T_in 753 (by decide +kernel) (by decide +kernel)
theorem m_754 : Cond.methodLink RX2 121 yX2_nextOrder ∈ z_T := z_T_in 754 (by decide +kernel) (by decide +kernel)
theorem m_756 : Cond.instanceMethod yX2_nextOrder ∈ z_T := z_T_in 756 (by decide +kernel) (by decide +kernel)
theorem m_757 : Cond.code yX2_nextOrder cX2_nextOrder 5 (some .int) ∈ z_T := z_T_in 757 (by decide +kernel) (by decide +kernel)
theorem m_758 : Cond.methodLink RX2 131 yX2_swapFunds ∈ z_T := z_T_in 758 (by decide +kernel) (by decide +kernel)
theorem m_760 : Cond.instanceMethod yX2_swapFunds ∈ z_T := z_T_in 760 (by decide +kernel) (by decide +kernel)
theorem m_761 : Cond.code yX2_swapFunds cX2_swapFunds 4 none ∈ z_T := z_T_in 761 (by decide +kernel) (by decide +kernel)
theorem m_762 : Cond.methodLink RX4 228 yX2_paidTo ∈ z_T := z_T_in 762 (by decide +kernel) (by decide +kernel)
theorem m_763 : Cond.instanceMethod yX2_paidTo ∈ z_T := z_T_in 763 (by decide +kernel) (by decide +kernel)
theorem m_764 : Cond.selects RX2 yX2_paidTo yX2_paidTo ∈ z_T := z_T_in 764 (by decide +kernel) (by decide +kernel)
theorem m_765 : Cond.code yX2_paidTo cX2_paidTo 2 (some .int) ∈ z_T := z_T_in 765 (by decide +kernel) (by decide +kernel)
theorem m_774 : Cond.methodLink RX4 234 yX2_paidInAll ∈ z_T := z_T_in 774 (by decide +kernel) (by decide +kernel)
theorem m_775 : Cond.instanceMethod yX2_paidInAll ∈ z_T := z_T_in 775 (by decide +kernel) (by decide +kernel)
theorem m_776 : Cond.selects RX2 yX2_paidInAll yX2_paidInAll ∈ z_T := z_T_in 776 (by decide +kernel) (by decide +kernel)
theorem m_777 : Cond.code yX2_paidInAll cX2_paidInAll 1 (some .int) ∈ z_T := z_T_in 777 (by decide +kernel) (by decide +kernel)
theorem m_778 : Cond.methodLink RX4 237 yX2_holding ∈ z_T := z_T_in 778 (by decide +kernel) (by decide +kernel)
theorem m_779 : Cond.instanceMethod yX2_holding ∈ z_T := z_T_in 779 (by decide +kernel) (by decide +kernel)
theorem m_780 : Cond.selects RX2 yX2_holding yX2_holding ∈ z_T := z_T_in 780 (by decide +kernel) (by decide +kernel)
theorem m_781 : Cond.code yX2_holding cX2_holding 5 (some .int) ∈ z_T := z_T_in 781 (by decide +kernel) (by decide +kernel)
theorem m_790 : Cond.methodLink RX4 244 yX2_giveBack ∈ z_T := z_T_in 790 (by decide +kernel) (by decide +kernel)
theorem m_791 : Cond.instanceMethod yX2_giveBack ∈ z_T := z_T_in 791 (by decide +kernel) (by decide +kernel)
theorem m_792 : Cond.selects RX2 yX2_giveBack yX2_giveBack ∈ z_T := z_T_in 792 (by decide +kernel) (by decide +kernel)
theorem m_793 : Cond.code yX2_giveBack cX2_giveBack 2 none ∈ z_T := z_T_in 793 (by decide +kernel) (by decide +kernel)
theorem m_794 : Cond.methodLink RX2 149 yX2_paidForShip ∈ z_T := z_T_in 794 (by decide +kernel) (by decide +kernel)
theorem m_796 : Cond.instanceMethod yX2_paidForShip ∈ z_T := z_T_in 796 (by decide +kernel) (by decide +kernel)
theorem m_797 : Cond.code yX2_paidForShip cX2_paidForShip 5 (some .int) ∈ z_T := z_T_in 797 (by decide +kernel) (by decide +kernel)
theorem m_802 : Cond.methodLink RX4 253 yX3_become ∈ z_T := z_T_in 802 (by decide +kernel) (by decide +kernel)
theorem m_803 : Cond.instanceMethod yX3_become ∈ z_T := z_T_in 803 (by decide +kernel) (by decide +kernel)
theorem m_804 : Cond.selects RX3 yX3_become yX3_become ∈ z_T := z_T_in 804 (by decide +kernel) (by decide +kernel)
theorem m_805 : Cond.code yX3_become cX3_become 2 none ∈ z_T := z_T_in 805 (by decide +kernel) (by decide +kernel)
theorem m_819 : Cond.methodLink RX4 257 yX4_holdingWithout ∈ z_T := z_T_in 819 (by decide +kernel) (by decide +kernel)
theorem m_821 : Cond.instanceMethod yX4_holdingWithout ∈ z_T := z_T_in 821 (by decide +kernel) (by decide +kernel)
theorem m_822 : Cond.code yX4_holdingWithout cX4_holdingWithout 6 (some .int) ∈ z_T := z_T_in 822 (by decide +kernel) (by decide +kernel)
theorem m_823 : Cond.methodLink RX4 281 yX3_takeAway ∈ z_T := z_T_in 823 (by decide +kernel) (by decide +kernel)
theorem m_824 : Cond.instanceMethod yX3_takeAway ∈ z_T := z_T_in 824 (by decide +kernel) (by decide +kernel)
theorem m_825 : Cond.selects RX3 yX3_takeAway yX3_takeAway ∈ z_T := z_T_in 825 (by decide +kernel) (by decide +kernel)
theorem m_826 : Cond.code yX3_takeAway cX3_takeAway 2 none ∈ z_T := z_T_in 826 (by decide +kernel) (by decide +kernel)
theorem m_831 : Cond.methodLink RX4 261 yX4_canSailAgain ∈ z_T := z_T_in 831 (by decide +kernel) (by decide +kernel)
theorem m_833 : Cond.instanceMethod yX4_canSailAgain ∈ z_T := z_T_in 833 (by decide +kernel) (by decide +kernel)
theorem m_834 : Cond.code yX4_canSailAgain cX4_canSailAgain 3 (some .boolean) ∈ z_T := z_T_in 834 (by decide +kernel) (by decide +kernel)
theorem m_835 : Cond.methodLink RX4 265 yX4_supposeVoyage ∈ z_T := z_T_in 835 (by decide +kernel) (by decide +kernel)
theorem m_837 : Cond.instanceMethod yX4_supposeVoyage ∈ z_T := z_T_in 837 (by decide +kernel) (by decide +kernel)
theorem m_838 : Cond.code yX4_supposeVoyage cX4_supposeVoyage 7 none ∈ z_T := z_T_in 838 (by decide +kernel) (by decide +kernel)
theorem m_839 : Cond.methodLink RX4 269 yX4_wiseFor ∈ z_T := z_T_in 839 (by decide +kernel) (by decide +kernel)
theorem m_841 : Cond.instanceMethod yX4_wiseFor ∈ z_T := z_T_in 841 (by decide +kernel) (by decide +kernel)
theorem m_842 : Cond.code yX4_wiseFor cX4_wiseFor 4 (some .int) ∈ z_T := z_T_in 842 (by decide +kernel) (by decide +kernel)
theorem m_843 : Cond.methodLink RX4 272 yX4_worthFor ∈ z_T := z_T_in 843 (by decide +kernel) (by decide +kernel)
theorem m_845 : Cond.instanceMethod yX4_worthFor ∈ z_T := z_T_in 845 (by decide +kernel) (by decide +kernel)
theorem m_846 : Cond.code yX4_worthFor cX4_worthFor 3 (some .int) ∈ z_T := z_T_in 846 (by decide +kernel) (by decide +kernel)
theorem m_851 : Cond.methodLink RX4 275 yX4_hangsOn ∈ z_T := z_T_in 851 (by decide +kernel) (by decide +kernel)
theorem m_853 : Cond.instanceMethod yX4_hangsOn ∈ z_T := z_T_in 853 (by decide +kernel) (by decide +kernel)
theorem m_854 : Cond.code yX4_hangsOn cX4_hangsOn 8 (some .int) ∈ z_T := z_T_in 854 (by decide +kernel) (by decide +kernel)
theorem m_855 : Cond.methodLink RX4 289 Lib.Math.abs.name ∈ z_T := z_T_in 855 (by decide +kernel) (by decide +kernel)
theorem m_856 : Cond.static Lib.Math.abs.name ∈ z_T := z_T_in 856 (by decide +kernel) (by decide +kernel)
theorem m_857 : Cond.code Lib.Math.abs.name Lib.Math.abs.code 1 (some .int) ∈ z_T := z_T_in 857 (by decide +kernel) (by decide +kernel)
theorem m_862 : Cond.methodLink RX4 278 yX4_isImage ∈ z_T := z_T_in 862 (by decide +kernel) (by decide +kernel)
theorem m_863 : Cond.static yX4_isImage ∈ z_T := z_T_in 863 (by decide +kernel) (by decide +kernel)
theorem m_864 : Cond.code yX4_isImage cX4_isImage 1 (some .boolean) ∈ z_T := z_T_in 864 (by decide +kernel) (by decide +kernel)
theorem m_875 : Cond.methodLink RX5 126 yX5_bare ∈ z_T := z_T_in 875 (by decide +kernel) (by decide +kernel)
theorem m_877 : Cond.instanceMethod yX5_bare ∈ z_T := z_T_in 877 (by decide +kernel) (by decide +kernel)
theorem m_878 : Cond.code yX5_bare cX5_bare 2 none ∈ z_T := z_T_in 878 (by decide +kernel) (by decide +kernel)
theorem m_879 : Cond.methodLink RX5 129 yX5_keepLaw ∈ z_T := z_T_in 879 (by decide +kernel) (by decide +kernel)
theorem m_881 : Cond.instanceMethod yX5_keepLaw ∈ z_T := z_T_in 881 (by decide +kernel) (by decide +kernel)
theorem m_882 : Cond.code yX5_keepLaw cX5_keepLaw 6 none ∈ z_T := z_T_in 882 (by decide +kernel) (by decide +kernel)
theorem m_883 : Cond.methodLink RX5 148 yX5_findRanks ∈ z_T := z_T_in 883 (by decide +kernel) (by decide +kernel)
theorem m_885 : Cond.instanceMethod yX5_findRanks ∈ z_T := z_T_in 885 (by decide +kernel) (by decide +kernel)
theorem m_886 : Cond.code yX5_findRanks cX5_findRanks 5 none ∈ z_T := z_T_in 886 (by decide +kernel) (by decide +kernel)
theorem m_887 : Cond.methodLink RX5 253 yX5_areAlike ∈ z_T := z_T_in 887 (by decide +kernel) (by decide +kernel)
theorem m_889 : Cond.instanceMethod yX5_areAlike ∈ z_T := z_T_in 889 (by decide +kernel) (by decide +kernel)
theorem m_890 : Cond.code yX5_areAlike cX5_areAlike 4 (some .boolean) ∈ z_T := z_T_in 890 (by decide +kernel) (by decide +kernel)
theorem m_891 : Cond.methodLink RX5 257 yX5_levelRanks ∈ z_T := z_T_in 891 (by decide +kernel) (by decide +kernel)
theorem m_893 : Cond.instanceMethod yX5_levelRanks ∈ z_T := z_T_in 893 (by decide +kernel) (by decide +kernel)
theorem m_894 : Cond.code yX5_levelRanks cX5_levelRanks 4 none ∈ z_T := z_T_in 894 (by decide +kernel) (by decide +kernel)
theorem m_899 : Cond.fieldLink RX5 7 "LastLentModel" "rides" "[I" ∈ z_T := z_T_in 899 (by decide +kernel) (by decide +kernel)
theorem m_900 : Cond.fieldLink RX5 13 "LastLentModel" "sides" "[I" ∈ z_T := z_T_in 900 (by decide +kernel) (by decide +kernel)
theorem m_901 : Cond.fieldLink RX5 16 "LastLentModel" "dies" "[I" ∈ z_T := z_T_in 901 (by decide +kernel) (by decide +kernel)
theorem m_902 : Cond.fieldLink RX5 19 "LastLentModel" "isLeave" "[Z" ∈ z_T := z_T_in 902 (by decide +kernel) (by decide +kernel)
theorem m_903 : Cond.fieldLink RX5 23 "LastLentModel" "steps" "[Z" ∈ z_T := z_T_in 903 (by decide +kernel) (by decide +kernel)
theorem m_904 : Cond.fieldLink RX5 26 "LastLentModel" "rules" "[I" ∈ z_T := z_T_in 904 (by decide +kernel) (by decide +kernel)
theorem m_905 : Cond.fieldLink RX5 29 "LastLentModel" "readRides" "[I" ∈ z_T := z_T_in 905 (by decide +kernel) (by decide +kernel)
theorem m_906 : Cond.fieldLink RX5 32 "LastLentModel" "readSides" "[I" ∈ z_T := z_T_in 906 (by decide +kernel) (by decide +kernel)
theorem m_907 : Cond.fieldLink RX5 35 "LastLentModel" "readDies" "[I" ∈ z_T := z_T_in 907 (by decide +kernel) (by decide +kernel)
theorem m_908 : Cond.fieldLink RX5 38 "LastLentModel" "readLeave" "[Z" ∈ z_T := z_T_in 908 (by decide +kernel) (by decide +kernel)
theorem m_909 : Cond.fieldLink RX5 41 "LastLentModel" "readSteps" "[Z" ∈ z_T := z_T_in 909 (by decide +kernel) (by decide +kernel)
theorem m_910 : Cond.fieldLink RX5 44 "LastLentModel" "readRules" "[I" ∈ z_T := z_T_in 910 (by decide +kernel) (by decide +kernel)
theorem m_911 : Cond.fieldLink RX5 47 "LastLentModel" "text" "[I" ∈ z_T := z_T_in 911 (by decide +kernel) (by decide +kernel)
theorem m_912 : Cond.fieldLink RX5 153 "LastLentModel" "texted" "I" ∈ z_T := z_T_in 912 (by decide +kernel) (by decide +kernel)
theorem m_913 : Cond.fieldLink RX5 50 "LastLentModel" "faultPlace" "I" ∈ z_T := z_T_in 913 (by decide +kernel) (by decide +kernel)
theorem m_914 : Cond.fieldLink RX5 158 "LastLentModel" "at0" "I" ∈ z_T := z_T_in 914 (by decide +kernel) (by decide +kernel)
theorem m_915 : Cond.fieldLink RX5 165 "LastLentModel" "word" "J" ∈ z_T := z_T_in 915 (by decide +kernel) (by decide +kernel)
theorem m_916 : Cond.fieldLink RX5 169 "LastLentModel" "wordEnd" "I" ∈ z_T := z_T_in 916 (by decide +kernel) (by decide +kernel)
theorem m_917 : Cond.fieldLink RX5 200 "LastLentModel" "number" "I" ∈ z_T := z_T_in 917 (by decide +kernel) (by decide +kernel)
theorem m_918 : Cond.fieldLink RX5 209 "LastLentModel" "kindRead" "I" ∈ z_T := z_T_in 918 (by decide +kernel) (by decide +kernel)
theorem m_919 : Cond.fieldLink RX5 212 "LastLentModel" "kindAt" "I" ∈ z_T := z_T_in 919 (by decide +kernel) (by decide +kernel)
theorem m_920 : Cond.fieldLink RX5 224 "LastLentModel" "onceTold" "I" ∈ z_T := z_T_in 920 (by decide +kernel) (by decide +kernel)
theorem m_921 : Cond.fieldLink RX5 54 "LastLentModel" "single" "[Z" ∈ z_T := z_T_in 921 (by decide +kernel) (by decide +kernel)
theorem m_922 : Cond.fieldLink RX5 57 "LastLentModel" "ranks" "[I" ∈ z_T := z_T_in 922 (by decide +kernel) (by decide +kernel)
theorem m_923 : Cond.fieldLink RX5 274 "LastLentModel" "voyages" "I" ∈ z_T := z_T_in 923 (by decide +kernel) (by decide +kernel)
theorem m_924 : Cond.fieldLink RX5 60 "LastLentModel" "begins" "[I" ∈ z_T := z_T_in 924 (by decide +kernel) (by decide +kernel)
theorem m_925 : Cond.fieldLink RX5 63 "LastLentModel" "endsOn" "[I" ∈ z_T := z_T_in 925 (by decide +kernel) (by decide +kernel)
theorem m_926 : Cond.fieldLink RX5 268 "LastLentModel" "claims" "I" ∈ z_T := z_T_in 926 (by decide +kernel) (by decide +kernel)
theorem m_927 : Cond.fieldLink RX5 66 "LastLentModel" "kinds" "[I" ∈ z_T := z_T_in 927 (by decide +kernel) (by decide +kernel)
theorem m_928 : Cond.fieldLink RX5 69 "LastLentModel" "holders" "[I" ∈ z_T := z_T_in 928 (by decide +kernel) (by decide +kernel)
theorem m_929 : Cond.fieldLink RX5 72 "LastLentModel" "days" "[I" ∈ z_T := z_T_in 929 (by decide +kernel) (by decide +kernel)
theorem m_930 : Cond.fieldLink RX5 75 "LastLentModel" "amounts" "[I" ∈ z_T := z_T_in 930 (by decide +kernel) (by decide +kernel)
theorem m_931 : Cond.fieldLink RX5 78 "LastLentModel" "hasLeave" "[Z" ∈ z_T := z_T_in 931 (by decide +kernel) (by decide +kernel)
theorem m_932 : Cond.fieldLink RX5 81 "LastLentModel" "cargoes" "[I" ∈ z_T := z_T_in 932 (by decide +kernel) (by decide +kernel)
theorem m_933 : Cond.fieldLink RX5 84 "LastLentModel" "asked" "[I" ∈ z_T := z_T_in 933 (by decide +kernel) (by decide +kernel)
theorem m_934 : Cond.fieldLink RX5 87 "LastLentModel" "isGone" "[Z" ∈ z_T := z_T_in 934 (by decide +kernel) (by decide +kernel)
theorem m_935 : Cond.fieldLink RX5 90 "LastLentModel" "sums" "[I" ∈ z_T := z_T_in 935 (by decide +kernel) (by decide +kernel)
theorem m_936 : Cond.fieldLink RX5 93 "LastLentModel" "owners" "[I" ∈ z_T := z_T_in 936 (by decide +kernel) (by decide +kernel)
theorem m_937 : Cond.fieldLink RX5 96 "LastLentModel" "paids" "[I" ∈ z_T := z_T_in 937 (by decide +kernel) (by decide +kernel)
theorem m_938 : Cond.fieldLink RX5 99 "LastLentModel" "lefts" "[I" ∈ z_T := z_T_in 938 (by decide +kernel) (by decide +kernel)
theorem m_939 : Cond.fieldLink RX5 102 "LastLentModel" "orders" "[I" ∈ z_T := z_T_in 939 (by decide +kernel) (by decide +kernel)
theorem m_940 : Cond.fieldLink RX5 105 "LastLentModel" "lents" "[I" ∈ z_T := z_T_in 940 (by decide +kernel) (by decide +kernel)
theorem m_941 : Cond.fieldLink RX5 108 "LastLentModel" "inStep" "[Z" ∈ z_T := z_T_in 941 (by decide +kernel) (by decide +kernel)
theorem m_942 : Cond.fieldLink RX5 111 "LastLentModel" "bestOrder" "[I" ∈ z_T := z_T_in 942 (by decide +kernel) (by decide +kernel)
theorem m_943 : Cond.fieldLink RX5 114 "LastLentModel" "hadNow" "[I" ∈ z_T := z_T_in 943 (by decide +kernel) (by decide +kernel)
theorem m_944 : Cond.fieldLink RX5 117 "LastLentModel" "paidNow" "[I" ∈ z_T := z_T_in 944 (by decide +kernel) (by decide +kernel)
theorem m_945 : Cond.fieldLink RX5 120 "LastLentModel" "images" "[I" ∈ z_T := z_T_in 945 (by decide +kernel) (by decide +kernel)
theorem m_946 : Cond.fieldLink RX5 123 "LastLentModel" "isKept" "[Z" ∈ z_T := z_T_in 946 (by decide +kernel) (by decide +kernel)
theorem m_1048 : Cond.constantLong RX5 151 (8) ∈ z_T := z_T_in 1048 (by decide +kernel) (by decide +kernel)
theorem m_1049 : Cond.methodLink RX5 138 yX5_in ∈ z_T := z_T_in 1049 (by decide +kernel) (by decide +kernel)
theorem m_1050 : Cond.static yX5_in ∈ z_T := z_T_in 1050 (by decide +kernel) (by decide +kernel)
theorem m_1051 : Cond.code yX5_in cX5_in 6 (some .boolean) ∈ z_T := z_T_in 1051 (by decide +kernel) (by decide +kernel)
theorem m_1052 : Cond.constantLong RX5 156 (255) ∈ z_T := z_T_in 1052 (by decide +kernel) (by decide +kernel)
theorem m_1057 : Cond.methodLink RX5 246 yX5_isLand ∈ z_T := z_T_in 1057 (by decide +kernel) (by decide +kernel)
theorem m_1058 : Cond.static yX5_isLand ∈ z_T := z_T_in 1058 (by decide +kernel) (by decide +kernel)
theorem m_1059 : Cond.code yX5_isLand cX5_isLand 1 (some .boolean) ∈ z_T := z_T_in 1059 (by decide +kernel) (by decide +kernel)
theorem m_1060 : Cond.constantLong RX5 136 (3) ∈ z_T := z_T_in 1060 (by decide +kernel) (by decide +kernel)
theorem m_1061 : Cond.methodLink RX5 161 yX5_here ∈ z_T := z_T_in 1061 (by decide +kernel) (by decide +kernel)
theorem m_1063 : Cond.instanceMethod yX5_here ∈ z_T := z_T_in 1063 (by decide +kernel) (by decide +kernel)
theorem m_1064 : Cond.code yX5_here cX5_here 1 (some .int) ∈ z_T := z_T_in 1064 (by decide +kernel) (by decide +kernel)
theorem m_1065 : Cond.methodLink RX5 250 yX5_takeClause ∈ z_T := z_T_in 1065 (by decide +kernel) (by decide +kernel)
theorem m_1067 : Cond.instanceMethod yX5_takeClause ∈ z_T := z_T_in 1067 (by decide +kernel) (by decide +kernel)
theorem m_1068 : Cond.code yX5_takeClause cX5_takeClause 5 (some .int) ∈ z_T := z_T_in 1068 (by decide +kernel) (by decide +kernel)
theorem m_1069 : Cond.methodLink RX5 203 yX5_readWord ∈ z_T := z_T_in 1069 (by decide +kernel) (by decide +kernel)
theorem m_1071 : Cond.instanceMethod yX5_readWord ∈ z_T := z_T_in 1071 (by decide +kernel) (by decide +kernel)
theorem m_1072 : Cond.code yX5_readWord cX5_readWord 2 none ∈ z_T := z_T_in 1072 (by decide +kernel) (by decide +kernel)
theorem m_1073 : Cond.constantLong RX5 172 (97) ∈ z_T := z_T_in 1073 (by decide +kernel) (by decide +kernel)
theorem m_1074 : Cond.constantLong RX5 174 (122) ∈ z_T := z_T_in 1074 (by decide +kernel) (by decide +kernel)
theorem m_1075 : Cond.constantLong RX5 176 (1000000000000) ∈ z_T := z_T_in 1075 (by decide +kernel) (by decide +kernel)
theorem m_1076 : Cond.constantLong RX5 178 (2000000000000) ∈ z_T := z_T_in 1076 (by decide +kernel) (by decide +kernel)
theorem m_1077 : Cond.constantLong RX5 180 (27) ∈ z_T := z_T_in 1077 (by decide +kernel) (by decide +kernel)
theorem m_1078 : Cond.constantLong RX5 182 (96) ∈ z_T := z_T_in 1078 (by decide +kernel) (by decide +kernel)
theorem m_1079 : Cond.methodLink RX5 230 yX5_clauseOf ∈ z_T := z_T_in 1079 (by decide +kernel) (by decide +kernel)
theorem m_1081 : Cond.instanceMethod yX5_clauseOf ∈ z_T := z_T_in 1081 (by decide +kernel) (by decide +kernel)
theorem m_1082 : Cond.code yX5_clauseOf cX5_clauseOf 7 (some .int) ∈ z_T := z_T_in 1082 (by decide +kernel) (by decide +kernel)
theorem m_1083 : Cond.methodLink RX5 184 yX5_code ∈ z_T := z_T_in 1083 (by decide +kernel) (by decide +kernel)
theorem m_1084 : Cond.static yX5_code ∈ z_T := z_T_in 1084 (by decide +kernel) (by decide +kernel)
theorem m_1085 : Cond.code yX5_code cX5_code 4 (some .long) ∈ z_T := z_T_in 1085 (by decide +kernel) (by decide +kernel)
theorem m_1086 : Cond.methodLink RX5 188 yX5_longer ∈ z_T := z_T_in 1086 (by decide +kernel) (by decide +kernel)
theorem m_1087 : Cond.static yX5_longer ∈ z_T := z_T_in 1087 (by decide +kernel) (by decide +kernel)
theorem m_1088 : Cond.code yX5_longer cX5_longer 3 (some .long) ∈ z_T := z_T_in 1088 (by decide +kernel) (by decide +kernel)
theorem m_1089 : Cond.methodLink RX5 196 yX5_fails ∈ z_T := z_T_in 1089 (by decide +kernel) (by decide +kernel)
theorem m_1091 : Cond.instanceMethod yX5_fails ∈ z_T := z_T_in 1091 (by decide +kernel) (by decide +kernel)
theorem m_1092 : Cond.code yX5_fails cX5_fails 3 (some .int) ∈ z_T := z_T_in 1092 (by decide +kernel) (by decide +kernel)
theorem m_1093 : Cond.methodLink RX5 233 yX5_takeRides ∈ z_T := z_T_in 1093 (by decide +kernel) (by decide +kernel)
theorem m_1095 : Cond.instanceMethod yX5_takeRides ∈ z_T := z_T_in 1095 (by decide +kernel) (by decide +kernel)
theorem m_1096 : Cond.code yX5_takeRides cX5_takeRides 5 (some .int) ∈ z_T := z_T_in 1096 (by decide +kernel) (by decide +kernel)
theorem m_1097 : Cond.methodLink RX5 215 yX5_takeKind ∈ z_T := z_T_in 1097 (by decide +kernel) (by decide +kernel)
theorem m_1099 : Cond.instanceMethod yX5_takeKind ∈ z_T := z_T_in 1099 (by decide +kernel) (by decide +kernel)
theorem m_1100 : Cond.code yX5_takeKind cX5_takeKind 1 (some .int) ∈ z_T := z_T_in 1100 (by decide +kernel) (by decide +kernel)
theorem m_1101 : Cond.methodLink RX5 206 yX5_kindOf ∈ z_T := z_T_in 1101 (by decide +kernel) (by decide +kernel)
theorem m_1103 : Cond.instanceMethod yX5_kindOf ∈ z_T := z_T_in 1103 (by decide +kernel) (by decide +kernel)
theorem m_1104 : Cond.code yX5_kindOf cX5_kindOf 5 (some .int) ∈ z_T := z_T_in 1104 (by decide +kernel) (by decide +kernel)
theorem m_1105 : Cond.methodLink RX5 218 yX5_fundOf ∈ z_T := z_T_in 1105 (by decide +kernel) (by decide +kernel)
theorem m_1107 : Cond.instanceMethod yX5_fundOf ∈ z_T := z_T_in 1107 (by decide +kernel) (by decide +kernel)
theorem m_1108 : Cond.code yX5_fundOf cX5_fundOf 3 (some .int) ∈ z_T := z_T_in 1108 (by decide +kernel) (by decide +kernel)
theorem m_1109 : Cond.methodLink RX5 236 yX5_takeAhead ∈ z_T := z_T_in 1109 (by decide +kernel) (by decide +kernel)
theorem m_1111 : Cond.instanceMethod yX5_takeAhead ∈ z_T := z_T_in 1111 (by decide +kernel) (by decide +kernel)
theorem m_1112 : Cond.code yX5_takeAhead cX5_takeAhead 4 (some .int) ∈ z_T := z_T_in 1112 (by decide +kernel) (by decide +kernel)
theorem m_1113 : Cond.methodLink RX5 240 yX5_takeOnce ∈ z_T := z_T_in 1113 (by decide +kernel) (by decide +kernel)
theorem m_1115 : Cond.instanceMethod yX5_takeOnce ∈ z_T := z_T_in 1115 (by decide +kernel) (by decide +kernel)
theorem m_1116 : Cond.code yX5_takeOnce cX5_takeOnce 4 (some .int) ∈ z_T := z_T_in 1116 (by decide +kernel) (by decide +kernel)
theorem m_1117 : Cond.methodLink RX5 221 yX5_takeNumber ∈ z_T := z_T_in 1117 (by decide +kernel) (by decide +kernel)
theorem m_1119 : Cond.instanceMethod yX5_takeNumber ∈ z_T := z_T_in 1119 (by decide +kernel) (by decide +kernel)
theorem m_1120 : Cond.code yX5_takeNumber cX5_takeNumber 5 (some .int) ∈ z_T := z_T_in 1120 (by decide +kernel) (by decide +kernel)
theorem m_1121 : Cond.constantLong RX5 192 (48) ∈ z_T := z_T_in 1121 (by decide +kernel) (by decide +kernel)
theorem m_1122 : Cond.constantLong RX5 194 (57) ∈ z_T := z_T_in 1122 (by decide +kernel) (by decide +kernel)
theorem m_1123 : Cond.methodLink RX5 227 yX5_withinOf ∈ z_T := z_T_in 1123 (by decide +kernel) (by decide +kernel)
theorem m_1125 : Cond.instanceMethod yX5_withinOf ∈ z_T := z_T_in 1125 (by decide +kernel) (by decide +kernel)
theorem m_1126 : Cond.code yX5_withinOf cX5_withinOf 3 (some .int) ∈ z_T := z_T_in 1126 (by decide +kernel) (by decide +kernel)
theorem m_1127 : Cond.methodLink RX5 243 yX5_takeOfKind ∈ z_T := z_T_in 1127 (by decide +kernel) (by decide +kernel)
theorem m_1129 : Cond.instanceMethod yX5_takeOfKind ∈ z_T := z_T_in 1129 (by decide +kernel) (by decide +kernel)
theorem m_1130 : Cond.code yX5_takeOfKind cX5_takeOfKind 5 (some .int) ∈ z_T := z_T_in 1130 (by decide +kernel) (by decide +kernel)
theorem m_1139 : Cond.methodLink RX5 260 yX5_isKind ∈ z_T := z_T_in 1139 (by decide +kernel) (by decide +kernel)
theorem m_1140 : Cond.static yX5_isKind ∈ z_T := z_T_in 1140 (by decide +kernel) (by decide +kernel)
theorem m_1141 : Cond.code yX5_isKind cX5_isKind 1 (some .boolean) ∈ z_T := z_T_in 1141 (by decide +kernel) (by decide +kernel)
theorem m_1142 : Cond.constantLong RX5 142 (7) ∈ z_T := z_T_in 1142 (by decide +kernel) (by decide +kernel)
theorem m_1143 : Cond.methodLink RX5 263 yX5_ring ∈ z_T := z_T_in 1143 (by decide +kernel) (by decide +kernel)
theorem m_1145 : Cond.instanceMethod yX5_ring ∈ z_T := z_T_in 1145 (by decide +kernel) (by decide +kernel)
theorem m_1146 : Cond.code yX5_ring cX5_ring 5 (some .int) ∈ z_T := z_T_in 1146 (by decide +kernel) (by decide +kernel)
theorem m_1151 : Cond.constantLong RX5 266 (4) ∈ z_T := z_T_in 1151 (by decide +kernel) (by decide +kernel)
theorem m_1160 : Cond.methodLink RX5 271 yX5_isDay ∈ z_T := z_T_in 1160 (by decide +kernel) (by decide +kernel)
theorem m_1161 : Cond.static yX5_isDay ∈ z_T := z_T_in 1161 (by decide +kernel) (by decide +kernel)
theorem m_1162 : Cond.code yX5_isDay cX5_isDay 1 (some .boolean) ∈ z_T := z_T_in 1162 (by decide +kernel) (by decide +kernel)
theorem m_1163 : Cond.constantLong RX5 146 (999) ∈ z_T := z_T_in 1163 (by decide +kernel) (by decide +kernel)
theorem m_1168 : Cond.methodLink RX5 277 yX5_isHolder ∈ z_T := z_T_in 1168 (by decide +kernel) (by decide +kernel)
theorem m_1169 : Cond.static yX5_isHolder ∈ z_T := z_T_in 1169 (by decide +kernel) (by decide +kernel)
theorem m_1170 : Cond.code yX5_isHolder cX5_isHolder 1 (some .boolean) ∈ z_T := z_T_in 1170 (by decide +kernel) (by decide +kernel)
theorem m_1171 : Cond.constantLong RX5 144 (5) ∈ z_T := z_T_in 1171 (by decide +kernel) (by decide +kernel)
theorem m_1172 : Cond.methodLink RX5 280 yX5_putClaim ∈ z_T := z_T_in 1172 (by decide +kernel) (by decide +kernel)
theorem m_1174 : Cond.instanceMethod yX5_putClaim ∈ z_T := z_T_in 1174 (by decide +kernel) (by decide +kernel)
theorem m_1175 : Cond.code yX5_putClaim cX5_putClaim 7 none ∈ z_T := z_T_in 1175 (by decide +kernel) (by decide +kernel)
theorem m_1180 : Cond.methodLink RX5 284 yX5_isClaim ∈ z_T := z_T_in 1180 (by decide +kernel) (by decide +kernel)
theorem m_1182 : Cond.instanceMethod yX5_isClaim ∈ z_T := z_T_in 1182 (by decide +kernel) (by decide +kernel)
theorem m_1183 : Cond.code yX5_isClaim cX5_isClaim 2 (some .boolean) ∈ z_T := z_T_in 1183 (by decide +kernel) (by decide +kernel)
theorem m_1184 : Cond.constantLong RX5 287 (-1) ∈ z_T := z_T_in 1184 (by decide +kernel) (by decide +kernel)
theorem m_1189 : Cond.methodLink RX5 289 yX5_isFund ∈ z_T := z_T_in 1189 (by decide +kernel) (by decide +kernel)
theorem m_1190 : Cond.static yX5_isFund ∈ z_T := z_T_in 1190 (by decide +kernel) (by decide +kernel)
theorem m_1191 : Cond.code yX5_isFund cX5_isFund 1 (some .boolean) ∈ z_T := z_T_in 1191 (by decide +kernel) (by decide +kernel)
theorem m_1192 : Cond.constantLong RX5 292 (9999) ∈ z_T := z_T_in 1192 (by decide +kernel) (by decide +kernel)
theorem m_1197 : Cond.methodLink RX5 296 yX5_isCargo ∈ z_T := z_T_in 1197 (by decide +kernel) (by decide +kernel)
theorem m_1198 : Cond.static yX5_isCargo ∈ z_T := z_T_in 1198 (by decide +kernel) (by decide +kernel)
theorem m_1199 : Cond.code yX5_isCargo cX5_isCargo 1 (some .boolean) ∈ z_T := z_T_in 1199 (by decide +kernel) (by decide +kernel)
theorem m_1200 : Cond.constantLong RX5 294 (2) ∈ z_T := z_T_in 1200 (by decide +kernel) (by decide +kernel)
theorem m_1209 : Cond.methodLink RX5 299 yX5_voyageOf ∈ z_T := z_T_in 1209 (by decide +kernel) (by decide +kernel)
theorem m_1211 : Cond.instanceMethod yX5_voyageOf ∈ z_T := z_T_in 1211 (by decide +kernel) (by decide +kernel)
theorem m_1212 : Cond.code yX5_voyageOf cX5_voyageOf 4 (some .int) ∈ z_T := z_T_in 1212 (by decide +kernel) (by decide +kernel)
theorem m_1221 : Cond.methodLink RX5 302 yX5_why ∈ z_T := z_T_in 1221 (by decide +kernel) (by decide +kernel)
theorem m_1223 : Cond.instanceMethod yX5_why ∈ z_T := z_T_in 1223 (by decide +kernel) (by decide +kernel)
theorem m_1224 : Cond.code yX5_why cX5_why 6 (some .int) ∈ z_T := z_T_in 1224 (by decide +kernel) (by decide +kernel)
theorem m_1233 : Cond.methodLink RX5 306 yX5_order2 ∈ z_T := z_T_in 1233 (by decide +kernel) (by decide +kernel)
theorem m_1235 : Cond.instanceMethod yX5_order2 ∈ z_T := z_T_in 1235 (by decide +kernel) (by decide +kernel)
theorem m_1236 : Cond.code yX5_order2 cX5_order2 10 (some .int) ∈ z_T := z_T_in 1236 (by decide +kernel) (by decide +kernel)
theorem m_1241 : Cond.methodLink RX5 312 yX5_isThere ∈ z_T := z_T_in 1241 (by decide +kernel) (by decide +kernel)
theorem m_1243 : Cond.instanceMethod yX5_isThere ∈ z_T := z_T_in 1243 (by decide +kernel) (by decide +kernel)
theorem m_1244 : Cond.code yX5_isThere cX5_isThere 5 (some .boolean) ∈ z_T := z_T_in 1244 (by decide +kernel) (by decide +kernel)
theorem m_1245 : Cond.methodLink RX5 309 yX5_isOn ∈ z_T := z_T_in 1245 (by decide +kernel) (by decide +kernel)
theorem m_1247 : Cond.instanceMethod yX5_isOn ∈ z_T := z_T_in 1247 (by decide +kernel) (by decide +kernel)
theorem m_1248 : Cond.code yX5_isOn cX5_isOn 5 (some .boolean) ∈ z_T := z_T_in 1248 (by decide +kernel) (by decide +kernel)
theorem m_1253 : Cond.methodLink RX5 336 yX5_isGood ∈ z_T := z_T_in 1253 (by decide +kernel) (by decide +kernel)
theorem m_1254 : Cond.static yX5_isGood ∈ z_T := z_T_in 1254 (by decide +kernel) (by decide +kernel)
theorem m_1255 : Cond.code yX5_isGood cX5_isGood 2 (some .boolean) ∈ z_T := z_T_in 1255 (by decide +kernel) (by decide +kernel)
theorem m_1256 : Cond.methodLink RX5 340 yX5_payOut ∈ z_T := z_T_in 1256 (by decide +kernel) (by decide +kernel)
theorem m_1258 : Cond.instanceMethod yX5_payOut ∈ z_T := z_T_in 1258 (by decide +kernel) (by decide +kernel)
theorem m_1259 : Cond.code yX5_payOut cX5_payOut 10 none ∈ z_T := z_T_in 1259 (by decide +kernel) (by decide +kernel)
theorem m_1260 : Cond.methodLink RX5 333 yX5_payAll ∈ z_T := z_T_in 1260 (by decide +kernel) (by decide +kernel)
theorem m_1262 : Cond.instanceMethod yX5_payAll ∈ z_T := z_T_in 1262 (by decide +kernel) (by decide +kernel)
theorem m_1263 : Cond.code yX5_payAll cX5_payAll 7 (some .int) ∈ z_T := z_T_in 1263 (by decide +kernel) (by decide +kernel)
theorem m_1264 : Cond.methodLink RX5 326 yX5_findStep ∈ z_T := z_T_in 1264 (by decide +kernel) (by decide +kernel)
theorem m_1266 : Cond.instanceMethod yX5_findStep ∈ z_T := z_T_in 1266 (by decide +kernel) (by decide +kernel)
theorem m_1267 : Cond.code yX5_findStep cX5_findStep 7 (some .int) ∈ z_T := z_T_in 1267 (by decide +kernel) (by decide +kernel)
theorem m_1268 : Cond.methodLink RX5 319 yX5_isWanting ∈ z_T := z_T_in 1268 (by decide +kernel) (by decide +kernel)
theorem m_1270 : Cond.instanceMethod yX5_isWanting ∈ z_T := z_T_in 1270 (by decide +kernel) (by decide +kernel)
theorem m_1271 : Cond.code yX5_isWanting cX5_isWanting 5 (some .boolean) ∈ z_T := z_T_in 1271 (by decide +kernel) (by decide +kernel)
theorem m_1272 : Cond.methodLink RX5 316 yX5_wants ∈ z_T := z_T_in 1272 (by decide +kernel) (by decide +kernel)
theorem m_1274 : Cond.instanceMethod yX5_wants ∈ z_T := z_T_in 1274 (by decide +kernel) (by decide +kernel)
theorem m_1275 : Cond.code yX5_wants cX5_wants 2 (some .int) ∈ z_T := z_T_in 1275 (by decide +kernel) (by decide +kernel)
theorem m_1276 : Cond.methodLink RX5 329 yX5_payStep ∈ z_T := z_T_in 1276 (by decide +kernel) (by decide +kernel)
theorem m_1278 : Cond.instanceMethod yX5_payStep ∈ z_T := z_T_in 1278 (by decide +kernel) (by decide +kernel)
theorem m_1279 : Cond.code yX5_payStep cX5_payStep 8 none ∈ z_T := z_T_in 1279 (by decide +kernel) (by decide +kernel)
theorem m_1280 : Cond.methodLink RX5 322 yX5_pay ∈ z_T := z_T_in 1280 (by decide +kernel) (by decide +kernel)
theorem m_1282 : Cond.instanceMethod yX5_pay ∈ z_T := z_T_in 1282 (by decide +kernel) (by decide +kernel)
theorem m_1283 : Cond.code yX5_pay cX5_pay 5 none ∈ z_T := z_T_in 1283 (by decide +kernel) (by decide +kernel)
theorem m_1292 : Cond.methodLink RX5 343 yX5_having ∈ z_T := z_T_in 1292 (by decide +kernel) (by decide +kernel)
theorem m_1294 : Cond.instanceMethod yX5_having ∈ z_T := z_T_in 1294 (by decide +kernel) (by decide +kernel)
theorem m_1295 : Cond.code yX5_having cX5_having 4 (some .int) ∈ z_T := z_T_in 1295 (by decide +kernel) (by decide +kernel)
theorem m_1316 : Cond.constantLong RX5 346 (200) ∈ z_T := z_T_in 1316 (by decide +kernel) (by decide +kernel)
theorem m_1325 : Cond.constantLong RX5 348 (100) ∈ z_T := z_T_in 1325 (by decide +kernel) (by decide +kernel)
theorem m_1330 : Cond.methodLink RX5 350 yX5_hanging ∈ z_T := z_T_in 1330 (by decide +kernel) (by decide +kernel)
theorem m_1332 : Cond.instanceMethod yX5_hanging ∈ z_T := z_T_in 1332 (by decide +kernel) (by decide +kernel)
theorem m_1333 : Cond.code yX5_hanging cX5_hanging 12 (some .int) ∈ z_T := z_T_in 1333 (by decide +kernel) (by decide +kernel)
theorem m_1338 : Cond.methodLink RX5 354 yX5_isImage ∈ z_T := z_T_in 1338 (by decide +kernel) (by decide +kernel)
theorem m_1339 : Cond.static yX5_isImage ∈ z_T := z_T_in 1339 (by decide +kernel) (by decide +kernel)
theorem m_1340 : Cond.code yX5_isImage cX5_isImage 1 (some .boolean) ∈ z_T := z_T_in 1340 (by decide +kernel) (by decide +kernel)
theorem fl_X0_27 : z_fl RX0 27 0 4 := ⟨RX0, TX0, 13, rfl, by decide, iX0, m_287⟩
theorem fl_X0_31 : z_fl RX0 31 0 5 := ⟨RX0, TX0, 13, rfl, by decide, iX0, m_290⟩
theorem fl_X0_34 : z_fl RX0 34 0 6 := ⟨RX0, TX0, 13, rfl, by decide, iX0, m_293⟩
theorem fl_X0_37 : z_fl RX0 37 0 7 := ⟨RX0, TX0, 13, rfl, by decide, iX0, m_297⟩
theorem fl_X0_40 : z_fl RX0 40 0 8 := ⟨RX0, TX0, 13, rfl, by decide, iX0, m_299⟩
theorem fl_X0_43 : z_fl RX0 43 0 9 := ⟨RX0, TX0, 13, rfl, by decide, iX0, m_302⟩
theorem fl_X0_46 : z_fl RX0 46 0 10 := ⟨RX0, TX0, 13, rfl, by decide, iX0, m_306⟩
theorem fl_X0_49 : z_fl RX0 49 0 11 := ⟨RX0, TX0, 13, rfl, by decide, iX0, m_309⟩
theorem fl_X0_53 : z_fl RX0 53 0 12 := ⟨RX0, TX0, 13, rfl, by decide, iX0, m_312⟩
theorem fl_X0_9 : z_fl RX0 9 0 0 := ⟨RX0, TX0, 13, rfl, by decide, iX0, m_275⟩
theorem fl_X0_15 : z_fl RX0 15 0 1 := ⟨RX0, TX0, 13, rfl, by decide, iX0, m_278⟩
theorem fl_X0_18 : z_fl RX0 18 0 2 := ⟨RX0, TX0, 13, rfl, by decide, iX0, m_282⟩
theorem fl_X0_21 : z_fl RX0 21 0 3 := ⟨RX0, TX0, 13, rfl, by decide, iX0, m_285⟩
theorem fl_X4_18 : z_fl RX4 18 4 1 := ⟨RX4, TX4, 10, rfl, by decide, iX4, m_344⟩
theorem fl_X4_59 : z_fl RX4 59 1 1 := ⟨RX1, TX1, 9, rfl, by decide, iX1, m_109⟩
theorem fl_X1_22 : z_fl RX1 22 1 1 := ⟨RX1, TX1, 9, rfl, by decide, iX1, m_108⟩
theorem fl_X1_9 : z_fl RX1 9 1 0 := ⟨RX1, TX1, 9, rfl, by decide, iX1, m_107⟩
theorem fl_X4_55 : z_fl RX4 55 4 9 := ⟨RX4, TX4, 10, rfl, by decide, iX4, m_352⟩
theorem fl_X1_15 : z_fl RX1 15 1 2 := ⟨RX1, TX1, 9, rfl, by decide, iX1, m_110⟩
theorem fl_X1_19 : z_fl RX1 19 1 3 := ⟨RX1, TX1, 9, rfl, by decide, iX1, m_112⟩
theorem fl_X1_30 : z_fl RX1 30 1 6 := ⟨RX1, TX1, 9, rfl, by decide, iX1, m_116⟩
theorem fl_X1_33 : z_fl RX1 33 1 7 := ⟨RX1, TX1, 9, rfl, by decide, iX1, m_117⟩
theorem fl_X1_36 : z_fl RX1 36 1 8 := ⟨RX1, TX1, 9, rfl, by decide, iX1, m_118⟩
theorem fl_X1_154 : z_fl RX1 154 1 5 := ⟨RX1, TX1, 9, rfl, by decide, iX1, m_115⟩
theorem fl_X1_42 : z_fl RX1 42 1 4 := ⟨RX1, TX1, 9, rfl, by decide, iX1, m_114⟩
theorem fl_X1_73 : z_fl RX1 73 0 8 := ⟨RX0, TX0, 13, rfl, by decide, iX0, m_300⟩
theorem fl_X1_112 : z_fl RX1 112 0 0 := ⟨RX0, TX0, 13, rfl, by decide, iX0, m_277⟩
theorem fl_X1_125 : z_fl RX1 125 0 2 := ⟨RX0, TX0, 13, rfl, by decide, iX0, m_284⟩
theorem fl_X1_128 : z_fl RX1 128 0 4 := ⟨RX0, TX0, 13, rfl, by decide, iX0, m_289⟩
theorem fl_X1_131 : z_fl RX1 131 0 5 := ⟨RX0, TX0, 13, rfl, by decide, iX0, m_292⟩
theorem fl_X1_89 : z_fl RX1 89 0 11 := ⟨RX0, TX0, 13, rfl, by decide, iX0, m_311⟩
theorem fl_X1_136 : z_fl RX1 136 0 9 := ⟨RX0, TX0, 13, rfl, by decide, iX0, m_304⟩
theorem fl_X1_145 : z_fl RX1 145 0 1 := ⟨RX0, TX0, 13, rfl, by decide, iX0, m_281⟩
theorem fl_X1_148 : z_fl RX1 148 0 6 := ⟨RX0, TX0, 13, rfl, by decide, iX0, m_296⟩
theorem fl_X1_102 : z_fl RX1 102 0 12 := ⟨RX0, TX0, 13, rfl, by decide, iX0, m_314⟩
theorem fl_X1_151 : z_fl RX1 151 0 10 := ⟨RX0, TX0, 13, rfl, by decide, iX0, m_308⟩
theorem fl_X4_75 : z_fl RX4 75 1 2 := ⟨RX1, TX1, 9, rfl, by decide, iX1, m_111⟩
theorem fl_X4_11 : z_fl RX4 11 4 0 := ⟨RX4, TX4, 10, rfl, by decide, iX4, m_343⟩
theorem fl_X4_81 : z_fl RX4 81 1 3 := ⟨RX1, TX1, 9, rfl, by decide, iX1, m_113⟩
theorem fl_X4_87 : z_fl RX4 87 0 3 := ⟨RX0, TX0, 13, rfl, by decide, iX0, m_286⟩
theorem fl_X4_90 : z_fl RX4 90 0 0 := ⟨RX0, TX0, 13, rfl, by decide, iX0, m_276⟩
theorem fl_X4_93 : z_fl RX4 93 0 4 := ⟨RX0, TX0, 13, rfl, by decide, iX0, m_288⟩
theorem fl_X4_100 : z_fl RX4 100 0 5 := ⟨RX0, TX0, 13, rfl, by decide, iX0, m_291⟩
theorem fl_X4_103 : z_fl RX4 103 0 1 := ⟨RX0, TX0, 13, rfl, by decide, iX0, m_279⟩
theorem fl_X4_106 : z_fl RX4 106 0 6 := ⟨RX0, TX0, 13, rfl, by decide, iX0, m_294⟩
theorem fl_X4_109 : z_fl RX4 109 0 7 := ⟨RX0, TX0, 13, rfl, by decide, iX0, m_298⟩
theorem fl_X4_112 : z_fl RX4 112 0 11 := ⟨RX0, TX0, 13, rfl, by decide, iX0, m_310⟩
theorem fl_X4_116 : z_fl RX4 116 0 9 := ⟨RX0, TX0, 13, rfl, by decide, iX0, m_303⟩
theorem fl_X4_119 : z_fl RX4 119 0 12 := ⟨RX0, TX0, 13, rfl, by decide, iX0, m_313⟩
theorem fl_X4_122 : z_fl RX4 122 0 10 := ⟨RX0, TX0, 13, rfl, by decide, iX0, m_307⟩
theorem fl_X4_125 : z_fl RX4 125 0 8 := ⟨RX0, TX0, 13, rfl, by decide, iX0, m_301⟩
theorem fl_X4_128 : z_fl RX4 128 0 2 := ⟨RX0, TX0, 13, rfl, by decide, iX0, m_283⟩
theorem fl_X4_25 : z_fl RX4 25 4 2 := ⟨RX4, TX4, 10, rfl, by decide, iX4, m_345⟩
theorem fl_X3_42 : z_fl RX3 42 3 0 := ⟨RX3, TX3, 13, rfl, by decide, iX3, m_145⟩
theorem fl_X3_15 : z_fl RX3 15 3 4 := ⟨RX3, TX3, 13, rfl, by decide, iX3, m_153⟩
theorem fl_X3_9 : z_fl RX3 9 3 3 := ⟨RX3, TX3, 13, rfl, by decide, iX3, m_152⟩
theorem fl_X3_46 : z_fl RX3 46 3 1 := ⟨RX3, TX3, 13, rfl, by decide, iX3, m_147⟩
theorem fl_X3_18 : z_fl RX3 18 3 5 := ⟨RX3, TX3, 13, rfl, by decide, iX3, m_154⟩
theorem fl_X3_21 : z_fl RX3 21 3 6 := ⟨RX3, TX3, 13, rfl, by decide, iX3, m_157⟩
theorem fl_X3_24 : z_fl RX3 24 3 7 := ⟨RX3, TX3, 13, rfl, by decide, iX3, m_160⟩
theorem fl_X3_27 : z_fl RX3 27 3 8 := ⟨RX3, TX3, 13, rfl, by decide, iX3, m_162⟩
theorem fl_X3_49 : z_fl RX3 49 3 2 := ⟨RX3, TX3, 13, rfl, by decide, iX3, m_150⟩
theorem fl_X3_30 : z_fl RX3 30 3 9 := ⟨RX3, TX3, 13, rfl, by decide, iX3, m_165⟩
theorem fl_X3_33 : z_fl RX3 33 3 10 := ⟨RX3, TX3, 13, rfl, by decide, iX3, m_168⟩
theorem fl_X4_191 : z_fl RX4 191 3 1 := ⟨RX3, TX3, 13, rfl, by decide, iX3, m_149⟩
theorem fl_X4_151 : z_fl RX4 151 3 10 := ⟨RX3, TX3, 13, rfl, by decide, iX3, m_169⟩
theorem fl_X4_157 : z_fl RX4 157 3 11 := ⟨RX3, TX3, 13, rfl, by decide, iX3, m_172⟩
theorem fl_X4_163 : z_fl RX4 163 3 12 := ⟨RX3, TX3, 13, rfl, by decide, iX3, m_174⟩
theorem fl_X4_166 : z_fl RX4 166 3 6 := ⟨RX3, TX3, 13, rfl, by decide, iX3, m_158⟩
theorem fl_X4_169 : z_fl RX4 169 3 5 := ⟨RX3, TX3, 13, rfl, by decide, iX3, m_156⟩
theorem fl_X4_172 : z_fl RX4 172 3 7 := ⟨RX3, TX3, 13, rfl, by decide, iX3, m_161⟩
theorem fl_X4_175 : z_fl RX4 175 3 8 := ⟨RX3, TX3, 13, rfl, by decide, iX3, m_164⟩
theorem fl_X4_178 : z_fl RX4 178 3 2 := ⟨RX3, TX3, 13, rfl, by decide, iX3, m_151⟩
theorem fl_X4_181 : z_fl RX4 181 3 9 := ⟨RX3, TX3, 13, rfl, by decide, iX3, m_167⟩
theorem fl_X4_188 : z_fl RX4 188 3 0 := ⟨RX3, TX3, 13, rfl, by decide, iX3, m_146⟩
theorem fl_X3_84 : z_fl RX3 84 0 1 := ⟨RX0, TX0, 13, rfl, by decide, iX0, m_280⟩
theorem fl_X3_70 : z_fl RX3 70 0 12 := ⟨RX0, TX0, 13, rfl, by decide, iX0, m_315⟩
theorem fl_X3_90 : z_fl RX3 90 0 6 := ⟨RX0, TX0, 13, rfl, by decide, iX0, m_295⟩
theorem fl_X4_43 : z_fl RX4 43 4 6 := ⟨RX4, TX4, 10, rfl, by decide, iX4, m_349⟩
theorem fl_X2_86 : z_fl RX2 86 2 1 := ⟨RX2, TX2, 16, rfl, by decide, iX2, m_213⟩
theorem fl_X2_89 : z_fl RX2 89 3 1 := ⟨RX3, TX3, 13, rfl, by decide, iX3, m_148⟩
theorem fl_X2_92 : z_fl RX2 92 2 2 := ⟨RX2, TX2, 16, rfl, by decide, iX2, m_214⟩
theorem fl_X2_21 : z_fl RX2 21 2 5 := ⟨RX2, TX2, 16, rfl, by decide, iX2, m_217⟩
theorem fl_X2_93 : z_fl RX2 93 3 8 := ⟨RX3, TX3, 13, rfl, by decide, iX3, m_163⟩
theorem fl_X2_18 : z_fl RX2 18 2 4 := ⟨RX2, TX2, 16, rfl, by decide, iX2, m_216⟩
theorem fl_X2_94 : z_fl RX2 94 3 5 := ⟨RX3, TX3, 13, rfl, by decide, iX3, m_155⟩
theorem fl_X2_97 : z_fl RX2 97 3 9 := ⟨RX3, TX3, 13, rfl, by decide, iX3, m_166⟩
theorem fl_X2_15 : z_fl RX2 15 2 3 := ⟨RX2, TX2, 16, rfl, by decide, iX2, m_215⟩
theorem fl_X2_9 : z_fl RX2 9 2 0 := ⟨RX2, TX2, 16, rfl, by decide, iX2, m_212⟩
theorem fl_X2_60 : z_fl RX2 60 3 11 := ⟨RX3, TX3, 13, rfl, by decide, iX3, m_171⟩
theorem fl_X2_30 : z_fl RX2 30 2 8 := ⟨RX2, TX2, 16, rfl, by decide, iX2, m_220⟩
theorem fl_X2_67 : z_fl RX2 67 0 10 := ⟨RX0, TX0, 13, rfl, by decide, iX0, m_305⟩
theorem fl_X2_44 : z_fl RX2 44 2 12 := ⟨RX2, TX2, 16, rfl, by decide, iX2, m_226⟩
theorem fl_X2_47 : z_fl RX2 47 2 13 := ⟨RX2, TX2, 16, rfl, by decide, iX2, m_227⟩
theorem fl_X2_36 : z_fl RX2 36 2 10 := ⟨RX2, TX2, 16, rfl, by decide, iX2, m_223⟩
theorem fl_X2_33 : z_fl RX2 33 2 9 := ⟨RX2, TX2, 16, rfl, by decide, iX2, m_221⟩
theorem fl_X2_24 : z_fl RX2 24 2 6 := ⟨RX2, TX2, 16, rfl, by decide, iX2, m_218⟩
theorem fl_X2_27 : z_fl RX2 27 2 7 := ⟨RX2, TX2, 16, rfl, by decide, iX2, m_219⟩
theorem fl_X2_39 : z_fl RX2 39 2 11 := ⟨RX2, TX2, 16, rfl, by decide, iX2, m_225⟩
theorem fl_X4_231 : z_fl RX4 231 2 9 := ⟨RX2, TX2, 16, rfl, by decide, iX2, m_222⟩
theorem fl_X2_146 : z_fl RX2 146 3 12 := ⟨RX3, TX3, 13, rfl, by decide, iX3, m_175⟩
theorem fl_X2_143 : z_fl RX2 143 3 6 := ⟨RX3, TX3, 13, rfl, by decide, iX3, m_159⟩
theorem fl_X4_241 : z_fl RX4 241 2 10 := ⟨RX2, TX2, 16, rfl, by decide, iX2, m_224⟩
theorem fl_X2_50 : z_fl RX2 50 2 14 := ⟨RX2, TX2, 16, rfl, by decide, iX2, m_228⟩
theorem fl_X2_53 : z_fl RX2 53 2 15 := ⟨RX2, TX2, 16, rfl, by decide, iX2, m_230⟩
theorem fl_X4_250 : z_fl RX4 250 2 15 := ⟨RX2, TX2, 16, rfl, by decide, iX2, m_231⟩
theorem fl_X4_247 : z_fl RX4 247 2 14 := ⟨RX2, TX2, 16, rfl, by decide, iX2, m_229⟩
theorem fl_X4_29 : z_fl RX4 29 4 3 := ⟨RX4, TX4, 10, rfl, by decide, iX4, m_346⟩
theorem fl_X3_36 : z_fl RX3 36 3 11 := ⟨RX3, TX3, 13, rfl, by decide, iX3, m_170⟩
theorem fl_X3_39 : z_fl RX3 39 3 12 := ⟨RX3, TX3, 13, rfl, by decide, iX3, m_173⟩
theorem fl_X4_51 : z_fl RX4 51 4 8 := ⟨RX4, TX4, 10, rfl, by decide, iX4, m_351⟩
theorem fl_X4_47 : z_fl RX4 47 4 7 := ⟨RX4, TX4, 10, rfl, by decide, iX4, m_350⟩
theorem fl_X4_32 : z_fl RX4 32 4 4 := ⟨RX4, TX4, 10, rfl, by decide, iX4, m_347⟩
theorem fl_X4_36 : z_fl RX4 36 4 5 := ⟨RX4, TX4, 10, rfl, by decide, iX4, m_348⟩
theorem fl_X5_44 : z_fl RX5 44 5 11 := ⟨RX5, TX5, 48, rfl, by decide, iX5, m_910⟩
theorem fl_X5_41 : z_fl RX5 41 5 10 := ⟨RX5, TX5, 48, rfl, by decide, iX5, m_909⟩
theorem fl_X5_29 : z_fl RX5 29 5 6 := ⟨RX5, TX5, 48, rfl, by decide, iX5, m_905⟩
theorem fl_X5_32 : z_fl RX5 32 5 7 := ⟨RX5, TX5, 48, rfl, by decide, iX5, m_906⟩
theorem fl_X5_35 : z_fl RX5 35 5 8 := ⟨RX5, TX5, 48, rfl, by decide, iX5, m_907⟩
theorem fl_X5_38 : z_fl RX5 38 5 9 := ⟨RX5, TX5, 48, rfl, by decide, iX5, m_908⟩
theorem fl_X5_23 : z_fl RX5 23 5 4 := ⟨RX5, TX5, 48, rfl, by decide, iX5, m_903⟩
theorem fl_X5_57 : z_fl RX5 57 5 23 := ⟨RX5, TX5, 48, rfl, by decide, iX5, m_922⟩
theorem fl_X5_54 : z_fl RX5 54 5 22 := ⟨RX5, TX5, 48, rfl, by decide, iX5, m_921⟩
theorem fl_X5_26 : z_fl RX5 26 5 5 := ⟨RX5, TX5, 48, rfl, by decide, iX5, m_904⟩
theorem fl_X5_7 : z_fl RX5 7 5 0 := ⟨RX5, TX5, 48, rfl, by decide, iX5, m_899⟩
theorem fl_X5_13 : z_fl RX5 13 5 1 := ⟨RX5, TX5, 48, rfl, by decide, iX5, m_900⟩
theorem fl_X5_16 : z_fl RX5 16 5 2 := ⟨RX5, TX5, 48, rfl, by decide, iX5, m_901⟩
theorem fl_X5_19 : z_fl RX5 19 5 3 := ⟨RX5, TX5, 48, rfl, by decide, iX5, m_902⟩
theorem fl_X5_120 : z_fl RX5 120 5 46 := ⟨RX5, TX5, 48, rfl, by decide, iX5, m_945⟩
theorem fl_X5_153 : z_fl RX5 153 5 13 := ⟨RX5, TX5, 48, rfl, by decide, iX5, m_912⟩
theorem fl_X5_47 : z_fl RX5 47 5 12 := ⟨RX5, TX5, 48, rfl, by decide, iX5, m_911⟩
theorem fl_X5_50 : z_fl RX5 50 5 14 := ⟨RX5, TX5, 48, rfl, by decide, iX5, m_913⟩
theorem fl_X5_158 : z_fl RX5 158 5 15 := ⟨RX5, TX5, 48, rfl, by decide, iX5, m_914⟩
theorem fl_X5_224 : z_fl RX5 224 5 21 := ⟨RX5, TX5, 48, rfl, by decide, iX5, m_920⟩
theorem fl_X5_165 : z_fl RX5 165 5 16 := ⟨RX5, TX5, 48, rfl, by decide, iX5, m_915⟩
theorem fl_X5_169 : z_fl RX5 169 5 17 := ⟨RX5, TX5, 48, rfl, by decide, iX5, m_916⟩
theorem fl_X5_209 : z_fl RX5 209 5 19 := ⟨RX5, TX5, 48, rfl, by decide, iX5, m_918⟩
theorem fl_X5_212 : z_fl RX5 212 5 20 := ⟨RX5, TX5, 48, rfl, by decide, iX5, m_919⟩
theorem fl_X5_200 : z_fl RX5 200 5 18 := ⟨RX5, TX5, 48, rfl, by decide, iX5, m_917⟩
theorem fl_X5_274 : z_fl RX5 274 5 24 := ⟨RX5, TX5, 48, rfl, by decide, iX5, m_923⟩
theorem fl_X5_60 : z_fl RX5 60 5 25 := ⟨RX5, TX5, 48, rfl, by decide, iX5, m_924⟩
theorem fl_X5_63 : z_fl RX5 63 5 26 := ⟨RX5, TX5, 48, rfl, by decide, iX5, m_925⟩
theorem fl_X5_268 : z_fl RX5 268 5 27 := ⟨RX5, TX5, 48, rfl, by decide, iX5, m_926⟩
theorem fl_X5_66 : z_fl RX5 66 5 28 := ⟨RX5, TX5, 48, rfl, by decide, iX5, m_927⟩
theorem fl_X5_69 : z_fl RX5 69 5 29 := ⟨RX5, TX5, 48, rfl, by decide, iX5, m_928⟩
theorem fl_X5_72 : z_fl RX5 72 5 30 := ⟨RX5, TX5, 48, rfl, by decide, iX5, m_929⟩
theorem fl_X5_75 : z_fl RX5 75 5 31 := ⟨RX5, TX5, 48, rfl, by decide, iX5, m_930⟩
theorem fl_X5_78 : z_fl RX5 78 5 32 := ⟨RX5, TX5, 48, rfl, by decide, iX5, m_931⟩
theorem fl_X5_81 : z_fl RX5 81 5 33 := ⟨RX5, TX5, 48, rfl, by decide, iX5, m_932⟩
theorem fl_X5_84 : z_fl RX5 84 5 34 := ⟨RX5, TX5, 48, rfl, by decide, iX5, m_933⟩
theorem fl_X5_87 : z_fl RX5 87 5 35 := ⟨RX5, TX5, 48, rfl, by decide, iX5, m_934⟩
theorem fl_X5_90 : z_fl RX5 90 5 36 := ⟨RX5, TX5, 48, rfl, by decide, iX5, m_935⟩
theorem fl_X5_93 : z_fl RX5 93 5 37 := ⟨RX5, TX5, 48, rfl, by decide, iX5, m_936⟩
theorem fl_X5_99 : z_fl RX5 99 5 39 := ⟨RX5, TX5, 48, rfl, by decide, iX5, m_938⟩
theorem fl_X5_96 : z_fl RX5 96 5 38 := ⟨RX5, TX5, 48, rfl, by decide, iX5, m_937⟩
theorem fl_X5_102 : z_fl RX5 102 5 40 := ⟨RX5, TX5, 48, rfl, by decide, iX5, m_939⟩
theorem fl_X5_108 : z_fl RX5 108 5 42 := ⟨RX5, TX5, 48, rfl, by decide, iX5, m_941⟩
theorem fl_X5_105 : z_fl RX5 105 5 41 := ⟨RX5, TX5, 48, rfl, by decide, iX5, m_940⟩
theorem fl_X5_111 : z_fl RX5 111 5 43 := ⟨RX5, TX5, 48, rfl, by decide, iX5, m_942⟩
theorem fl_X5_114 : z_fl RX5 114 5 44 := ⟨RX5, TX5, 48, rfl, by decide, iX5, m_943⟩
theorem fl_X5_117 : z_fl RX5 117 5 45 := ⟨RX5, TX5, 48, rfl, by decide, iX5, m_944⟩
theorem fl_X5_123 : z_fl RX5 123 5 47 := ⟨RX5, TX5, 48, rfl, by decide, iX5, m_946⟩
theorem fp_X0_4 : z_fp 0 4 false .int := ⟨RX0, TX0, 13, tyX0, rfl, by decide +kernel, rfl, by decide +kernel, tyX0_ok, nmX0⟩
theorem fp_X0_5 : z_fp 0 5 false .int := ⟨RX0, TX0, 13, tyX0, rfl, by decide +kernel, rfl, by decide +kernel, tyX0_ok, nmX0⟩
theorem fp_X0_6 : z_fp 0 6 false .int := ⟨RX0, TX0, 13, tyX0, rfl, by decide +kernel, rfl, by decide +kernel, tyX0_ok, nmX0⟩
theorem fp_X0_7 : z_fp 0 7 false .int := ⟨RX0, TX0, 13, tyX0, rfl, by decide +kernel, rfl, by decide +kernel, tyX0_ok, nmX0⟩
theorem fp_X0_8 : z_fp 0 8 false .int := ⟨RX0, TX0, 13, tyX0, rfl, by decide +kernel, rfl, by decide +kernel, tyX0_ok, nmX0⟩
theorem fp_X0_9 : z_fp 0 9 false .int := ⟨RX0, TX0, 13, tyX0, rfl, by decide +kernel, rfl, by decide +kernel, tyX0_ok, nmX0⟩
theorem fp_X0_10 : z_fp 0 10 false .int := ⟨RX0, TX0, 13, tyX0, rfl, by decide +kernel, rfl, by decide +kernel, tyX0_ok, nmX0⟩
theorem fp_X0_11 : z_fp 0 11 false .boolean := ⟨RX0, TX0, 13, tyX0, rfl, by decide +kernel, rfl, by decide +kernel, tyX0_ok, nmX0⟩
theorem fp_X0_12 : z_fp 0 12 false .boolean := ⟨RX0, TX0, 13, tyX0, rfl, by decide +kernel, rfl, by decide +kernel, tyX0_ok, nmX0⟩
theorem fp_X1_1 : z_fp 1 1 false .int := ⟨RX1, TX1, 9, tyX1, rfl, by decide +kernel, rfl, by decide +kernel, tyX1_ok, nmX1⟩
theorem fp_X1_2 : z_fp 1 2 false .int := ⟨RX1, TX1, 9, tyX1, rfl, by decide +kernel, rfl, by decide +kernel, tyX1_ok, nmX1⟩
theorem fp_X1_3 : z_fp 1 3 false .int := ⟨RX1, TX1, 9, tyX1, rfl, by decide +kernel, rfl, by decide +kernel, tyX1_ok, nmX1⟩
theorem fp_X1_6 : z_fp 1 6 false .int := ⟨RX1, TX1, 9, tyX1, rfl, by decide +kernel, rfl, by decide +kernel, tyX1_ok, nmX1⟩
theorem fp_X1_7 : z_fp 1 7 false .int := ⟨RX1, TX1, 9, tyX1, rfl, by decide +kernel, rfl, by decide +kernel, tyX1_ok, nmX1⟩
theorem fp_X1_8 : z_fp 1 8 false .int := ⟨RX1, TX1, 9, tyX1, rfl, by decide +kernel, rfl, by decide +kernel, tyX1_ok, nmX1⟩
theorem fp_X1_5 : z_fp 1 5 false .int := ⟨RX1, TX1, 9, tyX1, rfl, by decide +kernel, rfl, by decide +kernel, tyX1_ok, nmX1⟩
theorem fp_X1_4 : z_fp 1 4 false .int := ⟨RX1, TX1, 9, tyX1, rfl, by decide +kernel, rfl, by decide +kernel, tyX1_ok, nmX1⟩
theorem fp_X4_9 : z_fp 4 9 false (.object "LastLent$Law") := ⟨RX4, TX4, 10, tyX4, rfl, by decide +kernel, rfl, by decide +kernel, tyX4_ok, nmX4⟩
theorem fp_X3_0 : z_fp 3 0 false .int := ⟨RX3, TX3, 13, tyX3, rfl, by decide +kernel, rfl, by decide +kernel, tyX3_ok, nmX3⟩
theorem fp_X3_2 : z_fp 3 2 false .int := ⟨RX3, TX3, 13, tyX3, rfl, by decide +kernel, rfl, by decide +kernel, tyX3_ok, nmX3⟩
theorem fp_X3_1 : z_fp 3 1 false .int := ⟨RX3, TX3, 13, tyX3, rfl, by decide +kernel, rfl, by decide +kernel, tyX3_ok, nmX3⟩
theorem fp_X2_1 : z_fp 2 1 false .int := ⟨RX2, TX2, 16, tyX2, rfl, by decide +kernel, rfl, by decide +kernel, tyX2_ok, nmX2⟩
theorem fp_X2_2 : z_fp 2 2 false .int := ⟨RX2, TX2, 16, tyX2, rfl, by decide +kernel, rfl, by decide +kernel, tyX2_ok, nmX2⟩
theorem fp_X5_13 : z_fp 5 13 false .int := ⟨RX5, TX5, 48, tyX5, rfl, by decide +kernel, rfl, by decide +kernel, tyX5_ok, nmX5⟩
theorem fp_X5_14 : z_fp 5 14 false .int := ⟨RX5, TX5, 48, tyX5, rfl, by decide +kernel, rfl, by decide +kernel, tyX5_ok, nmX5⟩
theorem fp_X5_15 : z_fp 5 15 false .int := ⟨RX5, TX5, 48, tyX5, rfl, by decide +kernel, rfl, by decide +kernel, tyX5_ok, nmX5⟩
theorem fp_X5_21 : z_fp 5 21 false .int := ⟨RX5, TX5, 48, tyX5, rfl, by decide +kernel, rfl, by decide +kernel, tyX5_ok, nmX5⟩
theorem fp_X5_16 : z_fp 5 16 false .long := ⟨RX5, TX5, 48, tyX5, rfl, by decide +kernel, rfl, by decide +kernel, tyX5_ok, nmX5⟩
theorem fp_X5_17 : z_fp 5 17 false .int := ⟨RX5, TX5, 48, tyX5, rfl, by decide +kernel, rfl, by decide +kernel, tyX5_ok, nmX5⟩
theorem fp_X5_19 : z_fp 5 19 false .int := ⟨RX5, TX5, 48, tyX5, rfl, by decide +kernel, rfl, by decide +kernel, tyX5_ok, nmX5⟩
theorem fp_X5_20 : z_fp 5 20 false .int := ⟨RX5, TX5, 48, tyX5, rfl, by decide +kernel, rfl, by decide +kernel, tyX5_ok, nmX5⟩
theorem fp_X5_18 : z_fp 5 18 false .int := ⟨RX5, TX5, 48, tyX5, rfl, by decide +kernel, rfl, by decide +kernel, tyX5_ok, nmX5⟩
theorem fp_X5_24 : z_fp 5 24 false .int := ⟨RX5, TX5, 48, tyX5, rfl, by decide +kernel, rfl, by decide +kernel, tyX5_ok, nmX5⟩
theorem fp_X5_27 : z_fp 5 27 false .int := ⟨RX5, TX5, 48, tyX5, rfl, by decide +kernel, rfl, by decide +kernel, tyX5_ok, nmX5⟩
theorem q_X1_append : z_Yc yX1_append cX1_append 2 none 1 := ⟨m_381, m_79, ⟨by decide +kernel, by decide +kernel, by decide +kernel⟩, by decide⟩
theorem q_X4_isLand : z_Yc yX4_isLand cX4_isLand 1 (some .boolean) 1 := ⟨m_388, m_78, ⟨by decide +kernel, by decide +kernel, by decide +kernel⟩, by decide⟩
theorem q_X0_tellNothing : z_Yc yX0_tellNothing cX0_tellNothing 2 none 0 := ⟨m_274, m_82, ⟨by decide +kernel, by decide +kernel, by decide +kernel⟩, by decide⟩
theorem q_X1_isLetter : z_Yc yX1_isLetter cX1_isLetter 1 (some .boolean) 1 := ⟨m_400, m_79, ⟨by decide +kernel, by decide +kernel, by decide +kernel⟩, by decide⟩
theorem q_X1_isFigure : z_Yc yX1_isFigure cX1_isFigure 1 (some .boolean) 1 := ⟨m_403, m_79, ⟨by decide +kernel, by decide +kernel, by decide +kernel⟩, by decide⟩
theorem q_X1_nextToken : z_Yc yX1_nextToken cX1_nextToken 1 none 0 := ⟨m_397, m_79, ⟨by decide +kernel, by decide +kernel, by decide +kernel⟩, by decide⟩
theorem q_X1_isWordAt : z_Yc yX1_isWordAt cX1_isWordAt 5 (some .boolean) 2 := ⟨m_426, m_79, ⟨by decide +kernel, by decide +kernel, by decide +kernel⟩, by decide⟩
theorem q_X1_wordIn : z_Yc yX1_wordIn cX1_wordIn 3 (some .int) 1 := ⟨m_412, m_79, ⟨by decide +kernel, by decide +kernel, by decide +kernel⟩, by decide⟩
theorem q_X4_bit : z_Yc yX4_bit cX4_bit 2 (some .int) 2 := ⟨m_475, m_78, ⟨by decide +kernel, by decide +kernel, by decide +kernel⟩, by decide⟩
theorem q_X1_isOneTooMany : z_Yc yX1_isOneTooMany cX1_isOneTooMany 3 (some .boolean) 2 := ⟨m_472, m_79, ⟨by decide +kernel, by decide +kernel, by decide +kernel⟩, by decide⟩
theorem q_X1_refuse : z_Yc yX1_refuse cX1_refuse 2 (some .boolean) 1 := ⟨m_468, m_79, ⟨by decide +kernel, by decide +kernel, by decide +kernel⟩, by decide⟩
theorem q_X1_beginClause : z_Yc yX1_beginClause cX1_beginClause 3 (some .int) 1 := ⟨m_407, m_79, ⟨by decide +kernel, by decide +kernel, by decide +kernel⟩, by decide⟩
theorem q_X1_readKind : z_Yc yX1_readKind cX1_readKind 3 (some .int) 1 := ⟨m_487, m_79, ⟨by decide +kernel, by decide +kernel, by decide +kernel⟩, by decide⟩
theorem q_X1_readFund : z_Yc yX1_readFund cX1_readFund 4 (some .boolean) 2 := ⟨m_492, m_79, ⟨by decide +kernel, by decide +kernel, by decide +kernel⟩, by decide⟩
theorem q_X1_isFundNext : z_Yc yX1_isFundNext cX1_isFundNext 3 (some .boolean) 0 := ⟨m_497, m_79, ⟨by decide +kernel, by decide +kernel, by decide +kernel⟩, by decide⟩
theorem q_X1_readRides : z_Yc yX1_readRides cX1_readRides 5 (some .boolean) 1 := ⟨m_483, m_79, ⟨by decide +kernel, by decide +kernel, by decide +kernel⟩, by decide⟩
theorem q_X1_readAhead : z_Yc yX1_readAhead cX1_readAhead 4 (some .boolean) 1 := ⟨m_501, m_79, ⟨by decide +kernel, by decide +kernel, by decide +kernel⟩, by decide⟩
theorem q_X1_readFirst : z_Yc yX1_readFirst cX1_readFirst 3 (some .boolean) 1 := ⟨m_505, m_79, ⟨by decide +kernel, by decide +kernel, by decide +kernel⟩, by decide⟩
theorem q_X1_readBehind : z_Yc yX1_readBehind cX1_readBehind 3 (some .boolean) 1 := ⟨m_509, m_79, ⟨by decide +kernel, by decide +kernel, by decide +kernel⟩, by decide⟩
theorem q_X1_readWithin : z_Yc yX1_readWithin cX1_readWithin 3 (some .boolean) 1 := ⟨m_513, m_79, ⟨by decide +kernel, by decide +kernel, by decide +kernel⟩, by decide⟩
theorem q_X1_kindsThatDie : z_Yc yX1_kindsThatDie cX1_kindsThatDie 3 (some .int) 1 := ⟨m_521, m_79, ⟨by decide +kernel, by decide +kernel, by decide +kernel⟩, by decide⟩
theorem q_X1_readNumber : z_Yc yX1_readNumber cX1_readNumber 4 (some .int) 1 := ⟨m_525, m_79, ⟨by decide +kernel, by decide +kernel, by decide +kernel⟩, by decide⟩
theorem q_X1_readDies : z_Yc yX1_readDies cX1_readDies 4 (some .boolean) 1 := ⟨m_518, m_79, ⟨by decide +kernel, by decide +kernel, by decide +kernel⟩, by decide⟩
theorem q_X1_readLeave : z_Yc yX1_readLeave cX1_readLeave 3 (some .boolean) 1 := ⟨m_529, m_79, ⟨by decide +kernel, by decide +kernel, by decide +kernel⟩, by decide⟩
theorem q_X1_readCosts : z_Yc yX1_readCosts cX1_readCosts 3 (some .boolean) 1 := ⟨m_533, m_79, ⟨by decide +kernel, by decide +kernel, by decide +kernel⟩, by decide⟩
theorem q_X1_readBody : z_Yc yX1_readBody cX1_readBody 3 (some .boolean) 2 := ⟨m_479, m_79, ⟨by decide +kernel, by decide +kernel, by decide +kernel⟩, by decide⟩
theorem q_X1_readClose : z_Yc yX1_readClose cX1_readClose 1 none 0 := ⟨m_537, m_79, ⟨by decide +kernel, by decide +kernel, by decide +kernel⟩, by decide⟩
theorem q_X1_readInto : z_Yc yX1_readInto cX1_readInto 4 (some .int) 1 := ⟨m_392, m_79, ⟨by decide +kernel, by decide +kernel, by decide +kernel⟩, by decide⟩
theorem q_X0_followSteps : z_Yc yX0_followSteps cX0_followSteps 3 none 0 := ⟨m_545, m_82, ⟨by decide +kernel, by decide +kernel, by decide +kernel⟩, by decide⟩
theorem q_X0_raiseRanks : z_Yc yX0_raiseRanks cX0_raiseRanks 3 none 0 := ⟨m_550, m_82, ⟨by decide +kernel, by decide +kernel, by decide +kernel⟩, by decide⟩
theorem q_X0_settle : z_Yc yX0_settle cX0_settle 2 none 0 := ⟨m_541, m_82, ⟨by decide +kernel, by decide +kernel, by decide +kernel⟩, by decide⟩
theorem q_X4_isKind : z_Yc yX4_isKind cX4_isKind 1 (some .boolean) 1 := ⟨m_565, m_78, ⟨by decide +kernel, by decide +kernel, by decide +kernel⟩, by decide⟩
theorem q_X4_isDay : z_Yc yX4_isDay cX4_isDay 1 (some .boolean) 1 := ⟨m_581, m_78, ⟨by decide +kernel, by decide +kernel, by decide +kernel⟩, by decide⟩
theorem q_X3_lastEnd : z_Yc yX3_lastEnd cX3_lastEnd 1 (some .int) 0 := ⟨m_585, m_80, ⟨by decide +kernel, by decide +kernel, by decide +kernel⟩, by decide⟩
theorem q_X3_addVoyage : z_Yc yX3_addVoyage cX3_addVoyage 3 (some .int) 2 := ⟨m_589, m_80, ⟨by decide +kernel, by decide +kernel, by decide +kernel⟩, by decide⟩
theorem q_X4_isHolder : z_Yc yX4_isHolder cX4_isHolder 1 (some .boolean) 1 := ⟨m_596, m_78, ⟨by decide +kernel, by decide +kernel, by decide +kernel⟩, by decide⟩
theorem q_X3_addClaim : z_Yc yX3_addClaim cX3_addClaim 7 (some .int) 6 := ⟨m_600, m_80, ⟨by decide +kernel, by decide +kernel, by decide +kernel⟩, by decide⟩
theorem q_X4_isClaim : z_Yc yX4_isClaim cX4_isClaim 2 (some .boolean) 1 := ⟨m_608, m_78, ⟨by decide +kernel, by decide +kernel, by decide +kernel⟩, by decide⟩
theorem q_X4_isFund : z_Yc yX4_isFund cX4_isFund 1 (some .boolean) 1 := ⟨m_615, m_78, ⟨by decide +kernel, by decide +kernel, by decide +kernel⟩, by decide⟩
theorem q_X4_isCargo : z_Yc yX4_isCargo cX4_isCargo 1 (some .boolean) 1 := ⟨m_622, m_78, ⟨by decide +kernel, by decide +kernel, by decide +kernel⟩, by decide⟩
theorem q_X3_voyageOf : z_Yc yX3_voyageOf cX3_voyageOf 4 (some .int) 1 := ⟨m_634, m_80, ⟨by decide +kernel, by decide +kernel, by decide +kernel⟩, by decide⟩
theorem q_X4_sumOf : z_Yc yX4_sumOf cX4_sumOf 4 (some .int) 2 := ⟨m_641, m_78, ⟨by decide +kernel, by decide +kernel, by decide +kernel⟩, by decide⟩
theorem q_X3_lastUnbarred : z_Yc yX3_lastUnbarred cX3_lastUnbarred 6 (some .int) 2 := ⟨m_653, m_80, ⟨by decide +kernel, by decide +kernel, by decide +kernel⟩, by decide⟩
theorem q_X3_lacksLeave : z_Yc yX3_lacksLeave cX3_lacksLeave 3 (some .boolean) 2 := ⟨m_660, m_80, ⟨by decide +kernel, by decide +kernel, by decide +kernel⟩, by decide⟩
theorem q_X3_whyDead : z_Yc yX3_whyDead cX3_whyDead 4 (some .int) 3 := ⟨m_649, m_80, ⟨by decide +kernel, by decide +kernel, by decide +kernel⟩, by decide⟩
theorem q_X3_lastAlive : z_Yc yX3_lastAlive cX3_lastAlive 5 (some .int) 2 := ⟨m_669, m_80, ⟨by decide +kernel, by decide +kernel, by decide +kernel⟩, by decide⟩
theorem q_X0_standingOf : z_Yc yX0_standingOf cX0_standingOf 7 (some .int) 3 := ⟨m_683, m_82, ⟨by decide +kernel, by decide +kernel, by decide +kernel⟩, by decide⟩
theorem q_X3_standing : z_Yc yX3_standing cX3_standing 3 (some .int) 2 := ⟨m_678, m_80, ⟨by decide +kernel, by decide +kernel, by decide +kernel⟩, by decide⟩
theorem q_J6_compare_7cf53 : z_Yc yJ6_compare_7cf53 cJ6_compare_7cf53 2 (some .int) 2 := ⟨m_686, m_89, ⟨by decide +kernel, by decide +kernel, by decide +kernel⟩, by decide⟩
theorem q_X0_fundsFor : z_Yc yX0_fundsFor cX0_fundsFor 4 (some .int) 2 := ⟨m_698, m_82, ⟨by decide +kernel, by decide +kernel, by decide +kernel⟩, by decide⟩
theorem q_X2_joinLine : z_Yc yX2_joinLine cX2_joinLine 3 none 1 := ⟨m_704, m_81, ⟨by decide +kernel, by decide +kernel, by decide +kernel⟩, by decide⟩
theorem q_X2_lineUp : z_Yc yX2_lineUp cX2_lineUp 5 none 3 := ⟨m_694, m_81, ⟨by decide +kernel, by decide +kernel, by decide +kernel⟩, by decide⟩
theorem q_X2_stepOf : z_Yc yX2_stepOf cX2_stepOf 7 (some .int) 2 := ⟨m_708, m_81, ⟨by decide +kernel, by decide +kernel, by decide +kernel⟩, by decide⟩
theorem q_X4_isWay : z_Yc yX4_isWay cX4_isWay 1 (some .boolean) 1 := ⟨m_716, m_78, ⟨by decide +kernel, by decide +kernel, by decide +kernel⟩, by decide⟩
theorem q_X4_copyRow : z_Yc yX4_copyRow cX4_copyRow 2 none 2 := ⟨m_724, m_78, ⟨by decide +kernel, by decide +kernel, by decide +kernel⟩, by decide⟩
theorem q_X2_share : z_Yc yX2_share cX2_share 8 (some .int) 5 := ⟨m_740, m_81, ⟨by decide +kernel, by decide +kernel, by decide +kernel⟩, by decide⟩
theorem q_X2_payFund : z_Yc yX2_payFund cX2_payFund 8 (some .int) 2 := ⟨m_737, m_81, ⟨by decide +kernel, by decide +kernel, by decide +kernel⟩, by decide⟩
theorem q_X2_payAllFrom : z_Yc yX2_payAllFrom cX2_payAllFrom 3 none 1 := ⟨m_733, m_81, ⟨by decide +kernel, by decide +kernel, by decide +kernel⟩, by decide⟩
theorem q_X2_wantedOf : z_Yc yX2_wantedOf cX2_wantedOf 4 (some .int) 1 := ⟨m_752, m_81, ⟨by decide +kernel, by decide +kernel, by decide +kernel⟩, by decide⟩
theorem q_X2_mostPayable : z_Yc yX2_mostPayable cX2_mostPayable 5 (some .int) 0 := ⟨m_748, m_81, ⟨by decide +kernel, by decide +kernel, by decide +kernel⟩, by decide⟩
theorem q_X2_swapFunds : z_Yc yX2_swapFunds cX2_swapFunds 4 none 2 := ⟨m_761, m_81, ⟨by decide +kernel, by decide +kernel, by decide +kernel⟩, by decide⟩
theorem q_X2_nextOrder : z_Yc yX2_nextOrder cX2_nextOrder 5 (some .int) 0 := ⟨m_757, m_81, ⟨by decide +kernel, by decide +kernel, by decide +kernel⟩, by decide⟩
theorem q_X2_marshal : z_Yc yX2_marshal cX2_marshal 4 none 0 := ⟨m_744, m_81, ⟨by decide +kernel, by decide +kernel, by decide +kernel⟩, by decide⟩
theorem q_X2_run : z_Yc yX2_run cX2_run 6 none 4 := ⟨m_720, m_81, ⟨by decide +kernel, by decide +kernel, by decide +kernel⟩, by decide⟩
theorem q_X2_paidTo : z_Yc yX2_paidTo cX2_paidTo 2 (some .int) 1 := ⟨m_765, m_81, ⟨by decide +kernel, by decide +kernel, by decide +kernel⟩, by decide⟩
theorem q_X2_holding : z_Yc yX2_holding cX2_holding 5 (some .int) 2 := ⟨m_781, m_81, ⟨by decide +kernel, by decide +kernel, by decide +kernel⟩, by decide⟩
theorem q_X2_paidInAll : z_Yc yX2_paidInAll cX2_paidInAll 1 (some .int) 0 := ⟨m_777, m_81, ⟨by decide +kernel, by decide +kernel, by decide +kernel⟩, by decide⟩
theorem q_X2_paidForShip : z_Yc yX2_paidForShip cX2_paidForShip 5 (some .int) 2 := ⟨m_797, m_81, ⟨by decide +kernel, by decide +kernel, by decide +kernel⟩, by decide⟩
theorem q_X2_giveBack : z_Yc yX2_giveBack cX2_giveBack 2 none 0 := ⟨m_793, m_81, ⟨by decide +kernel, by decide +kernel, by decide +kernel⟩, by decide⟩
theorem q_X3_become : z_Yc yX3_become cX3_become 2 none 1 := ⟨m_805, m_80, ⟨by decide +kernel, by decide +kernel, by decide +kernel⟩, by decide⟩
theorem q_X3_takeAway : z_Yc yX3_takeAway cX3_takeAway 2 none 1 := ⟨m_826, m_80, ⟨by decide +kernel, by decide +kernel, by decide +kernel⟩, by decide⟩
theorem q_X4_holdingWithout : z_Yc yX4_holdingWithout cX4_holdingWithout 6 (some .int) 5 := ⟨m_822, m_78, ⟨by decide +kernel, by decide +kernel, by decide +kernel⟩, by decide⟩
theorem q_X4_canSailAgain : z_Yc yX4_canSailAgain cX4_canSailAgain 3 (some .boolean) 2 := ⟨m_834, m_78, ⟨by decide +kernel, by decide +kernel, by decide +kernel⟩, by decide⟩
theorem q_X4_supposeVoyage : z_Yc yX4_supposeVoyage cX4_supposeVoyage 7 none 5 := ⟨m_838, m_78, ⟨by decide +kernel, by decide +kernel, by decide +kernel⟩, by decide⟩
theorem q_X4_worthFor : z_Yc yX4_worthFor cX4_worthFor 3 (some .int) 2 := ⟨m_846, m_78, ⟨by decide +kernel, by decide +kernel, by decide +kernel⟩, by decide⟩
theorem q_X4_wiseFor : z_Yc yX4_wiseFor cX4_wiseFor 4 (some .int) 1 := ⟨m_842, m_78, ⟨by decide +kernel, by decide +kernel, by decide +kernel⟩, by decide⟩
theorem q_X4_hangsOn : z_Yc yX4_hangsOn cX4_hangsOn 8 (some .int) 5 := ⟨m_854, m_78, ⟨by decide +kernel, by decide +kernel, by decide +kernel⟩, by decide⟩
theorem q_X4_isImage : z_Yc yX4_isImage cX4_isImage 1 (some .boolean) 1 := ⟨m_864, m_78, ⟨by decide +kernel, by decide +kernel, by decide +kernel⟩, by decide⟩
theorem q_X5_areAlike : z_Yc yX5_areAlike cX5_areAlike 4 (some .boolean) 3 := ⟨m_890, m_83, ⟨by decide +kernel, by decide +kernel, by decide +kernel⟩, by decide⟩
theorem q_X5_levelRanks : z_Yc yX5_levelRanks cX5_levelRanks 4 none 1 := ⟨m_894, m_83, ⟨by decide +kernel, by decide +kernel, by decide +kernel⟩, by decide⟩
theorem q_X5_findRanks : z_Yc yX5_findRanks cX5_findRanks 5 none 1 := ⟨m_886, m_83, ⟨by decide +kernel, by decide +kernel, by decide +kernel⟩, by decide⟩
theorem q_X5_in : z_Yc yX5_in cX5_in 6 (some .boolean) 3 := ⟨m_1051, m_83, ⟨by decide +kernel, by decide +kernel, by decide +kernel⟩, by decide⟩
theorem q_X5_isLand : z_Yc yX5_isLand cX5_isLand 1 (some .boolean) 1 := ⟨m_1059, m_83, ⟨by decide +kernel, by decide +kernel, by decide +kernel⟩, by decide⟩
theorem q_X5_bare : z_Yc yX5_bare cX5_bare 2 none 0 := ⟨m_878, m_83, ⟨by decide +kernel, by decide +kernel, by decide +kernel⟩, by decide⟩
theorem q_X5_keepLaw : z_Yc yX5_keepLaw cX5_keepLaw 6 none 1 := ⟨m_882, m_83, ⟨by decide +kernel, by decide +kernel, by decide +kernel⟩, by decide⟩
theorem q_X5_here : z_Yc yX5_here cX5_here 1 (some .int) 0 := ⟨m_1064, m_83, ⟨by decide +kernel, by decide +kernel, by decide +kernel⟩, by decide⟩
theorem q_X5_readWord : z_Yc yX5_readWord cX5_readWord 2 none 0 := ⟨m_1072, m_83, ⟨by decide +kernel, by decide +kernel, by decide +kernel⟩, by decide⟩
theorem q_X5_code : z_Yc yX5_code cX5_code 4 (some .long) 4 := ⟨m_1085, m_83, ⟨by decide +kernel, by decide +kernel, by decide +kernel⟩, by decide⟩
theorem q_X5_longer : z_Yc yX5_longer cX5_longer 3 (some .long) 2 := ⟨m_1088, m_83, ⟨by decide +kernel, by decide +kernel, by decide +kernel⟩, by decide⟩
theorem q_X5_clauseOf : z_Yc yX5_clauseOf cX5_clauseOf 7 (some .int) 0 := ⟨m_1082, m_83, ⟨by decide +kernel, by decide +kernel, by decide +kernel⟩, by decide⟩
theorem q_X5_kindOf : z_Yc yX5_kindOf cX5_kindOf 5 (some .int) 0 := ⟨m_1104, m_83, ⟨by decide +kernel, by decide +kernel, by decide +kernel⟩, by decide⟩
theorem q_X5_fails : z_Yc yX5_fails cX5_fails 3 (some .int) 2 := ⟨m_1092, m_83, ⟨by decide +kernel, by decide +kernel, by decide +kernel⟩, by decide⟩
theorem q_X5_takeKind : z_Yc yX5_takeKind cX5_takeKind 1 (some .int) 0 := ⟨m_1100, m_83, ⟨by decide +kernel, by decide +kernel, by decide +kernel⟩, by decide⟩
theorem q_X5_takeNumber : z_Yc yX5_takeNumber cX5_takeNumber 5 (some .int) 2 := ⟨m_1120, m_83, ⟨by decide +kernel, by decide +kernel, by decide +kernel⟩, by decide⟩
theorem q_X5_takeOfKind : z_Yc yX5_takeOfKind cX5_takeOfKind 5 (some .int) 1 := ⟨m_1130, m_83, ⟨by decide +kernel, by decide +kernel, by decide +kernel⟩, by decide⟩
theorem q_X5_withinOf : z_Yc yX5_withinOf cX5_withinOf 3 (some .int) 0 := ⟨m_1126, m_83, ⟨by decide +kernel, by decide +kernel, by decide +kernel⟩, by decide⟩
theorem q_X5_takeOnce : z_Yc yX5_takeOnce cX5_takeOnce 4 (some .int) 2 := ⟨m_1116, m_83, ⟨by decide +kernel, by decide +kernel, by decide +kernel⟩, by decide⟩
theorem q_X5_takeAhead : z_Yc yX5_takeAhead cX5_takeAhead 4 (some .int) 1 := ⟨m_1112, m_83, ⟨by decide +kernel, by decide +kernel, by decide +kernel⟩, by decide⟩
theorem q_X5_fundOf : z_Yc yX5_fundOf cX5_fundOf 3 (some .int) 0 := ⟨m_1108, m_83, ⟨by decide +kernel, by decide +kernel, by decide +kernel⟩, by decide⟩
theorem q_X5_takeRides : z_Yc yX5_takeRides cX5_takeRides 5 (some .int) 0 := ⟨m_1096, m_83, ⟨by decide +kernel, by decide +kernel, by decide +kernel⟩, by decide⟩
theorem q_X5_takeClause : z_Yc yX5_takeClause cX5_takeClause 5 (some .int) 0 := ⟨m_1068, m_83, ⟨by decide +kernel, by decide +kernel, by decide +kernel⟩, by decide⟩
theorem q_X5_isKind : z_Yc yX5_isKind cX5_isKind 1 (some .boolean) 1 := ⟨m_1141, m_83, ⟨by decide +kernel, by decide +kernel, by decide +kernel⟩, by decide⟩
theorem q_X5_ring : z_Yc yX5_ring cX5_ring 5 (some .int) 1 := ⟨m_1146, m_83, ⟨by decide +kernel, by decide +kernel, by decide +kernel⟩, by decide⟩
theorem q_X5_isDay : z_Yc yX5_isDay cX5_isDay 1 (some .boolean) 1 := ⟨m_1162, m_83, ⟨by decide +kernel, by decide +kernel, by decide +kernel⟩, by decide⟩
theorem q_X5_isHolder : z_Yc yX5_isHolder cX5_isHolder 1 (some .boolean) 1 := ⟨m_1170, m_83, ⟨by decide +kernel, by decide +kernel, by decide +kernel⟩, by decide⟩
theorem q_X5_putClaim : z_Yc yX5_putClaim cX5_putClaim 7 none 6 := ⟨m_1175, m_83, ⟨by decide +kernel, by decide +kernel, by decide +kernel⟩, by decide⟩
theorem q_X5_isClaim : z_Yc yX5_isClaim cX5_isClaim 2 (some .boolean) 1 := ⟨m_1183, m_83, ⟨by decide +kernel, by decide +kernel, by decide +kernel⟩, by decide⟩
theorem q_X5_isFund : z_Yc yX5_isFund cX5_isFund 1 (some .boolean) 1 := ⟨m_1191, m_83, ⟨by decide +kernel, by decide +kernel, by decide +kernel⟩, by decide⟩
theorem q_X5_isCargo : z_Yc yX5_isCargo cX5_isCargo 1 (some .boolean) 1 := ⟨m_1199, m_83, ⟨by decide +kernel, by decide +kernel, by decide +kernel⟩, by decide⟩
theorem q_X5_voyageOf : z_Yc yX5_voyageOf cX5_voyageOf 4 (some .int) 1 := ⟨m_1212, m_83, ⟨by decide +kernel, by decide +kernel, by decide +kernel⟩, by decide⟩
theorem q_X5_why : z_Yc yX5_why cX5_why 6 (some .int) 3 := ⟨m_1224, m_83, ⟨by decide +kernel, by decide +kernel, by decide +kernel⟩, by decide⟩
theorem q_X5_order2 : z_Yc yX5_order2 cX5_order2 10 (some .int) 3 := ⟨m_1236, m_83, ⟨by decide +kernel, by decide +kernel, by decide +kernel⟩, by decide⟩
theorem q_X5_isOn : z_Yc yX5_isOn cX5_isOn 5 (some .boolean) 3 := ⟨m_1248, m_83, ⟨by decide +kernel, by decide +kernel, by decide +kernel⟩, by decide⟩
theorem q_X5_isThere : z_Yc yX5_isThere cX5_isThere 5 (some .boolean) 4 := ⟨m_1244, m_83, ⟨by decide +kernel, by decide +kernel, by decide +kernel⟩, by decide⟩
theorem q_X5_isGood : z_Yc yX5_isGood cX5_isGood 2 (some .boolean) 2 := ⟨m_1255, m_83, ⟨by decide +kernel, by decide +kernel, by decide +kernel⟩, by decide⟩
theorem q_X5_wants : z_Yc yX5_wants cX5_wants 2 (some .int) 1 := ⟨m_1275, m_83, ⟨by decide +kernel, by decide +kernel, by decide +kernel⟩, by decide⟩
theorem q_X5_isWanting : z_Yc yX5_isWanting cX5_isWanting 5 (some .boolean) 4 := ⟨m_1271, m_83, ⟨by decide +kernel, by decide +kernel, by decide +kernel⟩, by decide⟩
theorem q_X5_findStep : z_Yc yX5_findStep cX5_findStep 7 (some .int) 3 := ⟨m_1267, m_83, ⟨by decide +kernel, by decide +kernel, by decide +kernel⟩, by decide⟩
theorem q_X5_pay : z_Yc yX5_pay cX5_pay 5 none 4 := ⟨m_1283, m_83, ⟨by decide +kernel, by decide +kernel, by decide +kernel⟩, by decide⟩
theorem q_X5_payStep : z_Yc yX5_payStep cX5_payStep 8 none 3 := ⟨m_1279, m_83, ⟨by decide +kernel, by decide +kernel, by decide +kernel⟩, by decide⟩
theorem q_X5_payAll : z_Yc yX5_payAll cX5_payAll 7 (some .int) 2 := ⟨m_1263, m_83, ⟨by decide +kernel, by decide +kernel, by decide +kernel⟩, by decide⟩
theorem q_X5_payOut : z_Yc yX5_payOut cX5_payOut 10 none 3 := ⟨m_1259, m_83, ⟨by decide +kernel, by decide +kernel, by decide +kernel⟩, by decide⟩
theorem q_X5_having : z_Yc yX5_having cX5_having 4 (some .int) 1 := ⟨m_1295, m_83, ⟨by decide +kernel, by decide +kernel, by decide +kernel⟩, by decide⟩
theorem q_X5_hanging : z_Yc yX5_hanging cX5_hanging 12 (some .int) 5 := ⟨m_1333, m_83, ⟨by decide +kernel, by decide +kernel, by decide +kernel⟩, by decide⟩
theorem q_X5_isImage : z_Yc yX5_isImage cX5_isImage 1 (some .boolean) 1 := ⟨m_1340, m_83, ⟨by decide +kernel, by decide +kernel, by decide +kernel⟩, by decide⟩
theorem v_X1_append : z_Yv yX1_append := ⟨m_379, m_380⟩
theorem v_X0_tellNothing : z_Yv yX0_tellNothing := ⟨m_272, m_273⟩
theorem v_X1_nextToken : z_Yv yX1_nextToken := ⟨m_396, m_0⟩
theorem v_X1_isWordAt : z_Yv yX1_isWordAt := ⟨m_425, m_3⟩
theorem v_X1_wordIn : z_Yv yX1_wordIn := ⟨m_411, m_2⟩
theorem v_X1_isOneTooMany : z_Yv yX1_isOneTooMany := ⟨m_471, m_5⟩
theorem v_X1_refuse : z_Yv yX1_refuse := ⟨m_467, m_4⟩
theorem v_X1_beginClause : z_Yv yX1_beginClause := ⟨m_406, m_1⟩
theorem v_X1_readKind : z_Yv yX1_readKind := ⟨m_486, m_8⟩
theorem v_X1_readFund : z_Yv yX1_readFund := ⟨m_491, m_9⟩
theorem v_X1_isFundNext : z_Yv yX1_isFundNext := ⟨m_496, m_10⟩
theorem v_X1_readRides : z_Yv yX1_readRides := ⟨m_482, m_7⟩
theorem v_X1_readAhead : z_Yv yX1_readAhead := ⟨m_500, m_11⟩
theorem v_X1_readFirst : z_Yv yX1_readFirst := ⟨m_504, m_12⟩
theorem v_X1_readBehind : z_Yv yX1_readBehind := ⟨m_508, m_13⟩
theorem v_X1_readWithin : z_Yv yX1_readWithin := ⟨m_512, m_14⟩
theorem v_X1_readNumber : z_Yv yX1_readNumber := ⟨m_524, m_16⟩
theorem v_X1_readDies : z_Yv yX1_readDies := ⟨m_517, m_15⟩
theorem v_X1_readLeave : z_Yv yX1_readLeave := ⟨m_528, m_17⟩
theorem v_X1_readCosts : z_Yv yX1_readCosts := ⟨m_532, m_18⟩
theorem v_X1_readBody : z_Yv yX1_readBody := ⟨m_478, m_6⟩
theorem v_X1_readClose : z_Yv yX1_readClose := ⟨m_536, m_19⟩
theorem v_X1_readInto : z_Yv yX1_readInto := ⟨m_390, m_391⟩
theorem v_X0_followSteps : z_Yv yX0_followSteps := ⟨m_544, m_20⟩
theorem v_X0_raiseRanks : z_Yv yX0_raiseRanks := ⟨m_549, m_21⟩
theorem v_X0_settle : z_Yv yX0_settle := ⟨m_539, m_540⟩
theorem v_X3_lastEnd : z_Yv yX3_lastEnd := ⟨m_583, m_584⟩
theorem v_X3_addVoyage : z_Yv yX3_addVoyage := ⟨m_587, m_588⟩
theorem v_X3_addClaim : z_Yv yX3_addClaim := ⟨m_598, m_599⟩
theorem v_X4_isClaim : z_Yv yX4_isClaim := ⟨m_607, m_22⟩
theorem v_X3_voyageOf : z_Yv yX3_voyageOf := ⟨m_632, m_633⟩
theorem v_X3_lastUnbarred : z_Yv yX3_lastUnbarred := ⟨m_652, m_23⟩
theorem v_X3_lacksLeave : z_Yv yX3_lacksLeave := ⟨m_659, m_24⟩
theorem v_X3_whyDead : z_Yv yX3_whyDead := ⟨m_647, m_648⟩
theorem v_X3_lastAlive : z_Yv yX3_lastAlive := ⟨m_667, m_668⟩
theorem v_X0_standingOf : z_Yv yX0_standingOf := ⟨m_681, m_682⟩
theorem v_X3_standing : z_Yv yX3_standing := ⟨m_676, m_677⟩
theorem v_X0_fundsFor : z_Yv yX0_fundsFor := ⟨m_696, m_697⟩
theorem v_X2_joinLine : z_Yv yX2_joinLine := ⟨m_703, m_25⟩
theorem v_X2_lineUp : z_Yv yX2_lineUp := ⟨m_692, m_693⟩
theorem v_X2_stepOf : z_Yv yX2_stepOf := ⟨m_706, m_707⟩
theorem v_X2_payFund : z_Yv yX2_payFund := ⟨m_736, m_27⟩
theorem v_X2_payAllFrom : z_Yv yX2_payAllFrom := ⟨m_732, m_26⟩
theorem v_X2_wantedOf : z_Yv yX2_wantedOf := ⟨m_751, m_30⟩
theorem v_X2_mostPayable : z_Yv yX2_mostPayable := ⟨m_747, m_29⟩
theorem v_X2_swapFunds : z_Yv yX2_swapFunds := ⟨m_760, m_32⟩
theorem v_X2_nextOrder : z_Yv yX2_nextOrder := ⟨m_756, m_31⟩
theorem v_X2_marshal : z_Yv yX2_marshal := ⟨m_743, m_28⟩
theorem v_X2_run : z_Yv yX2_run := ⟨m_718, m_719⟩
theorem v_X2_paidTo : z_Yv yX2_paidTo := ⟨m_763, m_764⟩
theorem v_X2_holding : z_Yv yX2_holding := ⟨m_779, m_780⟩
theorem v_X2_paidInAll : z_Yv yX2_paidInAll := ⟨m_775, m_776⟩
theorem v_X2_paidForShip : z_Yv yX2_paidForShip := ⟨m_796, m_33⟩
theorem v_X2_giveBack : z_Yv yX2_giveBack := ⟨m_791, m_792⟩
theorem v_X3_become : z_Yv yX3_become := ⟨m_803, m_804⟩
theorem v_X3_takeAway : z_Yv yX3_takeAway := ⟨m_824, m_825⟩
theorem v_X4_holdingWithout : z_Yv yX4_holdingWithout := ⟨m_821, m_34⟩
theorem v_X4_canSailAgain : z_Yv yX4_canSailAgain := ⟨m_833, m_35⟩
theorem v_X4_supposeVoyage : z_Yv yX4_supposeVoyage := ⟨m_837, m_36⟩
theorem v_X4_worthFor : z_Yv yX4_worthFor := ⟨m_845, m_38⟩
theorem v_X4_wiseFor : z_Yv yX4_wiseFor := ⟨m_841, m_37⟩
theorem v_X4_hangsOn : z_Yv yX4_hangsOn := ⟨m_853, m_39⟩
theorem v_X5_areAlike : z_Yv yX5_areAlike := ⟨m_889, m_43⟩
theorem v_X5_levelRanks : z_Yv yX5_levelRanks := ⟨m_893, m_44⟩
theorem v_X5_findRanks : z_Yv yX5_findRanks := ⟨m_885, m_42⟩
theorem v_X5_bare : z_Yv yX5_bare := ⟨m_877, m_40⟩
theorem v_X5_keepLaw : z_Yv yX5_keepLaw := ⟨m_881, m_41⟩
theorem v_X5_here : z_Yv yX5_here := ⟨m_1063, m_46⟩
theorem v_X5_readWord : z_Yv yX5_readWord := ⟨m_1071, m_48⟩
theorem v_X5_clauseOf : z_Yv yX5_clauseOf := ⟨m_1081, m_49⟩
theorem v_X5_kindOf : z_Yv yX5_kindOf := ⟨m_1103, m_53⟩
theorem v_X5_fails : z_Yv yX5_fails := ⟨m_1091, m_50⟩
theorem v_X5_takeKind : z_Yv yX5_takeKind := ⟨m_1099, m_52⟩
theorem v_X5_takeNumber : z_Yv yX5_takeNumber := ⟨m_1119, m_57⟩
theorem v_X5_takeOfKind : z_Yv yX5_takeOfKind := ⟨m_1129, m_59⟩
theorem v_X5_withinOf : z_Yv yX5_withinOf := ⟨m_1125, m_58⟩
theorem v_X5_takeOnce : z_Yv yX5_takeOnce := ⟨m_1115, m_56⟩
theorem v_X5_takeAhead : z_Yv yX5_takeAhead := ⟨m_1111, m_55⟩
theorem v_X5_fundOf : z_Yv yX5_fundOf := ⟨m_1107, m_54⟩
theorem v_X5_takeRides : z_Yv yX5_takeRides := ⟨m_1095, m_51⟩
theorem v_X5_takeClause : z_Yv yX5_takeClause := ⟨m_1067, m_47⟩
theorem v_X5_ring : z_Yv yX5_ring := ⟨m_1145, m_60⟩
theorem v_X5_putClaim : z_Yv yX5_putClaim := ⟨m_1174, m_61⟩
theorem v_X5_isClaim : z_Yv yX5_isClaim := ⟨m_1182, m_62⟩
theorem v_X5_voyageOf : z_Yv yX5_voyageOf := ⟨m_1211, m_63⟩
theorem v_X5_why : z_Yv yX5_why := ⟨m_1223, m_64⟩
theorem v_X5_order2 : z_Yv yX5_order2 := ⟨m_1235, m_65⟩
theorem v_X5_isOn : z_Yv yX5_isOn := ⟨m_1247, m_67⟩
theorem v_X5_isThere : z_Yv yX5_isThere := ⟨m_1243, m_66⟩
theorem v_X5_wants : z_Yv yX5_wants := ⟨m_1274, m_72⟩
theorem v_X5_isWanting : z_Yv yX5_isWanting := ⟨m_1270, m_71⟩
theorem v_X5_findStep : z_Yv yX5_findStep := ⟨m_1266, m_70⟩
theorem v_X5_pay : z_Yv yX5_pay := ⟨m_1282, m_74⟩
theorem v_X5_payStep : z_Yv yX5_payStep := ⟨m_1278, m_73⟩
theorem v_X5_payAll : z_Yv yX5_payAll := ⟨m_1262, m_69⟩
theorem v_X5_payOut : z_Yv yX5_payOut := ⟨m_1258, m_68⟩
theorem v_X5_having : z_Yv yX5_having := ⟨m_1294, m_75⟩
theorem v_X5_hanging : z_Yv yX5_hanging := ⟨m_1332, m_76⟩
end
section
/-! functions and contracts, written by wip/whole/dec.py -/
def g_X0_tellNothing_2 (o : Nat)  : Nat → Int32 → z_M → Option z_M
  | 0, _, _ => none
  | n + 1, x1, μ => (if (8 : Int32) ≤ x1 then (z_st (z_si μ o 4 (0 : Int32)) fun μ1 => (z_st (z_si μ1 o 5 (0 : Int32)) fun μ4 => (z_st (z_si μ4 o 6 (0 : Int32)) fun μ7 => (z_st (z_si μ7 o 7 (0 : Int32)) fun μ10 => (z_st (z_si μ10 o 8 (0 : Int32)) fun μ13 => (z_st (z_si μ13 o 9 (0 : Int32)) fun μ16 => (z_st (z_si μ16 o 10 (0 : Int32)) fun μ19 => (z_st (z_si μ19 o 11 (0 : Int32)) fun μ22 => (z_st (z_si μ22 o 12 (0 : Int32)) fun μ25 => (some μ25)))))))))) else (if z_in x1 8 then (z_st (z_si μ (o + 1) x1.toNatClampNeg (1 : Int32)) fun μ28 => (if z_in x1 8 then (z_st (z_si μ28 (o + 2) x1.toNatClampNeg (0 : Int32)) fun μ31 => (if z_in x1 8 then (z_st (z_si μ31 (o + 3) x1.toNatClampNeg (0 : Int32)) fun μ34 => (if z_in x1 8 then (z_st (z_si μ34 (o + 4) x1.toNatClampNeg (0 : Int32)) fun μ37 => (g_X0_tellNothing_2 o  n ((x1 + (1 : Int32))) μ37)) else none)) else none)) else none)) else none))
def f_X0_tellNothing (o : Nat) (μ : z_M) : Option z_M :=
  (g_X0_tellNothing_2 o  z_N ((0 : Int32)) μ)
set_option maxHeartbeats 4000000 in
set_option maxRecDepth 100000 in
theorem u_X0_tellNothing_2 {E : z_E} {ρ : Nat → Nat → Option Nat} {μr : z_M} (F : z_F E RX0 cX0_tellNothing 2 0) (Rt : z_R E none (fun v μ1 => μ1.2.2 = ρ ∧ v = none ∧ μr = μ1)) {o : Nat} (hb : z_blk z_lawS z_lawR (z_sh E.1) ρ o) : ∀ (n : Nat) (x1 : Int32) (μ : z_M), μ.2.2 = ρ → g_X0_tellNothing_2 o  n x1 μ = some μr → z_J E 2 2 [some (.ref o), some (.int x1)] [] μ := by
  intro n
  induction n with
  | zero =>
    intro x1 μ hρ h
    rw [g_X0_tellNothing_2] at h
    cases h
  | succ n ih =>
    intro x1 μ hρ h
    rw [g_X0_tellNothing_2] at h
    refine j_iload_n F (pc := 2) (q := 1) (by decide +kernel) rfl ?_
    refine j_bipush F (pc := 3) (n := 8) (v := 8) (by decide +kernel) (by decide +kernel) ?_
    refine j_icmp_ge F (pc := 5) (off := 37) (tgt := 42) (by decide +kernel) (by decide) (fun c => ?_) (fun c => ?_)
    · rw [if_pos c] at h
      refine j_aload_n F (pc := 42) (q := 0) (by decide +kernel) rfl ?_
      refine j_iconst F (pc := 43) (n := 0) (v := 0) (by decide +kernel) (by decide +kernel) ?_
      refine j_putI F (pc := 44) fl_X0_27 fp_X0_4 (hb.1 0 _ rfl) rfl (by decide +kernel) ?_
      obtain ⟨μ1, e3, h⟩ := z_st_some h
      rw [← e3]
      have hρ2 : μ1.2.2 = ρ := by rw [e3]; exact hρ
      refine j_aload_n F (pc := 47) (q := 0) (by decide +kernel) rfl ?_
      refine j_iconst F (pc := 48) (n := 0) (v := 0) (by decide +kernel) (by decide +kernel) ?_
      refine j_putI F (pc := 49) fl_X0_31 fp_X0_5 (hb.1 0 _ rfl) rfl (by decide +kernel) ?_
      obtain ⟨μ4, e6, h⟩ := z_st_some h
      rw [← e6]
      have hρ5 : μ4.2.2 = ρ := by rw [e6]; exact hρ2
      refine j_aload_n F (pc := 52) (q := 0) (by decide +kernel) rfl ?_
      refine j_iconst F (pc := 53) (n := 0) (v := 0) (by decide +kernel) (by decide +kernel) ?_
      refine j_putI F (pc := 54) fl_X0_34 fp_X0_6 (hb.1 0 _ rfl) rfl (by decide +kernel) ?_
      obtain ⟨μ7, e9, h⟩ := z_st_some h
      rw [← e9]
      have hρ8 : μ7.2.2 = ρ := by rw [e9]; exact hρ5
      refine j_aload_n F (pc := 57) (q := 0) (by decide +kernel) rfl ?_
      refine j_iconst F (pc := 58) (n := 0) (v := 0) (by decide +kernel) (by decide +kernel) ?_
      refine j_putI F (pc := 59) fl_X0_37 fp_X0_7 (hb.1 0 _ rfl) rfl (by decide +kernel) ?_
      obtain ⟨μ10, e12, h⟩ := z_st_some h
      rw [← e12]
      have hρ11 : μ10.2.2 = ρ := by rw [e12]; exact hρ8
      refine j_aload_n F (pc := 62) (q := 0) (by decide +kernel) rfl ?_
      refine j_iconst F (pc := 63) (n := 0) (v := 0) (by decide +kernel) (by decide +kernel) ?_
      refine j_putI F (pc := 64) fl_X0_40 fp_X0_8 (hb.1 0 _ rfl) rfl (by decide +kernel) ?_
      obtain ⟨μ13, e15, h⟩ := z_st_some h
      rw [← e15]
      have hρ14 : μ13.2.2 = ρ := by rw [e15]; exact hρ11
      refine j_aload_n F (pc := 67) (q := 0) (by decide +kernel) rfl ?_
      refine j_iconst F (pc := 68) (n := 0) (v := 0) (by decide +kernel) (by decide +kernel) ?_
      refine j_putI F (pc := 69) fl_X0_43 fp_X0_9 (hb.1 0 _ rfl) rfl (by decide +kernel) ?_
      obtain ⟨μ16, e18, h⟩ := z_st_some h
      rw [← e18]
      have hρ17 : μ16.2.2 = ρ := by rw [e18]; exact hρ14
      refine j_aload_n F (pc := 72) (q := 0) (by decide +kernel) rfl ?_
      refine j_iconst F (pc := 73) (n := 0) (v := 0) (by decide +kernel) (by decide +kernel) ?_
      refine j_putI F (pc := 74) fl_X0_46 fp_X0_10 (hb.1 0 _ rfl) rfl (by decide +kernel) ?_
      obtain ⟨μ19, e21, h⟩ := z_st_some h
      rw [← e21]
      have hρ20 : μ19.2.2 = ρ := by rw [e21]; exact hρ17
      refine j_aload_n F (pc := 77) (q := 0) (by decide +kernel) rfl ?_
      refine j_iconst F (pc := 78) (n := 0) (v := 0) (by decide +kernel) (by decide +kernel) ?_
      refine j_putZ F (pc := 79) (Or.inl rfl) fl_X0_49 fp_X0_11 (hb.1 0 _ rfl) rfl (by decide +kernel) ?_
      obtain ⟨μ22, e24, h⟩ := z_st_some h
      rw [← e24]
      have hρ23 : μ22.2.2 = ρ := by rw [e24]; exact hρ20
      refine j_aload_n F (pc := 82) (q := 0) (by decide +kernel) rfl ?_
      refine j_iconst F (pc := 83) (n := 0) (v := 0) (by decide +kernel) (by decide +kernel) ?_
      refine j_putZ F (pc := 84) (Or.inl rfl) fl_X0_53 fp_X0_12 (hb.1 0 _ rfl) rfl (by decide +kernel) ?_
      obtain ⟨μ25, e27, h⟩ := z_st_some h
      rw [← e27]
      have hρ26 : μ25.2.2 = ρ := by rw [e27]; exact hρ23
      exact j_vret F Rt (by decide +kernel) ⟨hρ26, rfl, (Option.some.inj h).symm⟩
    · rw [if_neg c] at h
      refine j_aload_n F (pc := 8) (q := 0) (by decide +kernel) rfl ?_
      refine j_getR F (pc := 9) (hb.r hρ 0 rfl) fl_X0_9 (hb.1 0 _ rfl) rfl (by decide +kernel) ?_
      refine j_iload_n F (pc := 12) (q := 1) (by decide +kernel) rfl ?_
      refine j_iconst F (pc := 13) (n := 1) (v := 1) (by decide +kernel) (by decide +kernel) ?_
      obtain ⟨hg, h⟩ := z_ifs h
      refine j_iast F (pc := 14) (hb.1 1 _ rfl) hg (by decide +kernel) ?_
      obtain ⟨μ28, e30, h⟩ := z_st_some h
      rw [← e30]
      have hρ29 : μ28.2.2 = ρ := by rw [e30]; exact hρ
      refine j_aload_n F (pc := 15) (q := 0) (by decide +kernel) rfl ?_
      refine j_getR F (pc := 16) (hb.r hρ29 1 rfl) fl_X0_15 (hb.1 0 _ rfl) rfl (by decide +kernel) ?_
      refine j_iload_n F (pc := 19) (q := 1) (by decide +kernel) rfl ?_
      refine j_iconst F (pc := 20) (n := 0) (v := 0) (by decide +kernel) (by decide +kernel) ?_
      obtain ⟨hg, h⟩ := z_ifs h
      refine j_iast F (pc := 21) (hb.1 2 _ rfl) hg (by decide +kernel) ?_
      obtain ⟨μ31, e33, h⟩ := z_st_some h
      rw [← e33]
      have hρ32 : μ31.2.2 = ρ := by rw [e33]; exact hρ29
      refine j_aload_n F (pc := 22) (q := 0) (by decide +kernel) rfl ?_
      refine j_getR F (pc := 23) (hb.r hρ32 2 rfl) fl_X0_18 (hb.1 0 _ rfl) rfl (by decide +kernel) ?_
      refine j_iload_n F (pc := 26) (q := 1) (by decide +kernel) rfl ?_
      refine j_iconst F (pc := 27) (n := 0) (v := 0) (by decide +kernel) (by decide +kernel) ?_
      obtain ⟨hg, h⟩ := z_ifs h
      refine j_iast F (pc := 28) (hb.1 3 _ rfl) hg (by decide +kernel) ?_
      obtain ⟨μ34, e36, h⟩ := z_st_some h
      rw [← e36]
      have hρ35 : μ34.2.2 = ρ := by rw [e36]; exact hρ32
      refine j_aload_n F (pc := 29) (q := 0) (by decide +kernel) rfl ?_
      refine j_getR F (pc := 30) (hb.r hρ35 3 rfl) fl_X0_21 (hb.1 0 _ rfl) rfl (by decide +kernel) ?_
      refine j_iload_n F (pc := 33) (q := 1) (by decide +kernel) rfl ?_
      refine j_iconst F (pc := 34) (n := 0) (v := 0) (by decide +kernel) (by decide +kernel) ?_
      obtain ⟨hg, h⟩ := z_ifs h
      refine j_iast F (pc := 35) (hb.1 4 _ rfl) hg (by decide +kernel) ?_
      obtain ⟨μ37, e39, h⟩ := z_st_some h
      rw [← e39]
      have hρ38 : μ37.2.2 = ρ := by rw [e39]; exact hρ35
      refine j_iinc F (pc := 36) (i := 1) (n := 1) (v := 1) (L' := [some (.ref o), some (.int (x1 + (1 : Int32)))]) (by decide +kernel) rfl (by decide +kernel) (by decide) rfl rfl ?_
      refine j_goto F (pc := 39) (off := -37) (tgt := 2) (by decide +kernel) (by decide) ?_
      exact ih _ _ hρ38 h
set_option maxHeartbeats 4000000 in
set_option maxRecDepth 100000 in
theorem t_X0_tellNothing {G : z_Gl} {ρ : Nat → Nat → Option Nat} {μ : z_M} {μr : z_M} {o : Nat} (hρ : μ.2.2 = ρ) (hb : z_blk z_lawS z_lawR (z_sh G) ρ o) (h : f_X0_tellNothing o μ = some μr) : z_Cv G yX0_tellNothing cX0_tellNothing 2 none 0 [.ref o] μ (fun μ1 => μr = μ1) := by
  unfold z_Cv
  refine z_intro (by decide +kernel) (Nat.le_of_ble_eq_true rfl) (fun E hE F Rt => ?_)
  subst hE
  have F : z_F E RX0 cX0_tellNothing 2 0 := F
  rw [hρ] at Rt
  unfold f_X0_tellNothing at h
  show z_J E 2 0 [some (.ref o), none] [] μ
  refine j_iconst F (pc := 0) (n := 0) (v := 0) (by decide +kernel) (by decide +kernel) ?_
  refine j_istore_n F (pc := 1) (q := 1) (L' := [some (.ref o), some (.int (0 : Int32))]) (by decide +kernel) (by decide) rfl rfl ?_
  refine u_X0_tellNothing_2 F Rt hb  z_N _ _ hρ h
/-- LastLent.isLand -/
def f_X4_isLand (x0 : Int32) (μ : z_M) : Option (Int32 × z_M) :=
  (some ((if x0 < 0 then (0 : Int32) else (if (4 : Int32) ≤ x0 then (0 : Int32) else (1 : Int32))), μ))
set_option maxHeartbeats 4000000 in
set_option maxRecDepth 100000 in
theorem t_X4_isLand {G : z_Gl} {ρ : Nat → Nat → Option Nat} {μ : z_M} {r : Int32} {μr : z_M} {x0 : Int32} (hρ : μ.2.2 = ρ)  (h : f_X4_isLand x0 μ = some (r, μr)) : z_Ci G yX4_isLand cX4_isLand 1 (some .boolean) 0 [.int x0] μ (fun r1 μ1 => r = r1 ∧ μr = μ1) := by
  unfold z_Ci
  refine z_intro (by decide +kernel) (Nat.le_of_ble_eq_true rfl) (fun E hE F Rt => ?_)
  subst hE
  have F : z_F E RX4 cX4_isLand 1 0 := F
  rw [hρ] at Rt
  unfold f_X4_isLand at h
  show z_J E 1 0 [some (.int x0)] [] μ
  refine j_iload_n F (pc := 0) (q := 0) (by decide +kernel) rfl ?_
  suffices hj : z_J E 1 14 [some (.int x0)] (.int (if x0 < 0 then (0 : Int32) else (if (4 : Int32) ≤ x0 then (0 : Int32) else (1 : Int32))) :: []) μ by
    refine j_if_lt F (pc := 1) (off := 12) (tgt := 13) (by decide +kernel) (by decide) (fun c0 => ?_) (fun c0 => ?_)
    · rw [if_pos c0] at hj
      refine j_iconst F (pc := 13) (n := 0) (v := 0) (by decide +kernel) (by decide +kernel) ?_
      exact hj
    · rw [if_neg c0] at hj
      refine j_iload_n F (pc := 4) (q := 0) (by decide +kernel) rfl ?_
      refine j_iconst F (pc := 5) (n := 4) (v := 4) (by decide +kernel) (by decide +kernel) ?_
      refine j_icmp_ge F (pc := 6) (off := 7) (tgt := 13) (by decide +kernel) (by decide) (fun c1 => ?_) (fun c1 => ?_)
      · rw [if_pos c1] at hj
        refine j_iconst F (pc := 13) (n := 0) (v := 0) (by decide +kernel) (by decide +kernel) ?_
        exact hj
      · rw [if_neg c1] at hj
        refine j_iconst F (pc := 9) (n := 1) (v := 1) (by decide +kernel) (by decide +kernel) ?_
        refine j_goto F (pc := 10) (off := 4) (tgt := 14) (by decide +kernel) (by decide) ?_
        exact hj
  exact j_iret F Rt (z_nb (by repeat' (first | exact Or.inl rfl | exact Or.inr rfl | split))) (by decide +kernel) ⟨hρ, _, rfl, (congrArg Prod.fst (Option.some.inj h)).symm, (congrArg Prod.snd (Option.some.inj h)).symm⟩
/-- LastLent.bit -/
def f_X4_bit (x0 : Int32) (x1 : Int32) (μ : z_M) : Option (Int32 × z_M) :=
  (some (((x0 >>> (x1 &&& 31)) &&& (1 : Int32)), μ))
set_option maxHeartbeats 4000000 in
set_option maxRecDepth 100000 in
theorem t_X4_bit {G : z_Gl} {ρ : Nat → Nat → Option Nat} {μ : z_M} {r : Int32} {μr : z_M} {x0 : Int32} {x1 : Int32} (hρ : μ.2.2 = ρ)  (h : f_X4_bit x0 x1 μ = some (r, μr)) : z_Ci G yX4_bit cX4_bit 2 (some .int) 0 [.int x0, .int x1] μ (fun r1 μ1 => r = r1 ∧ μr = μ1) := by
  unfold z_Ci
  refine z_intro (by decide +kernel) (Nat.le_of_ble_eq_true rfl) (fun E hE F Rt => ?_)
  subst hE
  have F : z_F E RX4 cX4_bit 2 0 := F
  rw [hρ] at Rt
  unfold f_X4_bit at h
  show z_J E 2 0 [some (.int x0), some (.int x1)] [] μ
  refine j_iload_n F (pc := 0) (q := 0) (by decide +kernel) rfl ?_
  refine j_iload_n F (pc := 1) (q := 1) (by decide +kernel) rfl ?_
  refine j_ishr F (pc := 2) (by decide +kernel) ?_
  refine j_iconst F (pc := 3) (n := 1) (v := 1) (by decide +kernel) (by decide +kernel) ?_
  refine j_iand F (pc := 4) (by decide +kernel) ?_
  exact j_iret F Rt rfl (by decide +kernel) ⟨hρ, _, rfl, (congrArg Prod.fst (Option.some.inj h)).symm, (congrArg Prod.snd (Option.some.inj h)).symm⟩
def g_X0_followSteps_10 (o : Nat) (k_2 : Int32 → z_M → Option z_M) : Nat → Int32 → Int32 → z_M → Option z_M
  | 0, _, _, _ => none
  | n + 1, x1, x2, μ => (if (8 : Int32) ≤ x2 then (k_2 ((x1 + (1 : Int32))) μ) else (if z_in x2 8 then (z_b2 (f_X4_bit ((μ.1 (o + 3) x2.toNatClampNeg)) (x1) μ) fun r1 μ2 => (if r1 = (1 : Int32) then (if z_in x2 8 then (if z_in x1 8 then (if z_in x2 8 then (z_st (z_si μ2 (o + 3) x2.toNatClampNeg ((μ2.1 (o + 3) x2.toNatClampNeg) ||| (μ2.1 (o + 3) x1.toNatClampNeg))) fun μ8 => (g_X0_followSteps_10 o k_2 n (x1) ((x2 + (1 : Int32))) μ8)) else none) else none) else none) else (g_X0_followSteps_10 o k_2 n (x1) ((x2 + (1 : Int32))) μ2))) else none))
def g_X0_followSteps_2 (o : Nat)  : Nat → Int32 → z_M → Option z_M
  | 0, _, _ => none
  | n + 1, x1, μ => (if (8 : Int32) ≤ x1 then (some μ) else (g_X0_followSteps_10 o (fun (y13 : Int32) (μ11 : z_M) => (g_X0_followSteps_2 o  n (y13) μ11)) z_N (x1) ((0 : Int32)) μ))
def f_X0_followSteps (o : Nat) (μ : z_M) : Option z_M :=
  (g_X0_followSteps_2 o  z_N ((0 : Int32)) μ)
set_option maxHeartbeats 4000000 in
set_option maxRecDepth 100000 in
theorem u_X0_followSteps_10 {E : z_E} {ρ : Nat → Nat → Option Nat} {μr : z_M} (F : z_F E RX0 cX0_followSteps 3 1) (Rt : z_R E none (fun v μ1 => μ1.2.2 = ρ ∧ v = none ∧ μr = μ1)) {o : Nat} (hb : z_blk z_lawS z_lawR (z_sh E.1) ρ o) {k_2 : Int32 → z_M → Option z_M} (hc_2 : ∀ (y1 : Int32) (μ1 : z_M), μ1.2.2 = ρ → k_2 y1 μ1 = some μr → z_J E 3 2 [some (.ref o), some (.int y1), none] [] μ1) : ∀ (n : Nat) (x1 : Int32) (x2 : Int32) (μ : z_M), μ.2.2 = ρ → g_X0_followSteps_10 o k_2 n x1 x2 μ = some μr → z_J E 3 10 [some (.ref o), some (.int x1), some (.int x2)] [] μ := by
  intro n
  induction n with
  | zero =>
    intro x1 x2 μ hρ h
    rw [g_X0_followSteps_10] at h
    cases h
  | succ n ih =>
    intro x1 x2 μ hρ h
    rw [g_X0_followSteps_10] at h
    refine j_iload_n F (pc := 10) (q := 2) (by decide +kernel) rfl ?_
    refine j_bipush F (pc := 11) (n := 8) (v := 8) (by decide +kernel) (by decide +kernel) ?_
    refine j_icmp_ge F (pc := 13) (off := 38) (tgt := 51) (by decide +kernel) (by decide) (fun c => ?_) (fun c => ?_)
    · rw [if_pos c] at h
      refine j_iinc F (pc := 51) (i := 1) (n := 1) (v := 1) (L' := [some (.ref o), some (.int (x1 + (1 : Int32))), some (.int x2)]) (by decide +kernel) rfl (by decide +kernel) (by decide) rfl rfl ?_
      refine j_goto F (pc := 54) (off := -52) (tgt := 2) (by decide +kernel) (by decide) ?_
      refine j_mk F [true, true, false] (L' := [some (.ref o), some (.int (x1 + (1 : Int32))), none]) rfl ?_
      exact hc_2 _ _ hρ h
    · rw [if_neg c] at h
      refine j_aload_n F (pc := 16) (q := 0) (by decide +kernel) rfl ?_
      refine j_getR F (pc := 17) (hb.r hρ 2 rfl) fl_X0_18 (hb.1 0 _ rfl) rfl (by decide +kernel) ?_
      refine j_iload_n F (pc := 20) (q := 2) (by decide +kernel) rfl ?_
      obtain ⟨hg, h⟩ := z_ifs h
      refine j_iald F (pc := 21) (hb.1 3 _ rfl) hg (by decide +kernel) ?_
      refine j_iload_n F (pc := 22) (q := 1) (by decide +kernel) rfl ?_
      obtain ⟨r1, μ2, hc4, h⟩ := z_b2_some h
      refine j_callNi F (pc := 23) (As := [.int (μ.1 (o + 3) x2.toNatClampNeg), .int x1]) (st := []) (t_X4_bit (G := E.1) hρ  hc4) q_X4_bit m_474 (by decide +kernel) rfl (by decide) (Nat.le_of_ble_eq_true rfl) rfl (by decide +kernel) (fun s7 ν5 hq6 hp => ?_)
      obtain ⟨rfl, rfl⟩ := hp
      have hρ3 : μ2.2.2 = ρ := hq6.trans hρ
      refine j_iconst F (pc := 26) (n := 1) (v := 1) (by decide +kernel) (by decide +kernel) ?_
      refine j_icmp_ne F (pc := 27) (off := 18) (tgt := 45) (by decide +kernel) (by decide) (fun c => ?_) (fun c => ?_)
      · rw [if_neg c] at h
        refine j_iinc F (pc := 45) (i := 2) (n := 1) (v := 1) (L' := [some (.ref o), some (.int x1), some (.int (x2 + (1 : Int32)))]) (by decide +kernel) rfl (by decide +kernel) (by decide) rfl rfl ?_
        refine j_goto F (pc := 48) (off := -38) (tgt := 10) (by decide +kernel) (by decide) ?_
        exact ih _ _ _ hρ3 h
      · rw [if_pos c] at h
        refine j_aload_n F (pc := 30) (q := 0) (by decide +kernel) rfl ?_
        refine j_getR F (pc := 31) (hb.r hρ3 2 rfl) fl_X0_18 (hb.1 0 _ rfl) rfl (by decide +kernel) ?_
        refine j_iload_n F (pc := 34) (q := 2) (by decide +kernel) rfl ?_
        refine j_dup2 F (pc := 35) (by decide +kernel) rfl rfl ?_
        obtain ⟨hg, h⟩ := z_ifs h
        refine j_iald F (pc := 36) (hb.1 3 _ rfl) hg (by decide +kernel) ?_
        refine j_aload_n F (pc := 37) (q := 0) (by decide +kernel) rfl ?_
        refine j_getR F (pc := 38) (hb.r hρ3 2 rfl) fl_X0_18 (hb.1 0 _ rfl) rfl (by decide +kernel) ?_
        refine j_iload_n F (pc := 41) (q := 1) (by decide +kernel) rfl ?_
        obtain ⟨hg, h⟩ := z_ifs h
        refine j_iald F (pc := 42) (hb.1 3 _ rfl) hg (by decide +kernel) ?_
        refine j_ior F (pc := 43) (by decide +kernel) ?_
        obtain ⟨hg, h⟩ := z_ifs h
        refine j_iast F (pc := 44) (hb.1 3 _ rfl) hg (by decide +kernel) ?_
        obtain ⟨μ8, e10, h⟩ := z_st_some h
        rw [← e10]
        have hρ9 : μ8.2.2 = ρ := by rw [e10]; exact hρ3
        refine j_iinc F (pc := 45) (i := 2) (n := 1) (v := 1) (L' := [some (.ref o), some (.int x1), some (.int (x2 + (1 : Int32)))]) (by decide +kernel) rfl (by decide +kernel) (by decide) rfl rfl ?_
        refine j_goto F (pc := 48) (off := -38) (tgt := 10) (by decide +kernel) (by decide) ?_
        exact ih _ _ _ hρ9 h
set_option maxHeartbeats 4000000 in
set_option maxRecDepth 100000 in
theorem u_X0_followSteps_2 {E : z_E} {ρ : Nat → Nat → Option Nat} {μr : z_M} (F : z_F E RX0 cX0_followSteps 3 1) (Rt : z_R E none (fun v μ1 => μ1.2.2 = ρ ∧ v = none ∧ μr = μ1)) {o : Nat} (hb : z_blk z_lawS z_lawR (z_sh E.1) ρ o) : ∀ (n : Nat) (x1 : Int32) (μ : z_M), μ.2.2 = ρ → g_X0_followSteps_2 o  n x1 μ = some μr → z_J E 3 2 [some (.ref o), some (.int x1), none] [] μ := by
  intro n
  induction n with
  | zero =>
    intro x1 μ hρ h
    rw [g_X0_followSteps_2] at h
    cases h
  | succ n ih =>
    intro x1 μ hρ h
    rw [g_X0_followSteps_2] at h
    refine j_iload_n F (pc := 2) (q := 1) (by decide +kernel) rfl ?_
    refine j_bipush F (pc := 3) (n := 8) (v := 8) (by decide +kernel) (by decide +kernel) ?_
    refine j_icmp_ge F (pc := 5) (off := 52) (tgt := 57) (by decide +kernel) (by decide) (fun c => ?_) (fun c => ?_)
    · rw [if_pos c] at h
      exact j_vret F Rt (by decide +kernel) ⟨hρ, rfl, (Option.some.inj h).symm⟩
    · rw [if_neg c] at h
      refine j_iconst F (pc := 8) (n := 0) (v := 0) (by decide +kernel) (by decide +kernel) ?_
      refine j_istore_n F (pc := 9) (q := 2) (L' := [some (.ref o), some (.int x1), some (.int (0 : Int32))]) (by decide +kernel) (by decide) rfl rfl ?_
      refine u_X0_followSteps_10 F Rt hb (fun y13 μ11 hρ12 h => ?_) z_N _ _ _ hρ h
      exact ih _ _ hρ12 h
set_option maxHeartbeats 4000000 in
set_option maxRecDepth 100000 in
theorem t_X0_followSteps {G : z_Gl} {ρ : Nat → Nat → Option Nat} {μ : z_M} {μr : z_M} {o : Nat} (hρ : μ.2.2 = ρ) (hb : z_blk z_lawS z_lawR (z_sh G) ρ o) (h : f_X0_followSteps o μ = some μr) : z_Cv G yX0_followSteps cX0_followSteps 3 none 1 [.ref o] μ (fun μ1 => μr = μ1) := by
  unfold z_Cv
  refine z_intro (by decide +kernel) (Nat.le_of_ble_eq_true rfl) (fun E hE F Rt => ?_)
  subst hE
  have F : z_F E RX0 cX0_followSteps 3 1 := F
  rw [hρ] at Rt
  unfold f_X0_followSteps at h
  show z_J E 3 0 [some (.ref o), none, none] [] μ
  refine j_iconst F (pc := 0) (n := 0) (v := 0) (by decide +kernel) (by decide +kernel) ?_
  refine j_istore_n F (pc := 1) (q := 1) (L' := [some (.ref o), some (.int (0 : Int32)), none]) (by decide +kernel) (by decide) rfl rfl ?_
  refine u_X0_followSteps_2 F Rt hb  z_N _ _ hρ h
def g_X0_raiseRanks_10 (o : Nat) (k_2 : Int32 → z_M → Option z_M) : Nat → Int32 → Int32 → z_M → Option z_M
  | 0, _, _, _ => none
  | n + 1, x1, x2, μ => (if (8 : Int32) ≤ x2 then (k_2 ((x1 + (1 : Int32))) μ) else (if z_in x2 8 then (z_b2 (f_X4_bit ((μ.1 (o + 3) x2.toNatClampNeg)) (x1) μ) fun r1 μ2 => (if r1 = (1 : Int32) then (if z_in x1 8 then (z_b2 (f_X4_bit ((μ2.1 (o + 3) x1.toNatClampNeg)) (x2) μ2) fun r8 μ9 => (if r8 = 0 then (if z_in x1 8 then (if z_in x2 8 then (if z_in x1 8 then (z_st (z_si μ9 (o + 4) x1.toNatClampNeg (if (μ9.1 (o + 4) x1.toNatClampNeg) < ((μ9.1 (o + 4) x2.toNatClampNeg) + (1 : Int32)) then ((μ9.1 (o + 4) x2.toNatClampNeg) + (1 : Int32)) else (μ9.1 (o + 4) x1.toNatClampNeg))) fun μ15 => (g_X0_raiseRanks_10 o k_2 n (x1) ((x2 + (1 : Int32))) μ15)) else none) else none) else none) else (g_X0_raiseRanks_10 o k_2 n (x1) ((x2 + (1 : Int32))) μ9))) else none) else (g_X0_raiseRanks_10 o k_2 n (x1) ((x2 + (1 : Int32))) μ2))) else none))
def g_X0_raiseRanks_2 (o : Nat)  : Nat → Int32 → z_M → Option z_M
  | 0, _, _ => none
  | n + 1, x1, μ => (if (8 : Int32) ≤ x1 then (some μ) else (g_X0_raiseRanks_10 o (fun (y20 : Int32) (μ18 : z_M) => (g_X0_raiseRanks_2 o  n (y20) μ18)) z_N (x1) ((0 : Int32)) μ))
def f_X0_raiseRanks (o : Nat) (μ : z_M) : Option z_M :=
  (g_X0_raiseRanks_2 o  z_N ((0 : Int32)) μ)
set_option maxHeartbeats 4000000 in
set_option maxRecDepth 100000 in
theorem u_X0_raiseRanks_10 {E : z_E} {ρ : Nat → Nat → Option Nat} {μr : z_M} (F : z_F E RX0 cX0_raiseRanks 3 1) (Rt : z_R E none (fun v μ1 => μ1.2.2 = ρ ∧ v = none ∧ μr = μ1)) {o : Nat} (hb : z_blk z_lawS z_lawR (z_sh E.1) ρ o) {k_2 : Int32 → z_M → Option z_M} (hc_2 : ∀ (y1 : Int32) (μ1 : z_M), μ1.2.2 = ρ → k_2 y1 μ1 = some μr → z_J E 3 2 [some (.ref o), some (.int y1), none] [] μ1) : ∀ (n : Nat) (x1 : Int32) (x2 : Int32) (μ : z_M), μ.2.2 = ρ → g_X0_raiseRanks_10 o k_2 n x1 x2 μ = some μr → z_J E 3 10 [some (.ref o), some (.int x1), some (.int x2)] [] μ := by
  intro n
  induction n with
  | zero =>
    intro x1 x2 μ hρ h
    rw [g_X0_raiseRanks_10] at h
    cases h
  | succ n ih =>
    intro x1 x2 μ hρ h
    rw [g_X0_raiseRanks_10] at h
    refine j_iload_n F (pc := 10) (q := 2) (by decide +kernel) rfl ?_
    refine j_bipush F (pc := 11) (n := 8) (v := 8) (by decide +kernel) (by decide +kernel) ?_
    refine j_icmp_ge F (pc := 13) (off := 59) (tgt := 72) (by decide +kernel) (by decide) (fun c => ?_) (fun c => ?_)
    · rw [if_pos c] at h
      refine j_iinc F (pc := 72) (i := 1) (n := 1) (v := 1) (L' := [some (.ref o), some (.int (x1 + (1 : Int32))), some (.int x2)]) (by decide +kernel) rfl (by decide +kernel) (by decide) rfl rfl ?_
      refine j_goto F (pc := 75) (off := -73) (tgt := 2) (by decide +kernel) (by decide) ?_
      refine j_mk F [true, true, false] (L' := [some (.ref o), some (.int (x1 + (1 : Int32))), none]) rfl ?_
      exact hc_2 _ _ hρ h
    · rw [if_neg c] at h
      refine j_aload_n F (pc := 16) (q := 0) (by decide +kernel) rfl ?_
      refine j_getR F (pc := 17) (hb.r hρ 2 rfl) fl_X0_18 (hb.1 0 _ rfl) rfl (by decide +kernel) ?_
      refine j_iload_n F (pc := 20) (q := 2) (by decide +kernel) rfl ?_
      obtain ⟨hg, h⟩ := z_ifs h
      refine j_iald F (pc := 21) (hb.1 3 _ rfl) hg (by decide +kernel) ?_
      refine j_iload_n F (pc := 22) (q := 1) (by decide +kernel) rfl ?_
      obtain ⟨r1, μ2, hc4, h⟩ := z_b2_some h
      refine j_callNi F (pc := 23) (As := [.int (μ.1 (o + 3) x2.toNatClampNeg), .int x1]) (st := []) (t_X4_bit (G := E.1) hρ  hc4) q_X4_bit m_474 (by decide +kernel) rfl (by decide) (Nat.le_of_ble_eq_true rfl) rfl (by decide +kernel) (fun s7 ν5 hq6 hp => ?_)
      obtain ⟨rfl, rfl⟩ := hp
      have hρ3 : μ2.2.2 = ρ := hq6.trans hρ
      refine j_iconst F (pc := 26) (n := 1) (v := 1) (by decide +kernel) (by decide +kernel) ?_
      refine j_icmp_ne F (pc := 27) (off := 39) (tgt := 66) (by decide +kernel) (by decide) (fun c => ?_) (fun c => ?_)
      · rw [if_neg c] at h
        refine j_iinc F (pc := 66) (i := 2) (n := 1) (v := 1) (L' := [some (.ref o), some (.int x1), some (.int (x2 + (1 : Int32)))]) (by decide +kernel) rfl (by decide +kernel) (by decide) rfl rfl ?_
        refine j_goto F (pc := 69) (off := -59) (tgt := 10) (by decide +kernel) (by decide) ?_
        exact ih _ _ _ hρ3 h
      · rw [if_pos c] at h
        refine j_aload_n F (pc := 30) (q := 0) (by decide +kernel) rfl ?_
        refine j_getR F (pc := 31) (hb.r hρ3 2 rfl) fl_X0_18 (hb.1 0 _ rfl) rfl (by decide +kernel) ?_
        refine j_iload_n F (pc := 34) (q := 1) (by decide +kernel) rfl ?_
        obtain ⟨hg, h⟩ := z_ifs h
        refine j_iald F (pc := 35) (hb.1 3 _ rfl) hg (by decide +kernel) ?_
        refine j_iload_n F (pc := 36) (q := 2) (by decide +kernel) rfl ?_
        obtain ⟨r8, μ9, hc11, h⟩ := z_b2_some h
        refine j_callNi F (pc := 37) (As := [.int (μ2.1 (o + 3) x1.toNatClampNeg), .int x2]) (st := []) (t_X4_bit (G := E.1) hρ3  hc11) q_X4_bit m_474 (by decide +kernel) rfl (by decide) (Nat.le_of_ble_eq_true rfl) rfl (by decide +kernel) (fun s14 ν12 hq13 hp => ?_)
        obtain ⟨rfl, rfl⟩ := hp
        have hρ10 : μ9.2.2 = ρ := hq13.trans hρ3
        refine j_if_ne F (pc := 40) (off := 26) (tgt := 66) (by decide +kernel) (by decide) (fun c => ?_) (fun c => ?_)
        · rw [if_neg c] at h
          refine j_iinc F (pc := 66) (i := 2) (n := 1) (v := 1) (L' := [some (.ref o), some (.int x1), some (.int (x2 + (1 : Int32)))]) (by decide +kernel) rfl (by decide +kernel) (by decide) rfl rfl ?_
          refine j_goto F (pc := 69) (off := -59) (tgt := 10) (by decide +kernel) (by decide) ?_
          exact ih _ _ _ hρ10 h
        · rw [if_pos c] at h
          refine j_aload_n F (pc := 43) (q := 0) (by decide +kernel) rfl ?_
          refine j_getR F (pc := 44) (hb.r hρ10 3 rfl) fl_X0_21 (hb.1 0 _ rfl) rfl (by decide +kernel) ?_
          refine j_iload_n F (pc := 47) (q := 1) (by decide +kernel) rfl ?_
          refine j_aload_n F (pc := 48) (q := 0) (by decide +kernel) rfl ?_
          refine j_getR F (pc := 49) (hb.r hρ10 3 rfl) fl_X0_21 (hb.1 0 _ rfl) rfl (by decide +kernel) ?_
          refine j_iload_n F (pc := 52) (q := 1) (by decide +kernel) rfl ?_
          obtain ⟨hg, h⟩ := z_ifs h
          refine j_iald F (pc := 53) (hb.1 4 _ rfl) hg (by decide +kernel) ?_
          refine j_aload_n F (pc := 54) (q := 0) (by decide +kernel) rfl ?_
          refine j_getR F (pc := 55) (hb.r hρ10 3 rfl) fl_X0_21 (hb.1 0 _ rfl) rfl (by decide +kernel) ?_
          refine j_iload_n F (pc := 58) (q := 2) (by decide +kernel) rfl ?_
          obtain ⟨hg, h⟩ := z_ifs h
          refine j_iald F (pc := 59) (hb.1 4 _ rfl) hg (by decide +kernel) ?_
          refine j_iconst F (pc := 60) (n := 1) (v := 1) (by decide +kernel) (by decide +kernel) ?_
          refine j_iadd F (pc := 61) (by decide +kernel) ?_
          refine j_mmax F (pc := 62) ⟨m_551, m_552, m_88, m_553⟩ (by decide) (Nat.le_of_ble_eq_true rfl) (by decide +kernel) ?_
          obtain ⟨hg, h⟩ := z_ifs h
          refine j_iast F (pc := 65) (hb.1 4 _ rfl) hg (by decide +kernel) ?_
          obtain ⟨μ15, e17, h⟩ := z_st_some h
          rw [← e17]
          have hρ16 : μ15.2.2 = ρ := by rw [e17]; exact hρ10
          refine j_iinc F (pc := 66) (i := 2) (n := 1) (v := 1) (L' := [some (.ref o), some (.int x1), some (.int (x2 + (1 : Int32)))]) (by decide +kernel) rfl (by decide +kernel) (by decide) rfl rfl ?_
          refine j_goto F (pc := 69) (off := -59) (tgt := 10) (by decide +kernel) (by decide) ?_
          exact ih _ _ _ hρ16 h
set_option maxHeartbeats 4000000 in
set_option maxRecDepth 100000 in
theorem u_X0_raiseRanks_2 {E : z_E} {ρ : Nat → Nat → Option Nat} {μr : z_M} (F : z_F E RX0 cX0_raiseRanks 3 1) (Rt : z_R E none (fun v μ1 => μ1.2.2 = ρ ∧ v = none ∧ μr = μ1)) {o : Nat} (hb : z_blk z_lawS z_lawR (z_sh E.1) ρ o) : ∀ (n : Nat) (x1 : Int32) (μ : z_M), μ.2.2 = ρ → g_X0_raiseRanks_2 o  n x1 μ = some μr → z_J E 3 2 [some (.ref o), some (.int x1), none] [] μ := by
  intro n
  induction n with
  | zero =>
    intro x1 μ hρ h
    rw [g_X0_raiseRanks_2] at h
    cases h
  | succ n ih =>
    intro x1 μ hρ h
    rw [g_X0_raiseRanks_2] at h
    refine j_iload_n F (pc := 2) (q := 1) (by decide +kernel) rfl ?_
    refine j_bipush F (pc := 3) (n := 8) (v := 8) (by decide +kernel) (by decide +kernel) ?_
    refine j_icmp_ge F (pc := 5) (off := 73) (tgt := 78) (by decide +kernel) (by decide) (fun c => ?_) (fun c => ?_)
    · rw [if_pos c] at h
      exact j_vret F Rt (by decide +kernel) ⟨hρ, rfl, (Option.some.inj h).symm⟩
    · rw [if_neg c] at h
      refine j_iconst F (pc := 8) (n := 0) (v := 0) (by decide +kernel) (by decide +kernel) ?_
      refine j_istore_n F (pc := 9) (q := 2) (L' := [some (.ref o), some (.int x1), some (.int (0 : Int32))]) (by decide +kernel) (by decide) rfl rfl ?_
      refine u_X0_raiseRanks_10 F Rt hb (fun y20 μ18 hρ19 h => ?_) z_N _ _ _ hρ h
      exact ih _ _ hρ19 h
set_option maxHeartbeats 4000000 in
set_option maxRecDepth 100000 in
theorem t_X0_raiseRanks {G : z_Gl} {ρ : Nat → Nat → Option Nat} {μ : z_M} {μr : z_M} {o : Nat} (hρ : μ.2.2 = ρ) (hb : z_blk z_lawS z_lawR (z_sh G) ρ o) (h : f_X0_raiseRanks o μ = some μr) : z_Cv G yX0_raiseRanks cX0_raiseRanks 3 none 1 [.ref o] μ (fun μ1 => μr = μ1) := by
  unfold z_Cv
  refine z_intro (by decide +kernel) (Nat.le_of_ble_eq_true rfl) (fun E hE F Rt => ?_)
  subst hE
  have F : z_F E RX0 cX0_raiseRanks 3 1 := F
  rw [hρ] at Rt
  unfold f_X0_raiseRanks at h
  show z_J E 3 0 [some (.ref o), none, none] [] μ
  refine j_iconst F (pc := 0) (n := 0) (v := 0) (by decide +kernel) (by decide +kernel) ?_
  refine j_istore_n F (pc := 1) (q := 1) (L' := [some (.ref o), some (.int (0 : Int32)), none]) (by decide +kernel) (by decide) rfl rfl ?_
  refine u_X0_raiseRanks_2 F Rt hb  z_N _ _ hρ h
def g_X0_settle_41 (o : Nat)  : Nat → Int32 → z_M → Option z_M
  | 0, _, _ => none
  | n + 1, x1, μ => (if (8 : Int32) ≤ x1 then (some μ) else (z_b1 (f_X0_raiseRanks (o) μ) fun μ8 => (g_X0_settle_41 o  n ((x1 + (1 : Int32))) μ8)))
def g_X0_settle_6 (o : Nat)  : Nat → Int32 → z_M → Option z_M
  | 0, _, _ => none
  | n + 1, x1, μ => (if (8 : Int32) ≤ x1 then (g_X0_settle_41 o  z_N ((0 : Int32)) μ) else (if z_in x1 8 then (z_b2 (f_X4_bit ((μ.1 (o + 3) x1.toNatClampNeg)) (x1) μ) fun r13 μ14 => (z_st (z_si μ14 o 7 ((μ.1 o 7) ||| (r13 <<< (x1 &&& 31)))) fun μ20 => (g_X0_settle_6 o  n ((x1 + (1 : Int32))) μ20))) else none))
def f_X0_settle (o : Nat) (μ : z_M) : Option z_M :=
  (z_b1 (f_X0_followSteps (o) μ) fun μ2 => (g_X0_settle_6 o  z_N ((0 : Int32)) μ2))
set_option maxHeartbeats 4000000 in
set_option maxRecDepth 100000 in
theorem u_X0_settle_41 {E : z_E} {ρ : Nat → Nat → Option Nat} {μr : z_M} (F : z_F E RX0 cX0_settle 2 2) (Rt : z_R E none (fun v μ1 => μ1.2.2 = ρ ∧ v = none ∧ μr = μ1)) {o : Nat} (hb : z_blk z_lawS z_lawR (z_sh E.1) ρ o) : ∀ (n : Nat) (x1 : Int32) (μ : z_M), μ.2.2 = ρ → g_X0_settle_41 o  n x1 μ = some μr → z_J E 2 41 [some (.ref o), some (.int x1)] [] μ := by
  intro n
  induction n with
  | zero =>
    intro x1 μ hρ h
    rw [g_X0_settle_41] at h
    cases h
  | succ n ih =>
    intro x1 μ hρ h
    rw [g_X0_settle_41] at h
    refine j_iload_n F (pc := 41) (q := 1) (by decide +kernel) rfl ?_
    refine j_bipush F (pc := 42) (n := 8) (v := 8) (by decide +kernel) (by decide +kernel) ?_
    refine j_icmp_ge F (pc := 44) (off := 13) (tgt := 57) (by decide +kernel) (by decide) (fun c => ?_) (fun c => ?_)
    · rw [if_pos c] at h
      exact j_vret F Rt (by decide +kernel) ⟨hρ, rfl, (Option.some.inj h).symm⟩
    · rw [if_neg c] at h
      refine j_aload_n F (pc := 47) (q := 0) (by decide +kernel) rfl ?_
      obtain ⟨μ8, hc10, h⟩ := z_b1_some h
      refine j_callVv F (pc := 48) (As := []) (st := []) (t_X0_raiseRanks (G := E.1) hρ hb hc10) q_X0_raiseRanks v_X0_raiseRanks m_547 (hb.1 0 _ rfl) rfl rfl (by decide) (Nat.le_of_ble_eq_true rfl) rfl (by decide +kernel) (fun ν11 hq12 hp => ?_)
      subst hp
      have hρ9 : μ8.2.2 = ρ := hq12.trans hρ
      refine j_iinc F (pc := 51) (i := 1) (n := 1) (v := 1) (L' := [some (.ref o), some (.int (x1 + (1 : Int32)))]) (by decide +kernel) rfl (by decide +kernel) (by decide) rfl rfl ?_
      refine j_goto F (pc := 54) (off := -13) (tgt := 41) (by decide +kernel) (by decide) ?_
      exact ih _ _ hρ9 h
set_option maxHeartbeats 4000000 in
set_option maxRecDepth 100000 in
theorem u_X0_settle_6 {E : z_E} {ρ : Nat → Nat → Option Nat} {μr : z_M} (F : z_F E RX0 cX0_settle 2 2) (Rt : z_R E none (fun v μ1 => μ1.2.2 = ρ ∧ v = none ∧ μr = μ1)) {o : Nat} (hb : z_blk z_lawS z_lawR (z_sh E.1) ρ o) : ∀ (n : Nat) (x1 : Int32) (μ : z_M), μ.2.2 = ρ → g_X0_settle_6 o  n x1 μ = some μr → z_J E 2 6 [some (.ref o), some (.int x1)] [] μ := by
  intro n
  induction n with
  | zero =>
    intro x1 μ hρ h
    rw [g_X0_settle_6] at h
    cases h
  | succ n ih =>
    intro x1 μ hρ h
    rw [g_X0_settle_6] at h
    refine j_iload_n F (pc := 6) (q := 1) (by decide +kernel) rfl ?_
    refine j_bipush F (pc := 7) (n := 8) (v := 8) (by decide +kernel) (by decide +kernel) ?_
    refine j_icmp_ge F (pc := 9) (off := 30) (tgt := 39) (by decide +kernel) (by decide) (fun c => ?_) (fun c => ?_)
    · rw [if_pos c] at h
      refine j_iconst F (pc := 39) (n := 0) (v := 0) (by decide +kernel) (by decide +kernel) ?_
      refine j_istore_n F (pc := 40) (q := 1) (L' := [some (.ref o), some (.int (0 : Int32))]) (by decide +kernel) (by decide) rfl rfl ?_
      refine u_X0_settle_41 F Rt hb  z_N _ _ hρ h
    · rw [if_neg c] at h
      refine j_aload_n F (pc := 12) (q := 0) (by decide +kernel) rfl ?_
      refine j_dup F (pc := 13) (by decide +kernel) rfl ?_
      refine j_getI F (pc := 14) fl_X0_37 (hb.1 0 _ rfl) rfl (by decide +kernel) ?_
      refine j_aload_n F (pc := 17) (q := 0) (by decide +kernel) rfl ?_
      refine j_getR F (pc := 18) (hb.r hρ 2 rfl) fl_X0_18 (hb.1 0 _ rfl) rfl (by decide +kernel) ?_
      refine j_iload_n F (pc := 21) (q := 1) (by decide +kernel) rfl ?_
      obtain ⟨hg, h⟩ := z_ifs h
      refine j_iald F (pc := 22) (hb.1 3 _ rfl) hg (by decide +kernel) ?_
      refine j_iload_n F (pc := 23) (q := 1) (by decide +kernel) rfl ?_
      obtain ⟨r13, μ14, hc16, h⟩ := z_b2_some h
      refine j_callNi F (pc := 24) (As := [.int (μ.1 (o + 3) x1.toNatClampNeg), .int x1]) (st := [.int (μ.1 o 7), .ref o]) (t_X4_bit (G := E.1) hρ  hc16) q_X4_bit m_474 (by decide +kernel) rfl (by decide) (Nat.le_of_ble_eq_true rfl) rfl (by decide +kernel) (fun s19 ν17 hq18 hp => ?_)
      obtain ⟨rfl, rfl⟩ := hp
      have hρ15 : μ14.2.2 = ρ := hq18.trans hρ
      refine j_iload_n F (pc := 27) (q := 1) (by decide +kernel) rfl ?_
      refine j_ishl F (pc := 28) (by decide +kernel) ?_
      refine j_ior F (pc := 29) (by decide +kernel) ?_
      refine j_putI F (pc := 30) fl_X0_37 fp_X0_7 (hb.1 0 _ rfl) rfl (by decide +kernel) ?_
      obtain ⟨μ20, e22, h⟩ := z_st_some h
      rw [← e22]
      have hρ21 : μ20.2.2 = ρ := by rw [e22]; exact hρ15
      refine j_iinc F (pc := 33) (i := 1) (n := 1) (v := 1) (L' := [some (.ref o), some (.int (x1 + (1 : Int32)))]) (by decide +kernel) rfl (by decide +kernel) (by decide) rfl rfl ?_
      refine j_goto F (pc := 36) (off := -30) (tgt := 6) (by decide +kernel) (by decide) ?_
      exact ih _ _ hρ21 h
set_option maxHeartbeats 4000000 in
set_option maxRecDepth 100000 in
theorem t_X0_settle {G : z_Gl} {ρ : Nat → Nat → Option Nat} {μ : z_M} {μr : z_M} {o : Nat} (hρ : μ.2.2 = ρ) (hb : z_blk z_lawS z_lawR (z_sh G) ρ o) (h : f_X0_settle o μ = some μr) : z_Cv G yX0_settle cX0_settle 2 none 2 [.ref o] μ (fun μ1 => μr = μ1) := by
  unfold z_Cv
  refine z_intro (by decide +kernel) (Nat.le_of_ble_eq_true rfl) (fun E hE F Rt => ?_)
  subst hE
  have F : z_F E RX0 cX0_settle 2 2 := F
  rw [hρ] at Rt
  unfold f_X0_settle at h
  show z_J E 2 0 [some (.ref o), none] [] μ
  refine j_aload_n F (pc := 0) (q := 0) (by decide +kernel) rfl ?_
  obtain ⟨μ2, hc4, h⟩ := z_b1_some h
  refine j_callVv F (pc := 1) (As := []) (st := []) (t_X0_followSteps (G := E.1) hρ hb hc4) q_X0_followSteps v_X0_followSteps m_542 (hb.1 0 _ rfl) rfl rfl (by decide) (Nat.le_of_ble_eq_true rfl) rfl (by decide +kernel) (fun ν5 hq6 hp => ?_)
  subst hp
  have hρ3 : μ2.2.2 = ρ := hq6.trans hρ
  refine j_iconst F (pc := 4) (n := 0) (v := 0) (by decide +kernel) (by decide +kernel) ?_
  refine j_istore_n F (pc := 5) (q := 1) (L' := [some (.ref o), some (.int (0 : Int32))]) (by decide +kernel) (by decide) rfl rfl ?_
  refine u_X0_settle_6 F Rt hb  z_N _ _ hρ3 h
/-- LastLent.isKind -/
def f_X4_isKind (x0 : Int32) (μ : z_M) : Option (Int32 × z_M) :=
  (some ((if x0 < 0 then (0 : Int32) else (if (8 : Int32) ≤ x0 then (0 : Int32) else (1 : Int32))), μ))
set_option maxHeartbeats 4000000 in
set_option maxRecDepth 100000 in
theorem t_X4_isKind {G : z_Gl} {ρ : Nat → Nat → Option Nat} {μ : z_M} {r : Int32} {μr : z_M} {x0 : Int32} (hρ : μ.2.2 = ρ)  (h : f_X4_isKind x0 μ = some (r, μr)) : z_Ci G yX4_isKind cX4_isKind 1 (some .boolean) 0 [.int x0] μ (fun r1 μ1 => r = r1 ∧ μr = μ1) := by
  unfold z_Ci
  refine z_intro (by decide +kernel) (Nat.le_of_ble_eq_true rfl) (fun E hE F Rt => ?_)
  subst hE
  have F : z_F E RX4 cX4_isKind 1 0 := F
  rw [hρ] at Rt
  unfold f_X4_isKind at h
  show z_J E 1 0 [some (.int x0)] [] μ
  refine j_iload_n F (pc := 0) (q := 0) (by decide +kernel) rfl ?_
  suffices hj : z_J E 1 15 [some (.int x0)] (.int (if x0 < 0 then (0 : Int32) else (if (8 : Int32) ≤ x0 then (0 : Int32) else (1 : Int32))) :: []) μ by
    refine j_if_lt F (pc := 1) (off := 13) (tgt := 14) (by decide +kernel) (by decide) (fun c0 => ?_) (fun c0 => ?_)
    · rw [if_pos c0] at hj
      refine j_iconst F (pc := 14) (n := 0) (v := 0) (by decide +kernel) (by decide +kernel) ?_
      exact hj
    · rw [if_neg c0] at hj
      refine j_iload_n F (pc := 4) (q := 0) (by decide +kernel) rfl ?_
      refine j_bipush F (pc := 5) (n := 8) (v := 8) (by decide +kernel) (by decide +kernel) ?_
      refine j_icmp_ge F (pc := 7) (off := 7) (tgt := 14) (by decide +kernel) (by decide) (fun c1 => ?_) (fun c1 => ?_)
      · rw [if_pos c1] at hj
        refine j_iconst F (pc := 14) (n := 0) (v := 0) (by decide +kernel) (by decide +kernel) ?_
        exact hj
      · rw [if_neg c1] at hj
        refine j_iconst F (pc := 10) (n := 1) (v := 1) (by decide +kernel) (by decide +kernel) ?_
        refine j_goto F (pc := 11) (off := 4) (tgt := 15) (by decide +kernel) (by decide) ?_
        exact hj
  exact j_iret F Rt (z_nb (by repeat' (first | exact Or.inl rfl | exact Or.inr rfl | split))) (by decide +kernel) ⟨hρ, _, rfl, (congrArg Prod.fst (Option.some.inj h)).symm, (congrArg Prod.snd (Option.some.inj h)).symm⟩
/-- LastLent.isDay -/
def f_X4_isDay (x0 : Int32) (μ : z_M) : Option (Int32 × z_M) :=
  (some ((if x0 < 0 then (0 : Int32) else (if (999 : Int32) < x0 then (0 : Int32) else (1 : Int32))), μ))
set_option maxHeartbeats 4000000 in
set_option maxRecDepth 100000 in
theorem t_X4_isDay {G : z_Gl} {ρ : Nat → Nat → Option Nat} {μ : z_M} {r : Int32} {μr : z_M} {x0 : Int32} (hρ : μ.2.2 = ρ)  (h : f_X4_isDay x0 μ = some (r, μr)) : z_Ci G yX4_isDay cX4_isDay 1 (some .boolean) 0 [.int x0] μ (fun r1 μ1 => r = r1 ∧ μr = μ1) := by
  unfold z_Ci
  refine z_intro (by decide +kernel) (Nat.le_of_ble_eq_true rfl) (fun E hE F Rt => ?_)
  subst hE
  have F : z_F E RX4 cX4_isDay 1 0 := F
  rw [hρ] at Rt
  unfold f_X4_isDay at h
  show z_J E 1 0 [some (.int x0)] [] μ
  refine j_iload_n F (pc := 0) (q := 0) (by decide +kernel) rfl ?_
  suffices hj : z_J E 1 16 [some (.int x0)] (.int (if x0 < 0 then (0 : Int32) else (if (999 : Int32) < x0 then (0 : Int32) else (1 : Int32))) :: []) μ by
    refine j_if_lt F (pc := 1) (off := 14) (tgt := 15) (by decide +kernel) (by decide) (fun c0 => ?_) (fun c0 => ?_)
    · rw [if_pos c0] at hj
      refine j_iconst F (pc := 15) (n := 0) (v := 0) (by decide +kernel) (by decide +kernel) ?_
      exact hj
    · rw [if_neg c0] at hj
      refine j_iload_n F (pc := 4) (q := 0) (by decide +kernel) rfl ?_
      refine j_sipush F (pc := 5) (n := 999) (v := 999) (by decide +kernel) (by decide +kernel) ?_
      refine j_icmp_gt F (pc := 8) (off := 7) (tgt := 15) (by decide +kernel) (by decide) (fun c1 => ?_) (fun c1 => ?_)
      · rw [if_pos c1] at hj
        refine j_iconst F (pc := 15) (n := 0) (v := 0) (by decide +kernel) (by decide +kernel) ?_
        exact hj
      · rw [if_neg c1] at hj
        refine j_iconst F (pc := 11) (n := 1) (v := 1) (by decide +kernel) (by decide +kernel) ?_
        refine j_goto F (pc := 12) (off := 4) (tgt := 16) (by decide +kernel) (by decide) ?_
        exact hj
  exact j_iret F Rt (z_nb (by repeat' (first | exact Or.inl rfl | exact Or.inr rfl | split))) (by decide +kernel) ⟨hρ, _, rfl, (congrArg Prod.fst (Option.some.inj h)).symm, (congrArg Prod.snd (Option.some.inj h)).symm⟩
/-- LastLent$Ship.lastEnd -/
def f_X3_lastEnd (o : Nat) (μ : z_M) : Option (Int32 × z_M) :=
  (if (¬ ((μ.1 o 0) ≤ 0) → z_in ((μ.1 o 0) - (1 : Int32)) 6) then (some ((if (μ.1 o 0) ≤ 0 then (-1 : Int32) else (μ.1 (o + 2) ((μ.1 o 0) - (1 : Int32)).toNatClampNeg)), μ)) else none)
set_option maxHeartbeats 4000000 in
set_option maxRecDepth 100000 in
theorem t_X3_lastEnd {G : z_Gl} {ρ : Nat → Nat → Option Nat} {μ : z_M} {r : Int32} {μr : z_M} {o : Nat} (hρ : μ.2.2 = ρ) (hb : z_blk z_shipS z_shipR (z_sh G) ρ o) (h : f_X3_lastEnd o μ = some (r, μr)) : z_Ci G yX3_lastEnd cX3_lastEnd 1 (some .int) 0 [.ref o] μ (fun r1 μ1 => r = r1 ∧ μr = μ1) := by
  unfold z_Ci
  refine z_intro (by decide +kernel) (Nat.le_of_ble_eq_true rfl) (fun E hE F Rt => ?_)
  subst hE
  have F : z_F E RX3 cX3_lastEnd 1 0 := F
  rw [hρ] at Rt
  unfold f_X3_lastEnd at h
  show z_J E 1 0 [some (.ref o)] [] μ
  refine j_aload_n F (pc := 0) (q := 0) (by decide +kernel) rfl ?_
  refine j_getI F (pc := 1) fl_X3_42 (hb.1 0 _ rfl) rfl (by decide +kernel) ?_
  obtain ⟨hg, h⟩ := z_ifs h
  suffices hj : z_J E 1 22 [some (.ref o)] (.int (if (μ.1 o 0) ≤ 0 then (-1 : Int32) else (μ.1 (o + 2) ((μ.1 o 0) - (1 : Int32)).toNatClampNeg)) :: []) μ by
    refine j_if_le F (pc := 4) (off := 17) (tgt := 21) (by decide +kernel) (by decide) (fun c0 => ?_) (fun c0 => ?_)
    · rw [if_pos c0] at hj
      refine j_iconst F (pc := 21) (n := -1) (v := -1) (by decide +kernel) (by decide +kernel) ?_
      exact hj
    · rw [if_neg c0] at hj
      refine j_aload_n F (pc := 7) (q := 0) (by decide +kernel) rfl ?_
      refine j_getR F (pc := 8) (hb.r hρ 4 rfl) fl_X3_15 (hb.1 0 _ rfl) rfl (by decide +kernel) ?_
      refine j_aload_n F (pc := 11) (q := 0) (by decide +kernel) rfl ?_
      refine j_getI F (pc := 12) fl_X3_42 (hb.1 0 _ rfl) rfl (by decide +kernel) ?_
      refine j_iconst F (pc := 15) (n := 1) (v := 1) (by decide +kernel) (by decide +kernel) ?_
      refine j_isub F (pc := 16) (by decide +kernel) ?_
      refine j_iald F (pc := 17) (hb.1 2 _ rfl) (hg c0) (by decide +kernel) ?_
      refine j_goto F (pc := 18) (off := 4) (tgt := 22) (by decide +kernel) (by decide) ?_
      exact hj
  exact j_iret F Rt rfl (by decide +kernel) ⟨hρ, _, rfl, (congrArg Prod.fst (Option.some.inj h)).symm, (congrArg Prod.snd (Option.some.inj h)).symm⟩
/-- LastLent$Ship.addVoyage -/
def f_X3_addVoyage (o : Nat) (x1 : Int32) (x2 : Int32) (μ : z_M) : Option (Int32 × z_M) :=
  (if (μ.1 o 0) < (6 : Int32) then (if z_in (μ.1 o 0) 6 then (z_st (z_si μ (o + 1) (μ.1 o 0).toNatClampNeg x1) fun μ1 => (if z_in (μ1.1 o 0) 6 then (z_st (z_si μ1 (o + 2) (μ1.1 o 0).toNatClampNeg x2) fun μ4 => (z_st (z_si μ4 o 0 ((μ4.1 o 0) + (1 : Int32))) fun μ7 => (some (((μ7.1 o 0) - (1 : Int32)), μ7)))) else none)) else none) else (some ((-1004 : Int32), μ)))
set_option maxHeartbeats 4000000 in
set_option maxRecDepth 100000 in
theorem t_X3_addVoyage {G : z_Gl} {ρ : Nat → Nat → Option Nat} {μ : z_M} {r : Int32} {μr : z_M} {o : Nat} {x1 : Int32} {x2 : Int32} (hρ : μ.2.2 = ρ) (hb : z_blk z_shipS z_shipR (z_sh G) ρ o) (h : f_X3_addVoyage o x1 x2 μ = some (r, μr)) : z_Ci G yX3_addVoyage cX3_addVoyage 3 (some .int) 0 [.ref o, .int x1, .int x2] μ (fun r1 μ1 => r = r1 ∧ μr = μ1) := by
  unfold z_Ci
  refine z_intro (by decide +kernel) (Nat.le_of_ble_eq_true rfl) (fun E hE F Rt => ?_)
  subst hE
  have F : z_F E RX3 cX3_addVoyage 3 0 := F
  rw [hρ] at Rt
  unfold f_X3_addVoyage at h
  show z_J E 3 0 [some (.ref o), some (.int x1), some (.int x2)] [] μ
  refine j_aload_n F (pc := 0) (q := 0) (by decide +kernel) rfl ?_
  refine j_getI F (pc := 1) fl_X3_42 (hb.1 0 _ rfl) rfl (by decide +kernel) ?_
  refine j_bipush F (pc := 4) (n := 6) (v := 6) (by decide +kernel) (by decide +kernel) ?_
  refine j_icmp_lt F (pc := 6) (off := 7) (tgt := 13) (by decide +kernel) (by decide) (fun c => ?_) (fun c => ?_)
  · rw [if_pos c] at h
    refine j_aload_n F (pc := 13) (q := 0) (by decide +kernel) rfl ?_
    refine j_getR F (pc := 14) (hb.r hρ 3 rfl) fl_X3_9 (hb.1 0 _ rfl) rfl (by decide +kernel) ?_
    refine j_aload_n F (pc := 17) (q := 0) (by decide +kernel) rfl ?_
    refine j_getI F (pc := 18) fl_X3_42 (hb.1 0 _ rfl) rfl (by decide +kernel) ?_
    refine j_iload_n F (pc := 21) (q := 1) (by decide +kernel) rfl ?_
    obtain ⟨hg, h⟩ := z_ifs h
    refine j_iast F (pc := 22) (hb.1 1 _ rfl) hg (by decide +kernel) ?_
    obtain ⟨μ1, e3, h⟩ := z_st_some h
    rw [← e3]
    have hρ2 : μ1.2.2 = ρ := by rw [e3]; exact hρ
    refine j_aload_n F (pc := 23) (q := 0) (by decide +kernel) rfl ?_
    refine j_getR F (pc := 24) (hb.r hρ2 4 rfl) fl_X3_15 (hb.1 0 _ rfl) rfl (by decide +kernel) ?_
    refine j_aload_n F (pc := 27) (q := 0) (by decide +kernel) rfl ?_
    refine j_getI F (pc := 28) fl_X3_42 (hb.1 0 _ rfl) rfl (by decide +kernel) ?_
    refine j_iload_n F (pc := 31) (q := 2) (by decide +kernel) rfl ?_
    obtain ⟨hg, h⟩ := z_ifs h
    refine j_iast F (pc := 32) (hb.1 2 _ rfl) hg (by decide +kernel) ?_
    obtain ⟨μ4, e6, h⟩ := z_st_some h
    rw [← e6]
    have hρ5 : μ4.2.2 = ρ := by rw [e6]; exact hρ2
    refine j_aload_n F (pc := 33) (q := 0) (by decide +kernel) rfl ?_
    refine j_dup F (pc := 34) (by decide +kernel) rfl ?_
    refine j_getI F (pc := 35) fl_X3_42 (hb.1 0 _ rfl) rfl (by decide +kernel) ?_
    refine j_iconst F (pc := 38) (n := 1) (v := 1) (by decide +kernel) (by decide +kernel) ?_
    refine j_iadd F (pc := 39) (by decide +kernel) ?_
    refine j_putI F (pc := 40) fl_X3_42 fp_X3_0 (hb.1 0 _ rfl) rfl (by decide +kernel) ?_
    obtain ⟨μ7, e9, h⟩ := z_st_some h
    rw [← e9]
    have hρ8 : μ7.2.2 = ρ := by rw [e9]; exact hρ5
    refine j_aload_n F (pc := 43) (q := 0) (by decide +kernel) rfl ?_
    refine j_getI F (pc := 44) fl_X3_42 (hb.1 0 _ rfl) rfl (by decide +kernel) ?_
    refine j_iconst F (pc := 47) (n := 1) (v := 1) (by decide +kernel) (by decide +kernel) ?_
    refine j_isub F (pc := 48) (by decide +kernel) ?_
    exact j_iret F Rt rfl (by decide +kernel) ⟨hρ8, _, rfl, (congrArg Prod.fst (Option.some.inj h)).symm, (congrArg Prod.snd (Option.some.inj h)).symm⟩
  · rw [if_neg c] at h
    refine j_sipush F (pc := 9) (n := -1004) (v := -1004) (by decide +kernel) (by decide +kernel) ?_
    exact j_iret F Rt rfl (by decide +kernel) ⟨hρ, _, rfl, (congrArg Prod.fst (Option.some.inj h)).symm, (congrArg Prod.snd (Option.some.inj h)).symm⟩
/-- LastLent.isHolder -/
def f_X4_isHolder (x0 : Int32) (μ : z_M) : Option (Int32 × z_M) :=
  (some ((if x0 < 0 then (0 : Int32) else (if (6 : Int32) ≤ x0 then (0 : Int32) else (1 : Int32))), μ))
set_option maxHeartbeats 4000000 in
set_option maxRecDepth 100000 in
theorem t_X4_isHolder {G : z_Gl} {ρ : Nat → Nat → Option Nat} {μ : z_M} {r : Int32} {μr : z_M} {x0 : Int32} (hρ : μ.2.2 = ρ)  (h : f_X4_isHolder x0 μ = some (r, μr)) : z_Ci G yX4_isHolder cX4_isHolder 1 (some .boolean) 0 [.int x0] μ (fun r1 μ1 => r = r1 ∧ μr = μ1) := by
  unfold z_Ci
  refine z_intro (by decide +kernel) (Nat.le_of_ble_eq_true rfl) (fun E hE F Rt => ?_)
  subst hE
  have F : z_F E RX4 cX4_isHolder 1 0 := F
  rw [hρ] at Rt
  unfold f_X4_isHolder at h
  show z_J E 1 0 [some (.int x0)] [] μ
  refine j_iload_n F (pc := 0) (q := 0) (by decide +kernel) rfl ?_
  suffices hj : z_J E 1 15 [some (.int x0)] (.int (if x0 < 0 then (0 : Int32) else (if (6 : Int32) ≤ x0 then (0 : Int32) else (1 : Int32))) :: []) μ by
    refine j_if_lt F (pc := 1) (off := 13) (tgt := 14) (by decide +kernel) (by decide) (fun c0 => ?_) (fun c0 => ?_)
    · rw [if_pos c0] at hj
      refine j_iconst F (pc := 14) (n := 0) (v := 0) (by decide +kernel) (by decide +kernel) ?_
      exact hj
    · rw [if_neg c0] at hj
      refine j_iload_n F (pc := 4) (q := 0) (by decide +kernel) rfl ?_
      refine j_bipush F (pc := 5) (n := 6) (v := 6) (by decide +kernel) (by decide +kernel) ?_
      refine j_icmp_ge F (pc := 7) (off := 7) (tgt := 14) (by decide +kernel) (by decide) (fun c1 => ?_) (fun c1 => ?_)
      · rw [if_pos c1] at hj
        refine j_iconst F (pc := 14) (n := 0) (v := 0) (by decide +kernel) (by decide +kernel) ?_
        exact hj
      · rw [if_neg c1] at hj
        refine j_iconst F (pc := 10) (n := 1) (v := 1) (by decide +kernel) (by decide +kernel) ?_
        refine j_goto F (pc := 11) (off := 4) (tgt := 15) (by decide +kernel) (by decide) ?_
        exact hj
  exact j_iret F Rt (z_nb (by repeat' (first | exact Or.inl rfl | exact Or.inr rfl | split))) (by decide +kernel) ⟨hρ, _, rfl, (congrArg Prod.fst (Option.some.inj h)).symm, (congrArg Prod.snd (Option.some.inj h)).symm⟩
/-- LastLent$Ship.addClaim -/
def f_X3_addClaim (o : Nat) (x1 : Int32) (x2 : Int32) (x3 : Int32) (x4 : Int32) (x5 : Int32) (x6 : Int32) (μ : z_M) : Option (Int32 × z_M) :=
  (if (μ.1 o 1) < (14 : Int32) then (if z_in (μ.1 o 1) 14 then (z_st (z_si μ (o + 3) (μ.1 o 1).toNatClampNeg x1) fun μ1 => (if z_in (μ1.1 o 1) 14 then (z_st (z_si μ1 (o + 4) (μ1.1 o 1).toNatClampNeg x2) fun μ4 => (if z_in (μ4.1 o 1) 14 then (z_st (z_si μ4 (o + 5) (μ4.1 o 1).toNatClampNeg x3) fun μ7 => (if z_in (μ7.1 o 1) 14 then (z_st (z_si μ7 (o + 6) (μ7.1 o 1).toNatClampNeg x4) fun μ10 => (z_st (z_si μ10 o 2 (if x5 = 0 then ((μ10.1 o 2) &&& (((1 : Int32) <<< ((μ10.1 o 1) &&& 31)) ^^^ (-1 : Int32))) else ((μ10.1 o 2) ||| ((1 : Int32) <<< ((μ10.1 o 1) &&& 31))))) fun μ13 => (if z_in (μ13.1 o 1) 14 then (z_st (z_si μ13 (o + 7) (μ13.1 o 1).toNatClampNeg x6) fun μ16 => (if z_in (μ16.1 o 1) 14 then (z_st (z_si μ16 (o + 8) (μ16.1 o 1).toNatClampNeg (-1 : Int32)) fun μ19 => (z_st (z_si μ19 o 1 ((μ19.1 o 1) + (1 : Int32))) fun μ22 => (some (((μ22.1 o 1) - (1 : Int32)), μ22)))) else none)) else none))) else none)) else none)) else none)) else none) else (some ((-1004 : Int32), μ)))
set_option maxHeartbeats 4000000 in
set_option maxRecDepth 100000 in
theorem t_X3_addClaim {G : z_Gl} {ρ : Nat → Nat → Option Nat} {μ : z_M} {r : Int32} {μr : z_M} {o : Nat} {x1 : Int32} {x2 : Int32} {x3 : Int32} {x4 : Int32} {x5 : Int32} {x6 : Int32} (hρ : μ.2.2 = ρ) (hb : z_blk z_shipS z_shipR (z_sh G) ρ o) (h : f_X3_addClaim o x1 x2 x3 x4 x5 x6 μ = some (r, μr)) : z_Ci G yX3_addClaim cX3_addClaim 7 (some .int) 0 [.ref o, .int x1, .int x2, .int x3, .int x4, .int x5, .int x6] μ (fun r1 μ1 => r = r1 ∧ μr = μ1) := by
  unfold z_Ci
  refine z_intro (by decide +kernel) (Nat.le_of_ble_eq_true rfl) (fun E hE F Rt => ?_)
  subst hE
  have F : z_F E RX3 cX3_addClaim 7 0 := F
  rw [hρ] at Rt
  unfold f_X3_addClaim at h
  show z_J E 7 0 [some (.ref o), some (.int x1), some (.int x2), some (.int x3), some (.int x4), some (.int x5), some (.int x6)] [] μ
  refine j_aload_n F (pc := 0) (q := 0) (by decide +kernel) rfl ?_
  refine j_getI F (pc := 1) fl_X3_46 (hb.1 0 _ rfl) rfl (by decide +kernel) ?_
  refine j_bipush F (pc := 4) (n := 14) (v := 14) (by decide +kernel) (by decide +kernel) ?_
  refine j_icmp_lt F (pc := 6) (off := 7) (tgt := 13) (by decide +kernel) (by decide) (fun c => ?_) (fun c => ?_)
  · rw [if_pos c] at h
    refine j_aload_n F (pc := 13) (q := 0) (by decide +kernel) rfl ?_
    refine j_getR F (pc := 14) (hb.r hρ 5 rfl) fl_X3_18 (hb.1 0 _ rfl) rfl (by decide +kernel) ?_
    refine j_aload_n F (pc := 17) (q := 0) (by decide +kernel) rfl ?_
    refine j_getI F (pc := 18) fl_X3_46 (hb.1 0 _ rfl) rfl (by decide +kernel) ?_
    refine j_iload_n F (pc := 21) (q := 1) (by decide +kernel) rfl ?_
    obtain ⟨hg, h⟩ := z_ifs h
    refine j_iast F (pc := 22) (hb.1 3 _ rfl) hg (by decide +kernel) ?_
    obtain ⟨μ1, e3, h⟩ := z_st_some h
    rw [← e3]
    have hρ2 : μ1.2.2 = ρ := by rw [e3]; exact hρ
    refine j_aload_n F (pc := 23) (q := 0) (by decide +kernel) rfl ?_
    refine j_getR F (pc := 24) (hb.r hρ2 6 rfl) fl_X3_21 (hb.1 0 _ rfl) rfl (by decide +kernel) ?_
    refine j_aload_n F (pc := 27) (q := 0) (by decide +kernel) rfl ?_
    refine j_getI F (pc := 28) fl_X3_46 (hb.1 0 _ rfl) rfl (by decide +kernel) ?_
    refine j_iload_n F (pc := 31) (q := 2) (by decide +kernel) rfl ?_
    obtain ⟨hg, h⟩ := z_ifs h
    refine j_iast F (pc := 32) (hb.1 4 _ rfl) hg (by decide +kernel) ?_
    obtain ⟨μ4, e6, h⟩ := z_st_some h
    rw [← e6]
    have hρ5 : μ4.2.2 = ρ := by rw [e6]; exact hρ2
    refine j_aload_n F (pc := 33) (q := 0) (by decide +kernel) rfl ?_
    refine j_getR F (pc := 34) (hb.r hρ5 7 rfl) fl_X3_24 (hb.1 0 _ rfl) rfl (by decide +kernel) ?_
    refine j_aload_n F (pc := 37) (q := 0) (by decide +kernel) rfl ?_
    refine j_getI F (pc := 38) fl_X3_46 (hb.1 0 _ rfl) rfl (by decide +kernel) ?_
    refine j_iload_n F (pc := 41) (q := 3) (by decide +kernel) rfl ?_
    obtain ⟨hg, h⟩ := z_ifs h
    refine j_iast F (pc := 42) (hb.1 5 _ rfl) hg (by decide +kernel) ?_
    obtain ⟨μ7, e9, h⟩ := z_st_some h
    rw [← e9]
    have hρ8 : μ7.2.2 = ρ := by rw [e9]; exact hρ5
    refine j_aload_n F (pc := 43) (q := 0) (by decide +kernel) rfl ?_
    refine j_getR F (pc := 44) (hb.r hρ8 8 rfl) fl_X3_27 (hb.1 0 _ rfl) rfl (by decide +kernel) ?_
    refine j_aload_n F (pc := 47) (q := 0) (by decide +kernel) rfl ?_
    refine j_getI F (pc := 48) fl_X3_46 (hb.1 0 _ rfl) rfl (by decide +kernel) ?_
    refine j_iload F (pc := 51) (i := 4) (by decide +kernel) rfl ?_
    obtain ⟨hg, h⟩ := z_ifs h
    refine j_iast F (pc := 53) (hb.1 6 _ rfl) hg (by decide +kernel) ?_
    obtain ⟨μ10, e12, h⟩ := z_st_some h
    rw [← e12]
    have hρ11 : μ10.2.2 = ρ := by rw [e12]; exact hρ8
    refine j_aload_n F (pc := 54) (q := 0) (by decide +kernel) rfl ?_
    refine j_iload F (pc := 55) (i := 5) (by decide +kernel) rfl ?_
    suffices hj : z_J E 7 87 [some (.ref o), some (.int x1), some (.int x2), some (.int x3), some (.int x4), some (.int x5), some (.int x6)] (.int (if x5 = 0 then ((μ10.1 o 2) &&& (((1 : Int32) <<< ((μ10.1 o 1) &&& 31)) ^^^ (-1 : Int32))) else ((μ10.1 o 2) ||| ((1 : Int32) <<< ((μ10.1 o 1) &&& 31)))) :: [.ref o]) μ10 by
      refine j_if_eq F (pc := 57) (off := 17) (tgt := 74) (by decide +kernel) (by decide) (fun c0 => ?_) (fun c0 => ?_)
      · rw [if_pos c0] at hj
        refine j_aload_n F (pc := 74) (q := 0) (by decide +kernel) rfl ?_
        refine j_getI F (pc := 75) fl_X3_49 (hb.1 0 _ rfl) rfl (by decide +kernel) ?_
        refine j_iconst F (pc := 78) (n := 1) (v := 1) (by decide +kernel) (by decide +kernel) ?_
        refine j_aload_n F (pc := 79) (q := 0) (by decide +kernel) rfl ?_
        refine j_getI F (pc := 80) fl_X3_46 (hb.1 0 _ rfl) rfl (by decide +kernel) ?_
        refine j_ishl F (pc := 83) (by decide +kernel) ?_
        refine j_iconst F (pc := 84) (n := -1) (v := -1) (by decide +kernel) (by decide +kernel) ?_
        refine j_ixor F (pc := 85) (by decide +kernel) ?_
        refine j_iand F (pc := 86) (by decide +kernel) ?_
        exact hj
      · rw [if_neg c0] at hj
        refine j_aload_n F (pc := 60) (q := 0) (by decide +kernel) rfl ?_
        refine j_getI F (pc := 61) fl_X3_49 (hb.1 0 _ rfl) rfl (by decide +kernel) ?_
        refine j_iconst F (pc := 64) (n := 1) (v := 1) (by decide +kernel) (by decide +kernel) ?_
        refine j_aload_n F (pc := 65) (q := 0) (by decide +kernel) rfl ?_
        refine j_getI F (pc := 66) fl_X3_46 (hb.1 0 _ rfl) rfl (by decide +kernel) ?_
        refine j_ishl F (pc := 69) (by decide +kernel) ?_
        refine j_ior F (pc := 70) (by decide +kernel) ?_
        refine j_goto F (pc := 71) (off := 16) (tgt := 87) (by decide +kernel) (by decide) ?_
        exact hj
    refine j_putI F (pc := 87) fl_X3_49 fp_X3_2 (hb.1 0 _ rfl) rfl (by decide +kernel) ?_
    obtain ⟨μ13, e15, h⟩ := z_st_some h
    rw [← e15]
    have hρ14 : μ13.2.2 = ρ := by rw [e15]; exact hρ11
    refine j_aload_n F (pc := 90) (q := 0) (by decide +kernel) rfl ?_
    refine j_getR F (pc := 91) (hb.r hρ14 9 rfl) fl_X3_30 (hb.1 0 _ rfl) rfl (by decide +kernel) ?_
    refine j_aload_n F (pc := 94) (q := 0) (by decide +kernel) rfl ?_
    refine j_getI F (pc := 95) fl_X3_46 (hb.1 0 _ rfl) rfl (by decide +kernel) ?_
    refine j_iload F (pc := 98) (i := 6) (by decide +kernel) rfl ?_
    obtain ⟨hg, h⟩ := z_ifs h
    refine j_iast F (pc := 100) (hb.1 7 _ rfl) hg (by decide +kernel) ?_
    obtain ⟨μ16, e18, h⟩ := z_st_some h
    rw [← e18]
    have hρ17 : μ16.2.2 = ρ := by rw [e18]; exact hρ14
    refine j_aload_n F (pc := 101) (q := 0) (by decide +kernel) rfl ?_
    refine j_getR F (pc := 102) (hb.r hρ17 10 rfl) fl_X3_33 (hb.1 0 _ rfl) rfl (by decide +kernel) ?_
    refine j_aload_n F (pc := 105) (q := 0) (by decide +kernel) rfl ?_
    refine j_getI F (pc := 106) fl_X3_46 (hb.1 0 _ rfl) rfl (by decide +kernel) ?_
    refine j_iconst F (pc := 109) (n := -1) (v := -1) (by decide +kernel) (by decide +kernel) ?_
    obtain ⟨hg, h⟩ := z_ifs h
    refine j_iast F (pc := 110) (hb.1 8 _ rfl) hg (by decide +kernel) ?_
    obtain ⟨μ19, e21, h⟩ := z_st_some h
    rw [← e21]
    have hρ20 : μ19.2.2 = ρ := by rw [e21]; exact hρ17
    refine j_aload_n F (pc := 111) (q := 0) (by decide +kernel) rfl ?_
    refine j_dup F (pc := 112) (by decide +kernel) rfl ?_
    refine j_getI F (pc := 113) fl_X3_46 (hb.1 0 _ rfl) rfl (by decide +kernel) ?_
    refine j_iconst F (pc := 116) (n := 1) (v := 1) (by decide +kernel) (by decide +kernel) ?_
    refine j_iadd F (pc := 117) (by decide +kernel) ?_
    refine j_putI F (pc := 118) fl_X3_46 fp_X3_1 (hb.1 0 _ rfl) rfl (by decide +kernel) ?_
    obtain ⟨μ22, e24, h⟩ := z_st_some h
    rw [← e24]
    have hρ23 : μ22.2.2 = ρ := by rw [e24]; exact hρ20
    refine j_aload_n F (pc := 121) (q := 0) (by decide +kernel) rfl ?_
    refine j_getI F (pc := 122) fl_X3_46 (hb.1 0 _ rfl) rfl (by decide +kernel) ?_
    refine j_iconst F (pc := 125) (n := 1) (v := 1) (by decide +kernel) (by decide +kernel) ?_
    refine j_isub F (pc := 126) (by decide +kernel) ?_
    exact j_iret F Rt rfl (by decide +kernel) ⟨hρ23, _, rfl, (congrArg Prod.fst (Option.some.inj h)).symm, (congrArg Prod.snd (Option.some.inj h)).symm⟩
  · rw [if_neg c] at h
    refine j_sipush F (pc := 9) (n := -1004) (v := -1004) (by decide +kernel) (by decide +kernel) ?_
    exact j_iret F Rt rfl (by decide +kernel) ⟨hρ, _, rfl, (congrArg Prod.fst (Option.some.inj h)).symm, (congrArg Prod.snd (Option.some.inj h)).symm⟩
/-- LastLent.isClaim -/
def f_X4_isClaim (x1 : Int32) (μ : z_M) : Option (Int32 × z_M) :=
  (some ((if x1 < 0 then (0 : Int32) else (if (μ.1 4 1) ≤ x1 then (0 : Int32) else (1 : Int32))), μ))
set_option maxHeartbeats 4000000 in
set_option maxRecDepth 100000 in
theorem t_X4_isClaim {G : z_Gl} {ρ : Nat → Nat → Option Nat} {μ : z_M} {r : Int32} {μr : z_M} {x1 : Int32} (hρ : μ.2.2 = ρ) (hk : z_ok (z_sh G) ρ) (h : f_X4_isClaim x1 μ = some (r, μr)) : z_Ci G yX4_isClaim cX4_isClaim 2 (some .boolean) 0 [.ref 0, .int x1] μ (fun r1 μ1 => r = r1 ∧ μr = μ1) := by
  unfold z_Ci
  refine z_intro (by decide +kernel) (Nat.le_of_ble_eq_true rfl) (fun E hE F Rt => ?_)
  subst hE
  have F : z_F E RX4 cX4_isClaim 2 0 := F
  rw [hρ] at Rt
  unfold f_X4_isClaim at h
  show z_J E 2 0 [some (.ref 0), some (.int x1)] [] μ
  refine j_iload_n F (pc := 0) (q := 1) (by decide +kernel) rfl ?_
  suffices hj : z_J E 2 20 [some (.ref 0), some (.int x1)] (.int (if x1 < 0 then (0 : Int32) else (if (μ.1 4 1) ≤ x1 then (0 : Int32) else (1 : Int32))) :: []) μ by
    refine j_if_lt F (pc := 1) (off := 18) (tgt := 19) (by decide +kernel) (by decide) (fun c0 => ?_) (fun c0 => ?_)
    · rw [if_pos c0] at hj
      refine j_iconst F (pc := 19) (n := 0) (v := 0) (by decide +kernel) (by decide +kernel) ?_
      exact hj
    · rw [if_neg c0] at hj
      refine j_iload_n F (pc := 4) (q := 1) (by decide +kernel) rfl ?_
      refine j_aload_n F (pc := 5) (q := 0) (by decide +kernel) rfl ?_
      refine j_getR F (pc := 6) (hk.r hρ r_0_2) fl_X4_25 (hk.s c_0) rfl (by decide +kernel) ?_
      refine j_getI F (pc := 9) fl_X4_191 ((hk.shipB (by decide : 4 ∈ z_SHIPS)).1 0 _ rfl) rfl (by decide +kernel) ?_
      refine j_icmp_ge F (pc := 12) (off := 7) (tgt := 19) (by decide +kernel) (by decide) (fun c1 => ?_) (fun c1 => ?_)
      · rw [if_pos c1] at hj
        refine j_iconst F (pc := 19) (n := 0) (v := 0) (by decide +kernel) (by decide +kernel) ?_
        exact hj
      · rw [if_neg c1] at hj
        refine j_iconst F (pc := 15) (n := 1) (v := 1) (by decide +kernel) (by decide +kernel) ?_
        refine j_goto F (pc := 16) (off := 4) (tgt := 20) (by decide +kernel) (by decide) ?_
        exact hj
  exact j_iret F Rt (z_nb (by repeat' (first | exact Or.inl rfl | exact Or.inr rfl | split))) (by decide +kernel) ⟨hρ, _, rfl, (congrArg Prod.fst (Option.some.inj h)).symm, (congrArg Prod.snd (Option.some.inj h)).symm⟩
/-- LastLent.isFund -/
def f_X4_isFund (x0 : Int32) (μ : z_M) : Option (Int32 × z_M) :=
  (some ((if x0 < 0 then (0 : Int32) else (if (5 : Int32) ≤ x0 then (0 : Int32) else (1 : Int32))), μ))
set_option maxHeartbeats 4000000 in
set_option maxRecDepth 100000 in
theorem t_X4_isFund {G : z_Gl} {ρ : Nat → Nat → Option Nat} {μ : z_M} {r : Int32} {μr : z_M} {x0 : Int32} (hρ : μ.2.2 = ρ)  (h : f_X4_isFund x0 μ = some (r, μr)) : z_Ci G yX4_isFund cX4_isFund 1 (some .boolean) 0 [.int x0] μ (fun r1 μ1 => r = r1 ∧ μr = μ1) := by
  unfold z_Ci
  refine z_intro (by decide +kernel) (Nat.le_of_ble_eq_true rfl) (fun E hE F Rt => ?_)
  subst hE
  have F : z_F E RX4 cX4_isFund 1 0 := F
  rw [hρ] at Rt
  unfold f_X4_isFund at h
  show z_J E 1 0 [some (.int x0)] [] μ
  refine j_iload_n F (pc := 0) (q := 0) (by decide +kernel) rfl ?_
  suffices hj : z_J E 1 14 [some (.int x0)] (.int (if x0 < 0 then (0 : Int32) else (if (5 : Int32) ≤ x0 then (0 : Int32) else (1 : Int32))) :: []) μ by
    refine j_if_lt F (pc := 1) (off := 12) (tgt := 13) (by decide +kernel) (by decide) (fun c0 => ?_) (fun c0 => ?_)
    · rw [if_pos c0] at hj
      refine j_iconst F (pc := 13) (n := 0) (v := 0) (by decide +kernel) (by decide +kernel) ?_
      exact hj
    · rw [if_neg c0] at hj
      refine j_iload_n F (pc := 4) (q := 0) (by decide +kernel) rfl ?_
      refine j_iconst F (pc := 5) (n := 5) (v := 5) (by decide +kernel) (by decide +kernel) ?_
      refine j_icmp_ge F (pc := 6) (off := 7) (tgt := 13) (by decide +kernel) (by decide) (fun c1 => ?_) (fun c1 => ?_)
      · rw [if_pos c1] at hj
        refine j_iconst F (pc := 13) (n := 0) (v := 0) (by decide +kernel) (by decide +kernel) ?_
        exact hj
      · rw [if_neg c1] at hj
        refine j_iconst F (pc := 9) (n := 1) (v := 1) (by decide +kernel) (by decide +kernel) ?_
        refine j_goto F (pc := 10) (off := 4) (tgt := 14) (by decide +kernel) (by decide) ?_
        exact hj
  exact j_iret F Rt (z_nb (by repeat' (first | exact Or.inl rfl | exact Or.inr rfl | split))) (by decide +kernel) ⟨hρ, _, rfl, (congrArg Prod.fst (Option.some.inj h)).symm, (congrArg Prod.snd (Option.some.inj h)).symm⟩
/-- LastLent.isCargo -/
def f_X4_isCargo (x0 : Int32) (μ : z_M) : Option (Int32 × z_M) :=
  (some ((if x0 < 0 then (0 : Int32) else (if (3 : Int32) ≤ x0 then (0 : Int32) else (1 : Int32))), μ))
set_option maxHeartbeats 4000000 in
set_option maxRecDepth 100000 in
theorem t_X4_isCargo {G : z_Gl} {ρ : Nat → Nat → Option Nat} {μ : z_M} {r : Int32} {μr : z_M} {x0 : Int32} (hρ : μ.2.2 = ρ)  (h : f_X4_isCargo x0 μ = some (r, μr)) : z_Ci G yX4_isCargo cX4_isCargo 1 (some .boolean) 0 [.int x0] μ (fun r1 μ1 => r = r1 ∧ μr = μ1) := by
  unfold z_Ci
  refine z_intro (by decide +kernel) (Nat.le_of_ble_eq_true rfl) (fun E hE F Rt => ?_)
  subst hE
  have F : z_F E RX4 cX4_isCargo 1 0 := F
  rw [hρ] at Rt
  unfold f_X4_isCargo at h
  show z_J E 1 0 [some (.int x0)] [] μ
  refine j_iload_n F (pc := 0) (q := 0) (by decide +kernel) rfl ?_
  suffices hj : z_J E 1 14 [some (.int x0)] (.int (if x0 < 0 then (0 : Int32) else (if (3 : Int32) ≤ x0 then (0 : Int32) else (1 : Int32))) :: []) μ by
    refine j_if_lt F (pc := 1) (off := 12) (tgt := 13) (by decide +kernel) (by decide) (fun c0 => ?_) (fun c0 => ?_)
    · rw [if_pos c0] at hj
      refine j_iconst F (pc := 13) (n := 0) (v := 0) (by decide +kernel) (by decide +kernel) ?_
      exact hj
    · rw [if_neg c0] at hj
      refine j_iload_n F (pc := 4) (q := 0) (by decide +kernel) rfl ?_
      refine j_iconst F (pc := 5) (n := 3) (v := 3) (by decide +kernel) (by decide +kernel) ?_
      refine j_icmp_ge F (pc := 6) (off := 7) (tgt := 13) (by decide +kernel) (by decide) (fun c1 => ?_) (fun c1 => ?_)
      · rw [if_pos c1] at hj
        refine j_iconst F (pc := 13) (n := 0) (v := 0) (by decide +kernel) (by decide +kernel) ?_
        exact hj
      · rw [if_neg c1] at hj
        refine j_iconst F (pc := 9) (n := 1) (v := 1) (by decide +kernel) (by decide +kernel) ?_
        refine j_goto F (pc := 10) (off := 4) (tgt := 14) (by decide +kernel) (by decide) ?_
        exact hj
  exact j_iret F Rt (z_nb (by repeat' (first | exact Or.inl rfl | exact Or.inr rfl | split))) (by decide +kernel) ⟨hρ, _, rfl, (congrArg Prod.fst (Option.some.inj h)).symm, (congrArg Prod.snd (Option.some.inj h)).symm⟩
def g_X3_voyageOf_4 (o : Nat)  : Nat → Int32 → Int32 → Int32 → z_M → Option (Int32 × z_M)
  | 0, _, _, _, _ => none
  | n + 1, x1, x2, x3, μ => (if (μ.1 o 0) ≤ x3 then (some (x2, μ)) else (if z_in x3 6 then (if z_in x1 14 then (if (μ.1 (o + 5) x1.toNatClampNeg) < (μ.1 (o + 1) x3.toNatClampNeg) then (g_X3_voyageOf_4 o  n (x1) (x2) ((x3 + (1 : Int32))) μ) else (g_X3_voyageOf_4 o  n (x1) (x3) ((x3 + (1 : Int32))) μ)) else none) else none))
def f_X3_voyageOf (o : Nat) (x1 : Int32) (μ : z_M) : Option (Int32 × z_M) :=
  (g_X3_voyageOf_4 o  z_N (x1) ((-1 : Int32)) ((0 : Int32)) μ)
set_option maxHeartbeats 4000000 in
set_option maxRecDepth 100000 in
theorem u_X3_voyageOf_4 {E : z_E} {ρ : Nat → Nat → Option Nat} {r : Int32} {μr : z_M} (F : z_F E RX3 cX3_voyageOf 4 0) (Rt : z_R E (some .int) (fun v μ1 => μ1.2.2 = ρ ∧ ∃ r1, v = some (.int r1) ∧ r = r1 ∧ μr = μ1)) {o : Nat} (hb : z_blk z_shipS z_shipR (z_sh E.1) ρ o) : ∀ (n : Nat) (x1 : Int32) (x2 : Int32) (x3 : Int32) (μ : z_M), μ.2.2 = ρ → g_X3_voyageOf_4 o  n x1 x2 x3 μ = some (r, μr) → z_J E 4 4 [some (.ref o), some (.int x1), some (.int x2), some (.int x3)] [] μ := by
  intro n
  induction n with
  | zero =>
    intro x1 x2 x3 μ hρ h
    rw [g_X3_voyageOf_4] at h
    cases h
  | succ n ih =>
    intro x1 x2 x3 μ hρ h
    rw [g_X3_voyageOf_4] at h
    refine j_iload_n F (pc := 4) (q := 3) (by decide +kernel) rfl ?_
    refine j_aload_n F (pc := 5) (q := 0) (by decide +kernel) rfl ?_
    refine j_getI F (pc := 6) fl_X3_42 (hb.1 0 _ rfl) rfl (by decide +kernel) ?_
    refine j_icmp_ge F (pc := 9) (off := 26) (tgt := 35) (by decide +kernel) (by decide) (fun c => ?_) (fun c => ?_)
    · rw [if_pos c] at h
      refine j_iload_n F (pc := 35) (q := 2) (by decide +kernel) rfl ?_
      exact j_iret F Rt rfl (by decide +kernel) ⟨hρ, _, rfl, (congrArg Prod.fst (Option.some.inj h)).symm, (congrArg Prod.snd (Option.some.inj h)).symm⟩
    · rw [if_neg c] at h
      refine j_aload_n F (pc := 12) (q := 0) (by decide +kernel) rfl ?_
      refine j_getR F (pc := 13) (hb.r hρ 3 rfl) fl_X3_9 (hb.1 0 _ rfl) rfl (by decide +kernel) ?_
      refine j_iload_n F (pc := 16) (q := 3) (by decide +kernel) rfl ?_
      obtain ⟨hg, h⟩ := z_ifs h
      refine j_iald F (pc := 17) (hb.1 1 _ rfl) hg (by decide +kernel) ?_
      refine j_aload_n F (pc := 18) (q := 0) (by decide +kernel) rfl ?_
      refine j_getR F (pc := 19) (hb.r hρ 7 rfl) fl_X3_24 (hb.1 0 _ rfl) rfl (by decide +kernel) ?_
      refine j_iload_n F (pc := 22) (q := 1) (by decide +kernel) rfl ?_
      obtain ⟨hg, h⟩ := z_ifs h
      refine j_iald F (pc := 23) (hb.1 5 _ rfl) hg (by decide +kernel) ?_
      refine j_icmp_gt F (pc := 24) (off := 5) (tgt := 29) (by decide +kernel) (by decide) (fun c => ?_) (fun c => ?_)
      · rw [if_pos c] at h
        refine j_iinc F (pc := 29) (i := 3) (n := 1) (v := 1) (L' := [some (.ref o), some (.int x1), some (.int x2), some (.int (x3 + (1 : Int32)))]) (by decide +kernel) rfl (by decide +kernel) (by decide) rfl rfl ?_
        refine j_goto F (pc := 32) (off := -28) (tgt := 4) (by decide +kernel) (by decide) ?_
        exact ih _ _ _ _ hρ h
      · rw [if_neg c] at h
        refine j_iload_n F (pc := 27) (q := 3) (by decide +kernel) rfl ?_
        refine j_istore_n F (pc := 28) (q := 2) (L' := [some (.ref o), some (.int x1), some (.int x3), some (.int x3)]) (by decide +kernel) (by decide) rfl rfl ?_
        refine j_iinc F (pc := 29) (i := 3) (n := 1) (v := 1) (L' := [some (.ref o), some (.int x1), some (.int x3), some (.int (x3 + (1 : Int32)))]) (by decide +kernel) rfl (by decide +kernel) (by decide) rfl rfl ?_
        refine j_goto F (pc := 32) (off := -28) (tgt := 4) (by decide +kernel) (by decide) ?_
        exact ih _ _ _ _ hρ h
set_option maxHeartbeats 4000000 in
set_option maxRecDepth 100000 in
theorem t_X3_voyageOf {G : z_Gl} {ρ : Nat → Nat → Option Nat} {μ : z_M} {r : Int32} {μr : z_M} {o : Nat} {x1 : Int32} (hρ : μ.2.2 = ρ) (hb : z_blk z_shipS z_shipR (z_sh G) ρ o) (h : f_X3_voyageOf o x1 μ = some (r, μr)) : z_Ci G yX3_voyageOf cX3_voyageOf 4 (some .int) 0 [.ref o, .int x1] μ (fun r1 μ1 => r = r1 ∧ μr = μ1) := by
  unfold z_Ci
  refine z_intro (by decide +kernel) (Nat.le_of_ble_eq_true rfl) (fun E hE F Rt => ?_)
  subst hE
  have F : z_F E RX3 cX3_voyageOf 4 0 := F
  rw [hρ] at Rt
  unfold f_X3_voyageOf at h
  show z_J E 4 0 [some (.ref o), some (.int x1), none, none] [] μ
  refine j_iconst F (pc := 0) (n := -1) (v := -1) (by decide +kernel) (by decide +kernel) ?_
  refine j_istore_n F (pc := 1) (q := 2) (L' := [some (.ref o), some (.int x1), some (.int (-1 : Int32)), none]) (by decide +kernel) (by decide) rfl rfl ?_
  refine j_iconst F (pc := 2) (n := 0) (v := 0) (by decide +kernel) (by decide +kernel) ?_
  refine j_istore_n F (pc := 3) (q := 3) (L' := [some (.ref o), some (.int x1), some (.int (-1 : Int32)), some (.int (0 : Int32))]) (by decide +kernel) (by decide) rfl rfl ?_
  refine u_X3_voyageOf_4 F Rt hb  z_N _ _ _ _ hρ h
def g_X4_sumOf_4 (a0 : Nat) (n0 : Nat)  : Nat → Int32 → Int32 → Int32 → z_M → Option (Int32 × z_M)
  | 0, _, _, _, _ => none
  | n + 1, x1, x2, x3, μ => (if x1 ≤ x3 then (some (x2, μ)) else (if (Int32.ofNat n0) ≤ x3 then (some (x2, μ)) else (if z_in x3 n0 then (z_lt (x2 + (μ.1 a0 x3.toNatClampNeg)) fun x_1 => (g_X4_sumOf_4 a0 n0  n (x1) (x_1) ((x3 + (1 : Int32))) μ)) else none)))
def f_X4_sumOf (a0 : Nat) (n0 : Nat) (x1 : Int32) (μ : z_M) : Option (Int32 × z_M) :=
  (g_X4_sumOf_4 a0 n0  z_N (x1) ((0 : Int32)) ((0 : Int32)) μ)
set_option maxHeartbeats 4000000 in
set_option maxRecDepth 100000 in
theorem u_X4_sumOf_4 {E : z_E} {ρ : Nat → Nat → Option Nat} {r : Int32} {μr : z_M} (F : z_F E RX4 cX4_sumOf 4 0) (Rt : z_R E (some .int) (fun v μ1 => μ1.2.2 = ρ ∧ ∃ r1, v = some (.int r1) ∧ r = r1 ∧ μr = μ1)) {a0 : Nat} {n0 : Nat} (ha0 : (z_sh E.1)[a0]? = some (.inl (0, n0))) : ∀ (n : Nat) (x1 : Int32) (x2 : Int32) (x3 : Int32) (μ : z_M), μ.2.2 = ρ → g_X4_sumOf_4 a0 n0  n x1 x2 x3 μ = some (r, μr) → z_J E 4 4 [some (.ref a0), some (.int x1), some (.int x2), some (.int x3)] [] μ := by
  intro n
  induction n with
  | zero =>
    intro x1 x2 x3 μ hρ h
    rw [g_X4_sumOf_4] at h
    cases h
  | succ n ih =>
    intro x1 x2 x3 μ hρ h
    rw [g_X4_sumOf_4] at h
    refine j_iload_n F (pc := 4) (q := 3) (by decide +kernel) rfl ?_
    refine j_iload_n F (pc := 5) (q := 1) (by decide +kernel) rfl ?_
    refine j_icmp_ge F (pc := 6) (off := 21) (tgt := 27) (by decide +kernel) (by decide) (fun c => ?_) (fun c => ?_)
    · rw [if_pos c] at h
      refine j_iload_n F (pc := 27) (q := 2) (by decide +kernel) rfl ?_
      exact j_iret F Rt rfl (by decide +kernel) ⟨hρ, _, rfl, (congrArg Prod.fst (Option.some.inj h)).symm, (congrArg Prod.snd (Option.some.inj h)).symm⟩
    · rw [if_neg c] at h
      refine j_iload_n F (pc := 9) (q := 3) (by decide +kernel) rfl ?_
      refine j_aload_n F (pc := 10) (q := 0) (by decide +kernel) rfl ?_
      refine j_alen F (pc := 11) ha0 (by decide) rfl (by decide +kernel) ?_
      refine j_icmp_ge F (pc := 12) (off := 15) (tgt := 27) (by decide +kernel) (by decide) (fun c => ?_) (fun c => ?_)
      · rw [if_pos c] at h
        refine j_iload_n F (pc := 27) (q := 2) (by decide +kernel) rfl ?_
        exact j_iret F Rt rfl (by decide +kernel) ⟨hρ, _, rfl, (congrArg Prod.fst (Option.some.inj h)).symm, (congrArg Prod.snd (Option.some.inj h)).symm⟩
      · rw [if_neg c] at h
        refine j_iload_n F (pc := 15) (q := 2) (by decide +kernel) rfl ?_
        refine j_aload_n F (pc := 16) (q := 0) (by decide +kernel) rfl ?_
        refine j_iload_n F (pc := 17) (q := 3) (by decide +kernel) rfl ?_
        obtain ⟨hg, h⟩ := z_ifs h
        refine j_iald F (pc := 18) ha0 hg (by decide +kernel) ?_
        refine j_iadd F (pc := 19) (by decide +kernel) ?_
        obtain ⟨x_1, e2, h⟩ := z_lt_some h
        rw [← e2]
        refine j_istore_n F (pc := 20) (q := 2) (L' := [some (.ref a0), some (.int x1), some (.int x_1), some (.int x3)]) (by decide +kernel) (by decide) rfl rfl ?_
        refine j_iinc F (pc := 21) (i := 3) (n := 1) (v := 1) (L' := [some (.ref a0), some (.int x1), some (.int x_1), some (.int (x3 + (1 : Int32)))]) (by decide +kernel) rfl (by decide +kernel) (by decide) rfl rfl ?_
        refine j_goto F (pc := 24) (off := -20) (tgt := 4) (by decide +kernel) (by decide) ?_
        exact ih _ _ _ _ hρ h
set_option maxHeartbeats 4000000 in
set_option maxRecDepth 100000 in
theorem t_X4_sumOf {G : z_Gl} {ρ : Nat → Nat → Option Nat} {μ : z_M} {r : Int32} {μr : z_M} {a0 : Nat} {n0 : Nat} {x1 : Int32} (hρ : μ.2.2 = ρ) (ha0 : (z_sh G)[a0]? = some (.inl (0, n0))) (h : f_X4_sumOf a0 n0 x1 μ = some (r, μr)) : z_Ci G yX4_sumOf cX4_sumOf 4 (some .int) 0 [.ref a0, .int x1] μ (fun r1 μ1 => r = r1 ∧ μr = μ1) := by
  unfold z_Ci
  refine z_intro (by decide +kernel) (Nat.le_of_ble_eq_true rfl) (fun E hE F Rt => ?_)
  subst hE
  have F : z_F E RX4 cX4_sumOf 4 0 := F
  rw [hρ] at Rt
  unfold f_X4_sumOf at h
  show z_J E 4 0 [some (.ref a0), some (.int x1), none, none] [] μ
  refine j_iconst F (pc := 0) (n := 0) (v := 0) (by decide +kernel) (by decide +kernel) ?_
  refine j_istore_n F (pc := 1) (q := 2) (L' := [some (.ref a0), some (.int x1), some (.int (0 : Int32)), none]) (by decide +kernel) (by decide) rfl rfl ?_
  refine j_iconst F (pc := 2) (n := 0) (v := 0) (by decide +kernel) (by decide +kernel) ?_
  refine j_istore_n F (pc := 3) (q := 3) (L' := [some (.ref a0), some (.int x1), some (.int (0 : Int32)), some (.int (0 : Int32))]) (by decide +kernel) (by decide) rfl rfl ?_
  refine u_X4_sumOf_4 F Rt ha0  z_N _ _ _ _ hρ h
/-- LastLent$Ship.lastUnbarred -/
def f_X3_lastUnbarred (o : Nat) (o1 : Nat) (x2 : Int32) (μ : z_M) : Option (Int32 × z_M) :=
  (if z_in x2 14 then (if z_in (μ.1 (o + 3) x2.toNatClampNeg) 8 then (z_lt (μ.1 (o1 + 2) (μ.1 (o + 3) x2.toNatClampNeg).toNatClampNeg) fun x_1 => (if z_in x2 14 then (z_lt ((μ.1 (o + 5) x2.toNatClampNeg) + x_1) fun x_3 => (if z_in x2 14 then (if (¬ ((μ.1 (o + 8) x2.toNatClampNeg) = (-1 : Int32)) → z_in x2 14) then (z_lt (if (μ.1 (o + 8) x2.toNatClampNeg) = (-1 : Int32) then (0 : Int32) else (if x_3 < (μ.1 (o + 8) x2.toNatClampNeg) then (0 : Int32) else (1 : Int32))) fun x_5 => (if x_1 = 0 then (some ((999 : Int32), μ)) else (if x_5 = 0 then (some ((if x_3 < (999 : Int32) then x_3 else (999 : Int32)), μ)) else (some ((999 : Int32), μ))))) else none) else none)) else none)) else none) else none)
set_option maxHeartbeats 4000000 in
set_option maxRecDepth 100000 in
theorem t_X3_lastUnbarred {G : z_Gl} {ρ : Nat → Nat → Option Nat} {μ : z_M} {r : Int32} {μr : z_M} {o : Nat} {o1 : Nat} {x2 : Int32} (hρ : μ.2.2 = ρ) (hb : z_blk z_shipS z_shipR (z_sh G) ρ o) (hb1 : z_blk z_lawS z_lawR (z_sh G) ρ o1) (h : f_X3_lastUnbarred o o1 x2 μ = some (r, μr)) : z_Ci G yX3_lastUnbarred cX3_lastUnbarred 6 (some .int) 1 [.ref o, .ref o1, .int x2] μ (fun r1 μ1 => r = r1 ∧ μr = μ1) := by
  unfold z_Ci
  refine z_intro (by decide +kernel) (Nat.le_of_ble_eq_true rfl) (fun E hE F Rt => ?_)
  subst hE
  have F : z_F E RX3 cX3_lastUnbarred 6 1 := F
  rw [hρ] at Rt
  unfold f_X3_lastUnbarred at h
  show z_J E 6 0 [some (.ref o), some (.ref o1), some (.int x2), none, none, none] [] μ
  refine j_aload_n F (pc := 0) (q := 1) (by decide +kernel) rfl ?_
  refine j_getR F (pc := 1) (hb1.r hρ 1 rfl) fl_X3_84 (hb1.1 0 _ rfl) rfl (by decide +kernel) ?_
  refine j_aload_n F (pc := 4) (q := 0) (by decide +kernel) rfl ?_
  refine j_getR F (pc := 5) (hb.r hρ 5 rfl) fl_X3_18 (hb.1 0 _ rfl) rfl (by decide +kernel) ?_
  refine j_iload_n F (pc := 8) (q := 2) (by decide +kernel) rfl ?_
  obtain ⟨hg, h⟩ := z_ifs h
  refine j_iald F (pc := 9) (hb.1 3 _ rfl) hg (by decide +kernel) ?_
  obtain ⟨hg, h⟩ := z_ifs h
  refine j_iald F (pc := 10) (hb1.1 2 _ rfl) hg (by decide +kernel) ?_
  obtain ⟨x_1, e2, h⟩ := z_lt_some h
  rw [← e2]
  refine j_istore_n F (pc := 11) (q := 3) (L' := [some (.ref o), some (.ref o1), some (.int x2), some (.int x_1), none, none]) (by decide +kernel) (by decide) rfl rfl ?_
  refine j_aload_n F (pc := 12) (q := 0) (by decide +kernel) rfl ?_
  refine j_getR F (pc := 13) (hb.r hρ 7 rfl) fl_X3_24 (hb.1 0 _ rfl) rfl (by decide +kernel) ?_
  refine j_iload_n F (pc := 16) (q := 2) (by decide +kernel) rfl ?_
  obtain ⟨hg, h⟩ := z_ifs h
  refine j_iald F (pc := 17) (hb.1 5 _ rfl) hg (by decide +kernel) ?_
  refine j_iload_n F (pc := 18) (q := 3) (by decide +kernel) rfl ?_
  refine j_iadd F (pc := 19) (by decide +kernel) ?_
  obtain ⟨x_3, e4, h⟩ := z_lt_some h
  rw [← e4]
  refine j_istore F (pc := 20) (i := 4) (L' := [some (.ref o), some (.ref o1), some (.int x2), some (.int x_1), some (.int x_3), none]) (by decide +kernel) (by decide) rfl rfl ?_
  refine j_aload_n F (pc := 22) (q := 0) (by decide +kernel) rfl ?_
  refine j_getR F (pc := 23) (hb.r hρ 10 rfl) fl_X3_33 (hb.1 0 _ rfl) rfl (by decide +kernel) ?_
  refine j_iload_n F (pc := 26) (q := 2) (by decide +kernel) rfl ?_
  obtain ⟨hg, h⟩ := z_ifs h
  refine j_iald F (pc := 27) (hb.1 8 _ rfl) hg (by decide +kernel) ?_
  refine j_iconst F (pc := 28) (n := -1) (v := -1) (by decide +kernel) (by decide +kernel) ?_
  obtain ⟨hg, h⟩ := z_ifs h
  suffices hj : z_J E 6 48 [some (.ref o), some (.ref o1), some (.int x2), some (.int x_1), some (.int x_3), none] (.int (if (μ.1 (o + 8) x2.toNatClampNeg) = (-1 : Int32) then (0 : Int32) else (if x_3 < (μ.1 (o + 8) x2.toNatClampNeg) then (0 : Int32) else (1 : Int32))) :: []) μ by
    refine j_icmp_eq F (pc := 29) (off := 18) (tgt := 47) (by decide +kernel) (by decide) (fun c0 => ?_) (fun c0 => ?_)
    · rw [if_pos c0] at hj
      refine j_iconst F (pc := 47) (n := 0) (v := 0) (by decide +kernel) (by decide +kernel) ?_
      exact hj
    · rw [if_neg c0] at hj
      refine j_aload_n F (pc := 32) (q := 0) (by decide +kernel) rfl ?_
      refine j_getR F (pc := 33) (hb.r hρ 10 rfl) fl_X3_33 (hb.1 0 _ rfl) rfl (by decide +kernel) ?_
      refine j_iload_n F (pc := 36) (q := 2) (by decide +kernel) rfl ?_
      refine j_iald F (pc := 37) (hb.1 8 _ rfl) (hg c0) (by decide +kernel) ?_
      refine j_iload F (pc := 38) (i := 4) (by decide +kernel) rfl ?_
      refine j_icmp_gt F (pc := 40) (off := 7) (tgt := 47) (by decide +kernel) (by decide) (fun c1 => ?_) (fun c1 => ?_)
      · rw [if_pos c1] at hj
        refine j_iconst F (pc := 47) (n := 0) (v := 0) (by decide +kernel) (by decide +kernel) ?_
        exact hj
      · rw [if_neg c1] at hj
        refine j_iconst F (pc := 43) (n := 1) (v := 1) (by decide +kernel) (by decide +kernel) ?_
        refine j_goto F (pc := 44) (off := 4) (tgt := 48) (by decide +kernel) (by decide) ?_
        exact hj
  obtain ⟨x_5, e6, h⟩ := z_lt_some h
  rw [← e6]
  refine j_istore F (pc := 48) (i := 5) (L' := [some (.ref o), some (.ref o1), some (.int x2), some (.int x_1), some (.int x_3), some (.int x_5)]) (by decide +kernel) (by decide) rfl rfl ?_
  refine j_iload_n F (pc := 50) (q := 3) (by decide +kernel) rfl ?_
  refine j_if_eq F (pc := 51) (off := 8) (tgt := 59) (by decide +kernel) (by decide) (fun c => ?_) (fun c => ?_)
  · rw [if_pos c] at h
    refine j_sipush F (pc := 59) (n := 999) (v := 999) (by decide +kernel) (by decide +kernel) ?_
    refine j_goto F (pc := 62) (off := 11) (tgt := 73) (by decide +kernel) (by decide) ?_
    exact j_iret F Rt rfl (by decide +kernel) ⟨hρ, _, rfl, (congrArg Prod.fst (Option.some.inj h)).symm, (congrArg Prod.snd (Option.some.inj h)).symm⟩
  · rw [if_neg c] at h
    refine j_iload F (pc := 54) (i := 5) (by decide +kernel) rfl ?_
    refine j_if_eq F (pc := 56) (off := 9) (tgt := 65) (by decide +kernel) (by decide) (fun c => ?_) (fun c => ?_)
    · rw [if_pos c] at h
      refine j_sipush F (pc := 65) (n := 999) (v := 999) (by decide +kernel) (by decide +kernel) ?_
      refine j_iload F (pc := 68) (i := 4) (by decide +kernel) rfl ?_
      refine j_mmin F (pc := 70) ⟨m_654, m_655, m_88, m_656⟩ (by decide) (Nat.le_of_ble_eq_true rfl) (by decide +kernel) ?_
      exact j_iret F Rt rfl (by decide +kernel) ⟨hρ, _, rfl, (congrArg Prod.fst (Option.some.inj h)).symm, (congrArg Prod.snd (Option.some.inj h)).symm⟩
    · rw [if_neg c] at h
      refine j_sipush F (pc := 59) (n := 999) (v := 999) (by decide +kernel) (by decide +kernel) ?_
      refine j_goto F (pc := 62) (off := 11) (tgt := 73) (by decide +kernel) (by decide) ?_
      exact j_iret F Rt rfl (by decide +kernel) ⟨hρ, _, rfl, (congrArg Prod.fst (Option.some.inj h)).symm, (congrArg Prod.snd (Option.some.inj h)).symm⟩
/-- LastLent$Ship.lacksLeave -/
def f_X3_lacksLeave (o : Nat) (o1 : Nat) (x2 : Int32) (μ : z_M) : Option (Int32 × z_M) :=
  (if z_in x2 14 then (z_b2 (f_X4_bit ((μ.1 o1 6)) ((μ.1 (o + 3) x2.toNatClampNeg)) μ) fun r1 μ2 => (if r1 = (1 : Int32) then (z_b2 (f_X4_bit ((μ2.1 o 2)) (x2) μ2) fun r8 μ9 => (if r8 = 0 then (some ((1 : Int32), μ9)) else (some ((0 : Int32), μ9)))) else (some ((0 : Int32), μ2)))) else none)
set_option maxHeartbeats 4000000 in
set_option maxRecDepth 100000 in
theorem t_X3_lacksLeave {G : z_Gl} {ρ : Nat → Nat → Option Nat} {μ : z_M} {r : Int32} {μr : z_M} {o : Nat} {o1 : Nat} {x2 : Int32} (hρ : μ.2.2 = ρ) (hb : z_blk z_shipS z_shipR (z_sh G) ρ o) (hb1 : z_blk z_lawS z_lawR (z_sh G) ρ o1) (h : f_X3_lacksLeave o o1 x2 μ = some (r, μr)) : z_Ci G yX3_lacksLeave cX3_lacksLeave 3 (some .boolean) 1 [.ref o, .ref o1, .int x2] μ (fun r1 μ1 => r = r1 ∧ μr = μ1) := by
  unfold z_Ci
  refine z_intro (by decide +kernel) (Nat.le_of_ble_eq_true rfl) (fun E hE F Rt => ?_)
  subst hE
  have F : z_F E RX3 cX3_lacksLeave 3 1 := F
  rw [hρ] at Rt
  unfold f_X3_lacksLeave at h
  show z_J E 3 0 [some (.ref o), some (.ref o1), some (.int x2)] [] μ
  refine j_aload_n F (pc := 0) (q := 1) (by decide +kernel) rfl ?_
  refine j_getI F (pc := 1) fl_X3_90 (hb1.1 0 _ rfl) rfl (by decide +kernel) ?_
  refine j_aload_n F (pc := 4) (q := 0) (by decide +kernel) rfl ?_
  refine j_getR F (pc := 5) (hb.r hρ 5 rfl) fl_X3_18 (hb.1 0 _ rfl) rfl (by decide +kernel) ?_
  refine j_iload_n F (pc := 8) (q := 2) (by decide +kernel) rfl ?_
  obtain ⟨hg, h⟩ := z_ifs h
  refine j_iald F (pc := 9) (hb.1 3 _ rfl) hg (by decide +kernel) ?_
  obtain ⟨r1, μ2, hc4, h⟩ := z_b2_some h
  refine j_callNi F (pc := 10) (As := [.int (μ.1 o1 6), .int (μ.1 (o + 3) x2.toNatClampNeg)]) (st := []) (t_X4_bit (G := E.1) hρ  hc4) q_X4_bit m_474 (by decide +kernel) rfl (by decide) (Nat.le_of_ble_eq_true rfl) rfl (by decide +kernel) (fun s7 ν5 hq6 hp => ?_)
  obtain ⟨rfl, rfl⟩ := hp
  have hρ3 : μ2.2.2 = ρ := hq6.trans hρ
  refine j_iconst F (pc := 13) (n := 1) (v := 1) (by decide +kernel) (by decide +kernel) ?_
  refine j_icmp_ne F (pc := 14) (off := 18) (tgt := 32) (by decide +kernel) (by decide) (fun c => ?_) (fun c => ?_)
  · rw [if_neg c] at h
    refine j_iconst F (pc := 32) (n := 0) (v := 0) (by decide +kernel) (by decide +kernel) ?_
    exact j_iret F Rt rfl (by decide +kernel) ⟨hρ3, _, rfl, (congrArg Prod.fst (Option.some.inj h)).symm, (congrArg Prod.snd (Option.some.inj h)).symm⟩
  · rw [if_pos c] at h
    refine j_aload_n F (pc := 17) (q := 0) (by decide +kernel) rfl ?_
    refine j_getI F (pc := 18) fl_X3_49 (hb.1 0 _ rfl) rfl (by decide +kernel) ?_
    refine j_iload_n F (pc := 21) (q := 2) (by decide +kernel) rfl ?_
    obtain ⟨r8, μ9, hc11, h⟩ := z_b2_some h
    refine j_callNi F (pc := 22) (As := [.int (μ2.1 o 2), .int x2]) (st := []) (t_X4_bit (G := E.1) hρ3  hc11) q_X4_bit m_474 (by decide +kernel) rfl (by decide) (Nat.le_of_ble_eq_true rfl) rfl (by decide +kernel) (fun s14 ν12 hq13 hp => ?_)
    obtain ⟨rfl, rfl⟩ := hp
    have hρ10 : μ9.2.2 = ρ := hq13.trans hρ3
    refine j_if_ne F (pc := 25) (off := 7) (tgt := 32) (by decide +kernel) (by decide) (fun c => ?_) (fun c => ?_)
    · rw [if_neg c] at h
      refine j_iconst F (pc := 32) (n := 0) (v := 0) (by decide +kernel) (by decide +kernel) ?_
      exact j_iret F Rt rfl (by decide +kernel) ⟨hρ10, _, rfl, (congrArg Prod.fst (Option.some.inj h)).symm, (congrArg Prod.snd (Option.some.inj h)).symm⟩
    · rw [if_pos c] at h
      refine j_iconst F (pc := 28) (n := 1) (v := 1) (by decide +kernel) (by decide +kernel) ?_
      refine j_goto F (pc := 29) (off := 4) (tgt := 33) (by decide +kernel) (by decide) ?_
      exact j_iret F Rt rfl (by decide +kernel) ⟨hρ10, _, rfl, (congrArg Prod.fst (Option.some.inj h)).symm, (congrArg Prod.snd (Option.some.inj h)).symm⟩
def g_X3_whyDead_53 (o : Nat) (o1 : Nat)  (x3 : Int32) (μ : z_M) : Option (Int32 × z_M) :=
  (z_b2 (f_X3_lacksLeave (o) (o1) (x3) μ) fun r8 μ9 => (some ((if r8 = 0 then (0 : Int32) else (4 : Int32)), μ9)))
def f_X3_whyDead (o : Nat) (o1 : Nat) (x2 : Int32) (x3 : Int32) (μ : z_M) : Option (Int32 × z_M) :=
  (if z_in x3 14 then (if (μ.1 (o + 5) x3.toNatClampNeg) ≤ x2 then (z_b2 (f_X3_lastUnbarred (o) (o1) (x3) μ) fun r1 μ2 => (if x2 ≤ r1 then (if (μ2.1 o1 12) = 0 then (g_X3_whyDead_53 o o1  (x3) μ2) else (if z_in x3 14 then (if (μ2.1 (o + 8) x3.toNatClampNeg) = (-1 : Int32) then (some ((3 : Int32), μ2)) else (if z_in x3 14 then (if (μ2.1 (o + 8) x3.toNatClampNeg) ≤ x2 then (g_X3_whyDead_53 o o1  (x3) μ2) else (some ((3 : Int32), μ2))) else none)) else none)) else (some ((2 : Int32), μ2)))) else (some ((1 : Int32), μ))) else none)
set_option maxHeartbeats 4000000 in
set_option maxRecDepth 100000 in
theorem u_X3_whyDead_53 {E : z_E} {ρ : Nat → Nat → Option Nat} {r : Int32} {μr : z_M} (F : z_F E RX3 cX3_whyDead 4 2) (Rt : z_R E (some .int) (fun v μ1 => μ1.2.2 = ρ ∧ ∃ r1, v = some (.int r1) ∧ r = r1 ∧ μr = μ1)) {o : Nat} {o1 : Nat} (hb : z_blk z_shipS z_shipR (z_sh E.1) ρ o) (hb1 : z_blk z_lawS z_lawR (z_sh E.1) ρ o1) : ∀ (x3 : Int32) (μ : z_M), μ.2.2 = ρ → g_X3_whyDead_53 o o1  x3 μ = some (r, μr) → z_J E 4 53 [some (.ref o), some (.ref o1), none, some (.int x3)] [] μ := by
  intro x3 μ hρ h
  unfold g_X3_whyDead_53 at h
  refine j_aload_n F (pc := 53) (q := 0) (by decide +kernel) rfl ?_
  refine j_aload_n F (pc := 54) (q := 1) (by decide +kernel) rfl ?_
  refine j_iload_n F (pc := 55) (q := 3) (by decide +kernel) rfl ?_
  obtain ⟨r8, μ9, hc11, h⟩ := z_b2_some h
  refine j_callVi F (pc := 56) (As := [.ref o1, .int x3]) (st := []) (t_X3_lacksLeave (G := E.1) hρ hb hb1 hc11) q_X3_lacksLeave v_X3_lacksLeave m_657 (hb.1 0 _ rfl) rfl rfl (by decide) (Nat.le_of_ble_eq_true rfl) rfl (by decide +kernel) (fun s14 ν12 hq13 hp => ?_)
  obtain ⟨rfl, rfl⟩ := hp
  have hρ10 : μ9.2.2 = ρ := hq13.trans hρ
  suffices hj : z_J E 4 67 [some (.ref o), some (.ref o1), none, some (.int x3)] (.int (if r8 = 0 then (0 : Int32) else (4 : Int32)) :: []) μ9 by
    refine j_if_eq F (pc := 59) (off := 7) (tgt := 66) (by decide +kernel) (by decide) (fun c0 => ?_) (fun c0 => ?_)
    · rw [if_pos c0] at hj
      refine j_iconst F (pc := 66) (n := 0) (v := 0) (by decide +kernel) (by decide +kernel) ?_
      exact hj
    · rw [if_neg c0] at hj
      refine j_iconst F (pc := 62) (n := 4) (v := 4) (by decide +kernel) (by decide +kernel) ?_
      refine j_goto F (pc := 63) (off := 4) (tgt := 67) (by decide +kernel) (by decide) ?_
      exact hj
  exact j_iret F Rt rfl (by decide +kernel) ⟨hρ10, _, rfl, (congrArg Prod.fst (Option.some.inj h)).symm, (congrArg Prod.snd (Option.some.inj h)).symm⟩
set_option maxHeartbeats 4000000 in
set_option maxRecDepth 100000 in
theorem t_X3_whyDead {G : z_Gl} {ρ : Nat → Nat → Option Nat} {μ : z_M} {r : Int32} {μr : z_M} {o : Nat} {o1 : Nat} {x2 : Int32} {x3 : Int32} (hρ : μ.2.2 = ρ) (hb : z_blk z_shipS z_shipR (z_sh G) ρ o) (hb1 : z_blk z_lawS z_lawR (z_sh G) ρ o1) (h : f_X3_whyDead o o1 x2 x3 μ = some (r, μr)) : z_Ci G yX3_whyDead cX3_whyDead 4 (some .int) 2 [.ref o, .ref o1, .int x2, .int x3] μ (fun r1 μ1 => r = r1 ∧ μr = μ1) := by
  unfold z_Ci
  refine z_intro (by decide +kernel) (Nat.le_of_ble_eq_true rfl) (fun E hE F Rt => ?_)
  subst hE
  have F : z_F E RX3 cX3_whyDead 4 2 := F
  rw [hρ] at Rt
  unfold f_X3_whyDead at h
  show z_J E 4 0 [some (.ref o), some (.ref o1), some (.int x2), some (.int x3)] [] μ
  refine j_aload_n F (pc := 0) (q := 0) (by decide +kernel) rfl ?_
  refine j_getR F (pc := 1) (hb.r hρ 7 rfl) fl_X3_24 (hb.1 0 _ rfl) rfl (by decide +kernel) ?_
  refine j_iload_n F (pc := 4) (q := 3) (by decide +kernel) rfl ?_
  obtain ⟨hg, h⟩ := z_ifs h
  refine j_iald F (pc := 5) (hb.1 5 _ rfl) hg (by decide +kernel) ?_
  refine j_iload_n F (pc := 6) (q := 2) (by decide +kernel) rfl ?_
  refine j_icmp_le F (pc := 7) (off := 5) (tgt := 12) (by decide +kernel) (by decide) (fun c => ?_) (fun c => ?_)
  · rw [if_pos c] at h
    refine j_iload_n F (pc := 12) (q := 2) (by decide +kernel) rfl ?_
    refine j_aload_n F (pc := 13) (q := 0) (by decide +kernel) rfl ?_
    refine j_aload_n F (pc := 14) (q := 1) (by decide +kernel) rfl ?_
    refine j_iload_n F (pc := 15) (q := 3) (by decide +kernel) rfl ?_
    obtain ⟨r1, μ2, hc4, h⟩ := z_b2_some h
    refine j_callVi F (pc := 16) (As := [.ref o1, .int x3]) (st := [.int x2]) (t_X3_lastUnbarred (G := E.1) hρ hb hb1 hc4) q_X3_lastUnbarred v_X3_lastUnbarred m_650 (hb.1 0 _ rfl) rfl rfl (by decide) (Nat.le_of_ble_eq_true rfl) rfl (by decide +kernel) (fun s7 ν5 hq6 hp => ?_)
    obtain ⟨rfl, rfl⟩ := hp
    have hρ3 : μ2.2.2 = ρ := hq6.trans hρ
    refine j_icmp_le F (pc := 19) (off := 5) (tgt := 24) (by decide +kernel) (by decide) (fun c => ?_) (fun c => ?_)
    · rw [if_pos c] at h
      refine j_aload_n F (pc := 24) (q := 1) (by decide +kernel) rfl ?_
      refine j_getI F (pc := 25) fl_X3_70 (hb1.1 0 _ rfl) rfl (by decide +kernel) ?_
      refine j_if_eq F (pc := 28) (off := 25) (tgt := 53) (by decide +kernel) (by decide) (fun c => ?_) (fun c => ?_)
      · rw [if_pos c] at h
        refine j_mk F [true, true, false, true] (L' := [some (.ref o), some (.ref o1), none, some (.int x3)]) rfl ?_
        refine u_X3_whyDead_53 F Rt hb hb1  _ _ hρ3 h
      · rw [if_neg c] at h
        refine j_aload_n F (pc := 31) (q := 0) (by decide +kernel) rfl ?_
        refine j_getR F (pc := 32) (hb.r hρ3 10 rfl) fl_X3_33 (hb.1 0 _ rfl) rfl (by decide +kernel) ?_
        refine j_iload_n F (pc := 35) (q := 3) (by decide +kernel) rfl ?_
        obtain ⟨hg, h⟩ := z_ifs h
        refine j_iald F (pc := 36) (hb.1 8 _ rfl) hg (by decide +kernel) ?_
        refine j_iconst F (pc := 37) (n := -1) (v := -1) (by decide +kernel) (by decide +kernel) ?_
        refine j_icmp_eq F (pc := 38) (off := 13) (tgt := 51) (by decide +kernel) (by decide) (fun c => ?_) (fun c => ?_)
        · rw [if_pos c] at h
          refine j_iconst F (pc := 51) (n := 3) (v := 3) (by decide +kernel) (by decide +kernel) ?_
          exact j_iret F Rt rfl (by decide +kernel) ⟨hρ3, _, rfl, (congrArg Prod.fst (Option.some.inj h)).symm, (congrArg Prod.snd (Option.some.inj h)).symm⟩
        · rw [if_neg c] at h
          refine j_aload_n F (pc := 41) (q := 0) (by decide +kernel) rfl ?_
          refine j_getR F (pc := 42) (hb.r hρ3 10 rfl) fl_X3_33 (hb.1 0 _ rfl) rfl (by decide +kernel) ?_
          refine j_iload_n F (pc := 45) (q := 3) (by decide +kernel) rfl ?_
          obtain ⟨hg, h⟩ := z_ifs h
          refine j_iald F (pc := 46) (hb.1 8 _ rfl) hg (by decide +kernel) ?_
          refine j_iload_n F (pc := 47) (q := 2) (by decide +kernel) rfl ?_
          refine j_icmp_le F (pc := 48) (off := 5) (tgt := 53) (by decide +kernel) (by decide) (fun c => ?_) (fun c => ?_)
          · rw [if_pos c] at h
            refine j_mk F [true, true, false, true] (L' := [some (.ref o), some (.ref o1), none, some (.int x3)]) rfl ?_
            refine u_X3_whyDead_53 F Rt hb hb1  _ _ hρ3 h
          · rw [if_neg c] at h
            refine j_iconst F (pc := 51) (n := 3) (v := 3) (by decide +kernel) (by decide +kernel) ?_
            exact j_iret F Rt rfl (by decide +kernel) ⟨hρ3, _, rfl, (congrArg Prod.fst (Option.some.inj h)).symm, (congrArg Prod.snd (Option.some.inj h)).symm⟩
    · rw [if_neg c] at h
      refine j_iconst F (pc := 22) (n := 2) (v := 2) (by decide +kernel) (by decide +kernel) ?_
      exact j_iret F Rt rfl (by decide +kernel) ⟨hρ3, _, rfl, (congrArg Prod.fst (Option.some.inj h)).symm, (congrArg Prod.snd (Option.some.inj h)).symm⟩
  · rw [if_neg c] at h
    refine j_iconst F (pc := 10) (n := 1) (v := 1) (by decide +kernel) (by decide +kernel) ?_
    exact j_iret F Rt rfl (by decide +kernel) ⟨hρ, _, rfl, (congrArg Prod.fst (Option.some.inj h)).symm, (congrArg Prod.snd (Option.some.inj h)).symm⟩
def g_X3_lastAlive_59 (o : Nat) (o1 : Nat)  (x2 : Int32) (xs0 : Int32) (μ : z_M) : Option (Int32 × z_M) :=
  (z_b2 (f_X3_lastUnbarred (o) (o1) (x2) μ) fun r8 μ9 => (some ((if r8 < xs0 then (-1 : Int32) else r8), μ9)))
def g_X3_lastAlive_28 (o : Nat) (o1 : Nat)  (x2 : Int32) (μ : z_M) : Option (Int32 × z_M) :=
  (if (μ.1 o1 12) = 0 then (if z_in x2 14 then (g_X3_lastAlive_59 o o1  (x2) ((μ.1 (o + 5) x2.toNatClampNeg)) μ) else none) else (if z_in x2 14 then (if z_in x2 14 then (g_X3_lastAlive_59 o o1  (x2) ((if (μ.1 (o + 5) x2.toNatClampNeg) < (μ.1 (o + 8) x2.toNatClampNeg) then (μ.1 (o + 8) x2.toNatClampNeg) else (μ.1 (o + 5) x2.toNatClampNeg))) μ) else none) else none))
def f_X3_lastAlive (o : Nat) (o1 : Nat) (x2 : Int32) (μ : z_M) : Option (Int32 × z_M) :=
  (z_b2 (f_X3_lacksLeave (o) (o1) (x2) μ) fun r1 μ2 => (if r1 = 0 then (if (μ2.1 o1 12) = 0 then (g_X3_lastAlive_28 o o1  (x2) μ2) else (if z_in x2 14 then (if (μ2.1 (o + 8) x2.toNatClampNeg) = (-1 : Int32) then (some ((-1 : Int32), μ2)) else (g_X3_lastAlive_28 o o1  (x2) μ2)) else none)) else (some ((-1 : Int32), μ2))))
set_option maxHeartbeats 4000000 in
set_option maxRecDepth 100000 in
theorem u_X3_lastAlive_59 {E : z_E} {ρ : Nat → Nat → Option Nat} {r : Int32} {μr : z_M} (F : z_F E RX3 cX3_lastAlive 5 2) (Rt : z_R E (some .int) (fun v μ1 => μ1.2.2 = ρ ∧ ∃ r1, v = some (.int r1) ∧ r = r1 ∧ μr = μ1)) {o : Nat} {o1 : Nat} (hb : z_blk z_shipS z_shipR (z_sh E.1) ρ o) (hb1 : z_blk z_lawS z_lawR (z_sh E.1) ρ o1) : ∀ (x2 : Int32) (xs0 : Int32) (μ : z_M), μ.2.2 = ρ → g_X3_lastAlive_59 o o1  x2 xs0 μ = some (r, μr) → z_J E 5 59 [some (.ref o), some (.ref o1), some (.int x2), none, none] [.int xs0] μ := by
  intro x2 xs0 μ hρ h
  unfold g_X3_lastAlive_59 at h
  refine j_istore_n F (pc := 59) (q := 3) (L' := [some (.ref o), some (.ref o1), some (.int x2), some (.int xs0), none]) (by decide +kernel) (by decide) rfl rfl ?_
  refine j_aload_n F (pc := 60) (q := 0) (by decide +kernel) rfl ?_
  refine j_aload_n F (pc := 61) (q := 1) (by decide +kernel) rfl ?_
  refine j_iload_n F (pc := 62) (q := 2) (by decide +kernel) rfl ?_
  obtain ⟨r8, μ9, hc11, h⟩ := z_b2_some h
  refine j_callVi F (pc := 63) (As := [.ref o1, .int x2]) (st := []) (t_X3_lastUnbarred (G := E.1) hρ hb hb1 hc11) q_X3_lastUnbarred v_X3_lastUnbarred m_650 (hb.1 0 _ rfl) rfl rfl (by decide) (Nat.le_of_ble_eq_true rfl) rfl (by decide +kernel) (fun s14 ν12 hq13 hp => ?_)
  obtain ⟨rfl, rfl⟩ := hp
  have hρ10 : μ9.2.2 = ρ := hq13.trans hρ
  refine j_istore F (pc := 66) (i := 4) (L' := [some (.ref o), some (.ref o1), some (.int x2), some (.int xs0), some (.int r8)]) (by decide +kernel) (by decide) rfl rfl ?_
  refine j_iload_n F (pc := 68) (q := 3) (by decide +kernel) rfl ?_
  refine j_iload F (pc := 69) (i := 4) (by decide +kernel) rfl ?_
  suffices hj : z_J E 5 80 [some (.ref o), some (.ref o1), some (.int x2), some (.int xs0), some (.int r8)] (.int (if r8 < xs0 then (-1 : Int32) else r8) :: []) μ9 by
    refine j_icmp_gt F (pc := 71) (off := 8) (tgt := 79) (by decide +kernel) (by decide) (fun c0 => ?_) (fun c0 => ?_)
    · rw [if_pos c0] at hj
      refine j_iconst F (pc := 79) (n := -1) (v := -1) (by decide +kernel) (by decide +kernel) ?_
      exact hj
    · rw [if_neg c0] at hj
      refine j_iload F (pc := 74) (i := 4) (by decide +kernel) rfl ?_
      refine j_goto F (pc := 76) (off := 4) (tgt := 80) (by decide +kernel) (by decide) ?_
      exact hj
  exact j_iret F Rt rfl (by decide +kernel) ⟨hρ10, _, rfl, (congrArg Prod.fst (Option.some.inj h)).symm, (congrArg Prod.snd (Option.some.inj h)).symm⟩
set_option maxHeartbeats 4000000 in
set_option maxRecDepth 100000 in
theorem u_X3_lastAlive_28 {E : z_E} {ρ : Nat → Nat → Option Nat} {r : Int32} {μr : z_M} (F : z_F E RX3 cX3_lastAlive 5 2) (Rt : z_R E (some .int) (fun v μ1 => μ1.2.2 = ρ ∧ ∃ r1, v = some (.int r1) ∧ r = r1 ∧ μr = μ1)) {o : Nat} {o1 : Nat} (hb : z_blk z_shipS z_shipR (z_sh E.1) ρ o) (hb1 : z_blk z_lawS z_lawR (z_sh E.1) ρ o1) : ∀ (x2 : Int32) (μ : z_M), μ.2.2 = ρ → g_X3_lastAlive_28 o o1  x2 μ = some (r, μr) → z_J E 5 28 [some (.ref o), some (.ref o1), some (.int x2), none, none] [] μ := by
  intro x2 μ hρ h
  unfold g_X3_lastAlive_28 at h
  refine j_aload_n F (pc := 28) (q := 1) (by decide +kernel) rfl ?_
  refine j_getI F (pc := 29) fl_X3_70 (hb1.1 0 _ rfl) rfl (by decide +kernel) ?_
  refine j_if_eq F (pc := 32) (off := 21) (tgt := 53) (by decide +kernel) (by decide) (fun c => ?_) (fun c => ?_)
  · rw [if_pos c] at h
    refine j_aload_n F (pc := 53) (q := 0) (by decide +kernel) rfl ?_
    refine j_getR F (pc := 54) (hb.r hρ 7 rfl) fl_X3_24 (hb.1 0 _ rfl) rfl (by decide +kernel) ?_
    refine j_iload_n F (pc := 57) (q := 2) (by decide +kernel) rfl ?_
    obtain ⟨hg, h⟩ := z_ifs h
    refine j_iald F (pc := 58) (hb.1 5 _ rfl) hg (by decide +kernel) ?_
    refine u_X3_lastAlive_59 F Rt hb hb1  _ _ _ hρ h
  · rw [if_neg c] at h
    refine j_aload_n F (pc := 35) (q := 0) (by decide +kernel) rfl ?_
    refine j_getR F (pc := 36) (hb.r hρ 7 rfl) fl_X3_24 (hb.1 0 _ rfl) rfl (by decide +kernel) ?_
    refine j_iload_n F (pc := 39) (q := 2) (by decide +kernel) rfl ?_
    obtain ⟨hg, h⟩ := z_ifs h
    refine j_iald F (pc := 40) (hb.1 5 _ rfl) hg (by decide +kernel) ?_
    refine j_aload_n F (pc := 41) (q := 0) (by decide +kernel) rfl ?_
    refine j_getR F (pc := 42) (hb.r hρ 10 rfl) fl_X3_33 (hb.1 0 _ rfl) rfl (by decide +kernel) ?_
    refine j_iload_n F (pc := 45) (q := 2) (by decide +kernel) rfl ?_
    obtain ⟨hg, h⟩ := z_ifs h
    refine j_iald F (pc := 46) (hb.1 8 _ rfl) hg (by decide +kernel) ?_
    refine j_mmax F (pc := 47) ⟨m_670, m_552, m_88, m_553⟩ (by decide) (Nat.le_of_ble_eq_true rfl) (by decide +kernel) ?_
    refine j_goto F (pc := 50) (off := 9) (tgt := 59) (by decide +kernel) (by decide) ?_
    refine u_X3_lastAlive_59 F Rt hb hb1  _ _ _ hρ h
set_option maxHeartbeats 4000000 in
set_option maxRecDepth 100000 in
theorem t_X3_lastAlive {G : z_Gl} {ρ : Nat → Nat → Option Nat} {μ : z_M} {r : Int32} {μr : z_M} {o : Nat} {o1 : Nat} {x2 : Int32} (hρ : μ.2.2 = ρ) (hb : z_blk z_shipS z_shipR (z_sh G) ρ o) (hb1 : z_blk z_lawS z_lawR (z_sh G) ρ o1) (h : f_X3_lastAlive o o1 x2 μ = some (r, μr)) : z_Ci G yX3_lastAlive cX3_lastAlive 5 (some .int) 2 [.ref o, .ref o1, .int x2] μ (fun r1 μ1 => r = r1 ∧ μr = μ1) := by
  unfold z_Ci
  refine z_intro (by decide +kernel) (Nat.le_of_ble_eq_true rfl) (fun E hE F Rt => ?_)
  subst hE
  have F : z_F E RX3 cX3_lastAlive 5 2 := F
  rw [hρ] at Rt
  unfold f_X3_lastAlive at h
  show z_J E 5 0 [some (.ref o), some (.ref o1), some (.int x2), none, none] [] μ
  refine j_aload_n F (pc := 0) (q := 0) (by decide +kernel) rfl ?_
  refine j_aload_n F (pc := 1) (q := 1) (by decide +kernel) rfl ?_
  refine j_iload_n F (pc := 2) (q := 2) (by decide +kernel) rfl ?_
  obtain ⟨r1, μ2, hc4, h⟩ := z_b2_some h
  refine j_callVi F (pc := 3) (As := [.ref o1, .int x2]) (st := []) (t_X3_lacksLeave (G := E.1) hρ hb hb1 hc4) q_X3_lacksLeave v_X3_lacksLeave m_657 (hb.1 0 _ rfl) rfl rfl (by decide) (Nat.le_of_ble_eq_true rfl) rfl (by decide +kernel) (fun s7 ν5 hq6 hp => ?_)
  obtain ⟨rfl, rfl⟩ := hp
  have hρ3 : μ2.2.2 = ρ := hq6.trans hρ
  refine j_if_ne F (pc := 6) (off := 20) (tgt := 26) (by decide +kernel) (by decide) (fun c => ?_) (fun c => ?_)
  · rw [if_neg c] at h
    refine j_iconst F (pc := 26) (n := -1) (v := -1) (by decide +kernel) (by decide +kernel) ?_
    exact j_iret F Rt rfl (by decide +kernel) ⟨hρ3, _, rfl, (congrArg Prod.fst (Option.some.inj h)).symm, (congrArg Prod.snd (Option.some.inj h)).symm⟩
  · rw [if_pos c] at h
    refine j_aload_n F (pc := 9) (q := 1) (by decide +kernel) rfl ?_
    refine j_getI F (pc := 10) fl_X3_70 (hb1.1 0 _ rfl) rfl (by decide +kernel) ?_
    refine j_if_eq F (pc := 13) (off := 15) (tgt := 28) (by decide +kernel) (by decide) (fun c => ?_) (fun c => ?_)
    · rw [if_pos c] at h
      refine u_X3_lastAlive_28 F Rt hb hb1  _ _ hρ3 h
    · rw [if_neg c] at h
      refine j_aload_n F (pc := 16) (q := 0) (by decide +kernel) rfl ?_
      refine j_getR F (pc := 17) (hb.r hρ3 10 rfl) fl_X3_33 (hb.1 0 _ rfl) rfl (by decide +kernel) ?_
      refine j_iload_n F (pc := 20) (q := 2) (by decide +kernel) rfl ?_
      obtain ⟨hg, h⟩ := z_ifs h
      refine j_iald F (pc := 21) (hb.1 8 _ rfl) hg (by decide +kernel) ?_
      refine j_iconst F (pc := 22) (n := -1) (v := -1) (by decide +kernel) (by decide +kernel) ?_
      refine j_icmp_ne F (pc := 23) (off := 5) (tgt := 28) (by decide +kernel) (by decide) (fun c => ?_) (fun c => ?_)
      · rw [if_neg c] at h
        refine u_X3_lastAlive_28 F Rt hb hb1  _ _ hρ3 h
      · rw [if_pos c] at h
        refine j_iconst F (pc := 26) (n := -1) (v := -1) (by decide +kernel) (by decide +kernel) ?_
        exact j_iret F Rt rfl (by decide +kernel) ⟨hρ3, _, rfl, (congrArg Prod.fst (Option.some.inj h)).symm, (congrArg Prod.snd (Option.some.inj h)).symm⟩
/-- LastLent$Law.standingOf -/
def f_X0_standingOf (o : Nat) (x1 : Int32) (x2 : Int32) (x3 : Int32) (μ : z_M) : Option (Int32 × z_M) :=
  (z_b2 (f_X4_bit ((μ.1 o 4)) (x1) μ) fun r1 μ2 => (z_b2 (f_X4_bit ((μ2.1 o 5)) (x1) μ2) fun r8 μ9 => (z_lt (((1 : Int32) - r1) + r8) fun x_15 => (z_lt (if (μ9.1 o 11) = 0 then (0 : Int32) else (if x_15 = (1 : Int32) then ((5 : Int32) - x2) else (0 : Int32))) fun x_17 => (z_lt (if (μ9.1 o 9) = (1 : Int32) then ((999 : Int32) - x3) else (if (μ9.1 o 9) = (2 : Int32) then x3 else (0 : Int32))) fun x_19 => (if z_in x1 8 then (some (((((((x_15 * (7 : Int32)) + x_17) * (8 : Int32)) + (μ9.1 (o + 4) x1.toNatClampNeg)) * (1000 : Int32)) + x_19), μ9)) else none))))))
set_option maxHeartbeats 4000000 in
set_option maxRecDepth 100000 in
theorem t_X0_standingOf {G : z_Gl} {ρ : Nat → Nat → Option Nat} {μ : z_M} {r : Int32} {μr : z_M} {o : Nat} {x1 : Int32} {x2 : Int32} {x3 : Int32} (hρ : μ.2.2 = ρ) (hb : z_blk z_lawS z_lawR (z_sh G) ρ o) (h : f_X0_standingOf o x1 x2 x3 μ = some (r, μr)) : z_Ci G yX0_standingOf cX0_standingOf 7 (some .int) 1 [.ref o, .int x1, .int x2, .int x3] μ (fun r1 μ1 => r = r1 ∧ μr = μ1) := by
  unfold z_Ci
  refine z_intro (by decide +kernel) (Nat.le_of_ble_eq_true rfl) (fun E hE F Rt => ?_)
  subst hE
  have F : z_F E RX0 cX0_standingOf 7 1 := F
  rw [hρ] at Rt
  unfold f_X0_standingOf at h
  show z_J E 7 0 [some (.ref o), some (.int x1), some (.int x2), some (.int x3), none, none, none] [] μ
  refine j_iconst F (pc := 0) (n := 1) (v := 1) (by decide +kernel) (by decide +kernel) ?_
  refine j_aload_n F (pc := 1) (q := 0) (by decide +kernel) rfl ?_
  refine j_getI F (pc := 2) fl_X0_27 (hb.1 0 _ rfl) rfl (by decide +kernel) ?_
  refine j_iload_n F (pc := 5) (q := 1) (by decide +kernel) rfl ?_
  obtain ⟨r1, μ2, hc4, h⟩ := z_b2_some h
  refine j_callNi F (pc := 6) (As := [.int (μ.1 o 4), .int x1]) (st := [.int (1 : Int32)]) (t_X4_bit (G := E.1) hρ  hc4) q_X4_bit m_474 (by decide +kernel) rfl (by decide) (Nat.le_of_ble_eq_true rfl) rfl (by decide +kernel) (fun s7 ν5 hq6 hp => ?_)
  obtain ⟨rfl, rfl⟩ := hp
  have hρ3 : μ2.2.2 = ρ := hq6.trans hρ
  refine j_isub F (pc := 9) (by decide +kernel) ?_
  refine j_aload_n F (pc := 10) (q := 0) (by decide +kernel) rfl ?_
  refine j_getI F (pc := 11) fl_X0_31 (hb.1 0 _ rfl) rfl (by decide +kernel) ?_
  refine j_iload_n F (pc := 14) (q := 1) (by decide +kernel) rfl ?_
  obtain ⟨r8, μ9, hc11, h⟩ := z_b2_some h
  refine j_callNi F (pc := 15) (As := [.int (μ2.1 o 5), .int x1]) (st := [.int ((1 : Int32) - r1)]) (t_X4_bit (G := E.1) hρ3  hc11) q_X4_bit m_474 (by decide +kernel) rfl (by decide) (Nat.le_of_ble_eq_true rfl) rfl (by decide +kernel) (fun s14 ν12 hq13 hp => ?_)
  obtain ⟨rfl, rfl⟩ := hp
  have hρ10 : μ9.2.2 = ρ := hq13.trans hρ3
  refine j_iadd F (pc := 18) (by decide +kernel) ?_
  obtain ⟨x_15, e16, h⟩ := z_lt_some h
  rw [← e16]
  refine j_istore F (pc := 19) (i := 4) (L' := [some (.ref o), some (.int x1), some (.int x2), some (.int x3), some (.int x_15), none, none]) (by decide +kernel) (by decide) rfl rfl ?_
  refine j_aload_n F (pc := 21) (q := 0) (by decide +kernel) rfl ?_
  refine j_getI F (pc := 22) fl_X0_49 (hb.1 0 _ rfl) rfl (by decide +kernel) ?_
  suffices hj : z_J E 7 41 [some (.ref o), some (.int x1), some (.int x2), some (.int x3), some (.int x_15), none, none] (.int (if (μ9.1 o 11) = 0 then (0 : Int32) else (if x_15 = (1 : Int32) then ((5 : Int32) - x2) else (0 : Int32))) :: []) μ9 by
    refine j_if_eq F (pc := 25) (off := 15) (tgt := 40) (by decide +kernel) (by decide) (fun c0 => ?_) (fun c0 => ?_)
    · rw [if_pos c0] at hj
      refine j_iconst F (pc := 40) (n := 0) (v := 0) (by decide +kernel) (by decide +kernel) ?_
      exact hj
    · rw [if_neg c0] at hj
      refine j_iload F (pc := 28) (i := 4) (by decide +kernel) rfl ?_
      refine j_iconst F (pc := 30) (n := 1) (v := 1) (by decide +kernel) (by decide +kernel) ?_
      refine j_icmp_ne F (pc := 31) (off := 9) (tgt := 40) (by decide +kernel) (by decide) (fun c1 => ?_) (fun c1 => ?_)
      · rw [if_neg c1] at hj
        refine j_iconst F (pc := 40) (n := 0) (v := 0) (by decide +kernel) (by decide +kernel) ?_
        exact hj
      · rw [if_pos c1] at hj
        refine j_iconst F (pc := 34) (n := 5) (v := 5) (by decide +kernel) (by decide +kernel) ?_
        refine j_iload_n F (pc := 35) (q := 2) (by decide +kernel) rfl ?_
        refine j_isub F (pc := 36) (by decide +kernel) ?_
        refine j_goto F (pc := 37) (off := 4) (tgt := 41) (by decide +kernel) (by decide) ?_
        exact hj
  obtain ⟨x_17, e18, h⟩ := z_lt_some h
  rw [← e18]
  refine j_istore F (pc := 41) (i := 5) (L' := [some (.ref o), some (.int x1), some (.int x2), some (.int x3), some (.int x_15), some (.int x_17), none]) (by decide +kernel) (by decide) rfl rfl ?_
  refine j_aload_n F (pc := 43) (q := 0) (by decide +kernel) rfl ?_
  refine j_getI F (pc := 44) fl_X0_43 (hb.1 0 _ rfl) rfl (by decide +kernel) ?_
  refine j_iconst F (pc := 47) (n := 1) (v := 1) (by decide +kernel) (by decide +kernel) ?_
  suffices hj : z_J E 7 72 [some (.ref o), some (.int x1), some (.int x2), some (.int x3), some (.int x_15), some (.int x_17), none] (.int (if (μ9.1 o 9) = (1 : Int32) then ((999 : Int32) - x3) else (if (μ9.1 o 9) = (2 : Int32) then x3 else (0 : Int32))) :: []) μ9 by
    refine j_icmp_ne F (pc := 48) (off := 11) (tgt := 59) (by decide +kernel) (by decide) (fun c0 => ?_) (fun c0 => ?_)
    · rw [if_neg c0] at hj
      refine j_aload_n F (pc := 59) (q := 0) (by decide +kernel) rfl ?_
      refine j_getI F (pc := 60) fl_X0_43 (hb.1 0 _ rfl) rfl (by decide +kernel) ?_
      refine j_iconst F (pc := 63) (n := 2) (v := 2) (by decide +kernel) (by decide +kernel) ?_
      refine j_icmp_ne F (pc := 64) (off := 7) (tgt := 71) (by decide +kernel) (by decide) (fun c1 => ?_) (fun c1 => ?_)
      · rw [if_neg c1] at hj
        refine j_iconst F (pc := 71) (n := 0) (v := 0) (by decide +kernel) (by decide +kernel) ?_
        exact hj
      · rw [if_pos c1] at hj
        refine j_iload_n F (pc := 67) (q := 3) (by decide +kernel) rfl ?_
        refine j_goto F (pc := 68) (off := 4) (tgt := 72) (by decide +kernel) (by decide) ?_
        exact hj
    · rw [if_pos c0] at hj
      refine j_sipush F (pc := 51) (n := 999) (v := 999) (by decide +kernel) (by decide +kernel) ?_
      refine j_iload_n F (pc := 54) (q := 3) (by decide +kernel) rfl ?_
      refine j_isub F (pc := 55) (by decide +kernel) ?_
      refine j_goto F (pc := 56) (off := 16) (tgt := 72) (by decide +kernel) (by decide) ?_
      exact hj
  obtain ⟨x_19, e20, h⟩ := z_lt_some h
  rw [← e20]
  refine j_istore F (pc := 72) (i := 6) (L' := [some (.ref o), some (.int x1), some (.int x2), some (.int x3), some (.int x_15), some (.int x_17), some (.int x_19)]) (by decide +kernel) (by decide) rfl rfl ?_
  refine j_iload F (pc := 74) (i := 4) (by decide +kernel) rfl ?_
  refine j_bipush F (pc := 76) (n := 7) (v := 7) (by decide +kernel) (by decide +kernel) ?_
  refine j_imul F (pc := 78) (by decide +kernel) ?_
  refine j_iload F (pc := 79) (i := 5) (by decide +kernel) rfl ?_
  refine j_iadd F (pc := 81) (by decide +kernel) ?_
  refine j_bipush F (pc := 82) (n := 8) (v := 8) (by decide +kernel) (by decide +kernel) ?_
  refine j_imul F (pc := 84) (by decide +kernel) ?_
  refine j_aload_n F (pc := 85) (q := 0) (by decide +kernel) rfl ?_
  refine j_getR F (pc := 86) (hb.r hρ10 3 rfl) fl_X0_21 (hb.1 0 _ rfl) rfl (by decide +kernel) ?_
  refine j_iload_n F (pc := 89) (q := 1) (by decide +kernel) rfl ?_
  obtain ⟨hg, h⟩ := z_ifs h
  refine j_iald F (pc := 90) (hb.1 4 _ rfl) hg (by decide +kernel) ?_
  refine j_iadd F (pc := 91) (by decide +kernel) ?_
  refine j_sipush F (pc := 92) (n := 1000) (v := 1000) (by decide +kernel) (by decide +kernel) ?_
  refine j_imul F (pc := 95) (by decide +kernel) ?_
  refine j_iload F (pc := 96) (i := 6) (by decide +kernel) rfl ?_
  refine j_iadd F (pc := 98) (by decide +kernel) ?_
  exact j_iret F Rt rfl (by decide +kernel) ⟨hρ10, _, rfl, (congrArg Prod.fst (Option.some.inj h)).symm, (congrArg Prod.snd (Option.some.inj h)).symm⟩
/-- LastLent$Ship.standing -/
def f_X3_standing (o : Nat) (o1 : Nat) (x2 : Int32) (μ : z_M) : Option (Int32 × z_M) :=
  (if z_in x2 14 then (z_b2 (f_X3_voyageOf (o) (x2) μ) fun r1 μ2 => (if z_in x2 14 then (z_b2 (f_X0_standingOf (o1) ((μ.1 (o + 3) x2.toNatClampNeg)) (r1) ((μ2.1 (o + 5) x2.toNatClampNeg)) μ2) fun r8 μ9 => (some (r8, μ9))) else none)) else none)
set_option maxHeartbeats 4000000 in
set_option maxRecDepth 100000 in
theorem t_X3_standing {G : z_Gl} {ρ : Nat → Nat → Option Nat} {μ : z_M} {r : Int32} {μr : z_M} {o : Nat} {o1 : Nat} {x2 : Int32} (hρ : μ.2.2 = ρ) (hb : z_blk z_shipS z_shipR (z_sh G) ρ o) (hb1 : z_blk z_lawS z_lawR (z_sh G) ρ o1) (h : f_X3_standing o o1 x2 μ = some (r, μr)) : z_Ci G yX3_standing cX3_standing 3 (some .int) 2 [.ref o, .ref o1, .int x2] μ (fun r1 μ1 => r = r1 ∧ μr = μ1) := by
  unfold z_Ci
  refine z_intro (by decide +kernel) (Nat.le_of_ble_eq_true rfl) (fun E hE F Rt => ?_)
  subst hE
  have F : z_F E RX3 cX3_standing 3 2 := F
  rw [hρ] at Rt
  unfold f_X3_standing at h
  show z_J E 3 0 [some (.ref o), some (.ref o1), some (.int x2)] [] μ
  refine j_aload_n F (pc := 0) (q := 1) (by decide +kernel) rfl ?_
  refine j_aload_n F (pc := 1) (q := 0) (by decide +kernel) rfl ?_
  refine j_getR F (pc := 2) (hb.r hρ 5 rfl) fl_X3_18 (hb.1 0 _ rfl) rfl (by decide +kernel) ?_
  refine j_iload_n F (pc := 5) (q := 2) (by decide +kernel) rfl ?_
  obtain ⟨hg, h⟩ := z_ifs h
  refine j_iald F (pc := 6) (hb.1 3 _ rfl) hg (by decide +kernel) ?_
  refine j_aload_n F (pc := 7) (q := 0) (by decide +kernel) rfl ?_
  refine j_iload_n F (pc := 8) (q := 2) (by decide +kernel) rfl ?_
  obtain ⟨r1, μ2, hc4, h⟩ := z_b2_some h
  refine j_callVi F (pc := 9) (As := [.int x2]) (st := [.int (μ.1 (o + 3) x2.toNatClampNeg), .ref o1]) (t_X3_voyageOf (G := E.1) hρ hb hc4) q_X3_voyageOf v_X3_voyageOf m_679 (hb.1 0 _ rfl) rfl rfl (by decide) (Nat.le_of_ble_eq_true rfl) rfl (by decide +kernel) (fun s7 ν5 hq6 hp => ?_)
  obtain ⟨rfl, rfl⟩ := hp
  have hρ3 : μ2.2.2 = ρ := hq6.trans hρ
  refine j_aload_n F (pc := 12) (q := 0) (by decide +kernel) rfl ?_
  refine j_getR F (pc := 13) (hb.r hρ3 7 rfl) fl_X3_24 (hb.1 0 _ rfl) rfl (by decide +kernel) ?_
  refine j_iload_n F (pc := 16) (q := 2) (by decide +kernel) rfl ?_
  obtain ⟨hg, h⟩ := z_ifs h
  refine j_iald F (pc := 17) (hb.1 5 _ rfl) hg (by decide +kernel) ?_
  obtain ⟨r8, μ9, hc11, h⟩ := z_b2_some h
  refine j_callVi F (pc := 18) (As := [.int (μ.1 (o + 3) x2.toNatClampNeg), .int r1, .int (μ2.1 (o + 5) x2.toNatClampNeg)]) (st := []) (t_X0_standingOf (G := E.1) hρ3 hb1 hc11) q_X0_standingOf v_X0_standingOf m_680 (hb1.1 0 _ rfl) rfl rfl (by decide) (Nat.le_of_ble_eq_true rfl) rfl (by decide +kernel) (fun s14 ν12 hq13 hp => ?_)
  obtain ⟨rfl, rfl⟩ := hp
  have hρ10 : μ9.2.2 = ρ := hq13.trans hρ3
  exact j_iret F Rt rfl (by decide +kernel) ⟨hρ10, _, rfl, (congrArg Prod.fst (Option.some.inj h)).symm, (congrArg Prod.snd (Option.some.inj h)).symm⟩
/-- java/lang/Integer.compare -/
def f_J6_compare_7cf53 (x0 : Int32) (x1 : Int32) (μ : z_M) : Option (Int32 × z_M) :=
  (some ((if x1 ≤ x0 then (if x0 = x1 then (0 : Int32) else (1 : Int32)) else (-1 : Int32)), μ))
set_option maxHeartbeats 4000000 in
set_option maxRecDepth 100000 in
theorem t_J6_compare_7cf53 {G : z_Gl} {ρ : Nat → Nat → Option Nat} {μ : z_M} {r : Int32} {μr : z_M} {x0 : Int32} {x1 : Int32} (hρ : μ.2.2 = ρ)  (h : f_J6_compare_7cf53 x0 x1 μ = some (r, μr)) : z_Ci G yJ6_compare_7cf53 cJ6_compare_7cf53 2 (some .int) 0 [.int x0, .int x1] μ (fun r1 μ1 => r = r1 ∧ μr = μ1) := by
  unfold z_Ci
  refine z_intro (by decide +kernel) (Nat.le_of_ble_eq_true rfl) (fun E hE F Rt => ?_)
  subst hE
  have F : z_F E RJ6 cJ6_compare_7cf53 2 0 := F
  rw [hρ] at Rt
  unfold f_J6_compare_7cf53 at h
  show z_J E 2 0 [some (.int x0), some (.int x1)] [] μ
  refine j_iload_n F (pc := 0) (q := 0) (by decide +kernel) rfl ?_
  refine j_iload_n F (pc := 1) (q := 1) (by decide +kernel) rfl ?_
  suffices hj : z_J E 2 19 [some (.int x0), some (.int x1)] (.int (if x1 ≤ x0 then (if x0 = x1 then (0 : Int32) else (1 : Int32)) else (-1 : Int32)) :: []) μ by
    refine j_icmp_ge F (pc := 2) (off := 7) (tgt := 9) (by decide +kernel) (by decide) (fun c0 => ?_) (fun c0 => ?_)
    · rw [if_pos c0] at hj
      refine j_iload_n F (pc := 9) (q := 0) (by decide +kernel) rfl ?_
      refine j_iload_n F (pc := 10) (q := 1) (by decide +kernel) rfl ?_
      refine j_icmp_ne F (pc := 11) (off := 7) (tgt := 18) (by decide +kernel) (by decide) (fun c1 => ?_) (fun c1 => ?_)
      · rw [if_neg c1] at hj
        refine j_iconst F (pc := 18) (n := 1) (v := 1) (by decide +kernel) (by decide +kernel) ?_
        exact hj
      · rw [if_pos c1] at hj
        refine j_iconst F (pc := 14) (n := 0) (v := 0) (by decide +kernel) (by decide +kernel) ?_
        refine j_goto F (pc := 15) (off := 4) (tgt := 19) (by decide +kernel) (by decide) ?_
        exact hj
    · rw [if_neg c0] at hj
      refine j_iconst F (pc := 5) (n := -1) (v := -1) (by decide +kernel) (by decide +kernel) ?_
      refine j_goto F (pc := 6) (off := 13) (tgt := 19) (by decide +kernel) (by decide) ?_
      exact hj
  exact j_iret F Rt rfl (by decide +kernel) ⟨hρ, _, rfl, (congrArg Prod.fst (Option.some.inj h)).symm, (congrArg Prod.snd (Option.some.inj h)).symm⟩
/-- LastLent$Law.fundsFor -/
def f_X0_fundsFor (o : Nat) (x1 : Int32) (x2 : Int32) (μ : z_M) : Option (Int32 × z_M) :=
  (if z_in x1 8 then (z_b2 (f_X4_bit ((μ.1 (o + 1) x1.toNatClampNeg)) ((2 : Int32)) μ) fun r1 μ2 => (z_lt (if r1 = (1 : Int32) then (x2 <<< ((2 : Int32) &&& 31)) else (0 : Int32)) fun x_8 => (if z_in x1 8 then (some ((((μ2.1 (o + 1) x1.toNatClampNeg) &&& (3 : Int32)) ||| x_8), μ2)) else none))) else none)
set_option maxHeartbeats 4000000 in
set_option maxRecDepth 100000 in
theorem t_X0_fundsFor {G : z_Gl} {ρ : Nat → Nat → Option Nat} {μ : z_M} {r : Int32} {μr : z_M} {o : Nat} {x1 : Int32} {x2 : Int32} (hρ : μ.2.2 = ρ) (hb : z_blk z_lawS z_lawR (z_sh G) ρ o) (h : f_X0_fundsFor o x1 x2 μ = some (r, μr)) : z_Ci G yX0_fundsFor cX0_fundsFor 4 (some .int) 1 [.ref o, .int x1, .int x2] μ (fun r1 μ1 => r = r1 ∧ μr = μ1) := by
  unfold z_Ci
  refine z_intro (by decide +kernel) (Nat.le_of_ble_eq_true rfl) (fun E hE F Rt => ?_)
  subst hE
  have F : z_F E RX0 cX0_fundsFor 4 1 := F
  rw [hρ] at Rt
  unfold f_X0_fundsFor at h
  show z_J E 4 0 [some (.ref o), some (.int x1), some (.int x2), none] [] μ
  refine j_aload_n F (pc := 0) (q := 0) (by decide +kernel) rfl ?_
  refine j_getR F (pc := 1) (hb.r hρ 0 rfl) fl_X0_9 (hb.1 0 _ rfl) rfl (by decide +kernel) ?_
  refine j_iload_n F (pc := 4) (q := 1) (by decide +kernel) rfl ?_
  obtain ⟨hg, h⟩ := z_ifs h
  refine j_iald F (pc := 5) (hb.1 1 _ rfl) hg (by decide +kernel) ?_
  refine j_iconst F (pc := 6) (n := 2) (v := 2) (by decide +kernel) (by decide +kernel) ?_
  obtain ⟨r1, μ2, hc4, h⟩ := z_b2_some h
  refine j_callNi F (pc := 7) (As := [.int (μ.1 (o + 1) x1.toNatClampNeg), .int (2 : Int32)]) (st := []) (t_X4_bit (G := E.1) hρ  hc4) q_X4_bit m_474 (by decide +kernel) rfl (by decide) (Nat.le_of_ble_eq_true rfl) rfl (by decide +kernel) (fun s7 ν5 hq6 hp => ?_)
  obtain ⟨rfl, rfl⟩ := hp
  have hρ3 : μ2.2.2 = ρ := hq6.trans hρ
  refine j_iconst F (pc := 10) (n := 1) (v := 1) (by decide +kernel) (by decide +kernel) ?_
  suffices hj : z_J E 4 21 [some (.ref o), some (.int x1), some (.int x2), none] (.int (if r1 = (1 : Int32) then (x2 <<< ((2 : Int32) &&& 31)) else (0 : Int32)) :: []) μ2 by
    refine j_icmp_ne F (pc := 11) (off := 9) (tgt := 20) (by decide +kernel) (by decide) (fun c0 => ?_) (fun c0 => ?_)
    · rw [if_neg c0] at hj
      refine j_iconst F (pc := 20) (n := 0) (v := 0) (by decide +kernel) (by decide +kernel) ?_
      exact hj
    · rw [if_pos c0] at hj
      refine j_iload_n F (pc := 14) (q := 2) (by decide +kernel) rfl ?_
      refine j_iconst F (pc := 15) (n := 2) (v := 2) (by decide +kernel) (by decide +kernel) ?_
      refine j_ishl F (pc := 16) (by decide +kernel) ?_
      refine j_goto F (pc := 17) (off := 4) (tgt := 21) (by decide +kernel) (by decide) ?_
      exact hj
  obtain ⟨x_8, e9, h⟩ := z_lt_some h
  rw [← e9]
  refine j_istore_n F (pc := 21) (q := 3) (L' := [some (.ref o), some (.int x1), some (.int x2), some (.int x_8)]) (by decide +kernel) (by decide) rfl rfl ?_
  refine j_aload_n F (pc := 22) (q := 0) (by decide +kernel) rfl ?_
  refine j_getR F (pc := 23) (hb.r hρ3 0 rfl) fl_X0_9 (hb.1 0 _ rfl) rfl (by decide +kernel) ?_
  refine j_iload_n F (pc := 26) (q := 1) (by decide +kernel) rfl ?_
  obtain ⟨hg, h⟩ := z_ifs h
  refine j_iald F (pc := 27) (hb.1 1 _ rfl) hg (by decide +kernel) ?_
  refine j_iconst F (pc := 28) (n := 3) (v := 3) (by decide +kernel) (by decide +kernel) ?_
  refine j_iand F (pc := 29) (by decide +kernel) ?_
  refine j_iload_n F (pc := 30) (q := 3) (by decide +kernel) rfl ?_
  refine j_ior F (pc := 31) (by decide +kernel) ?_
  exact j_iret F Rt rfl (by decide +kernel) ⟨hρ3, _, rfl, (congrArg Prod.fst (Option.some.inj h)).symm, (congrArg Prod.snd (Option.some.inj h)).symm⟩
end
section
/-! functions and contracts, written by wip/whole/dec.py -/
/-- LastLent.isWay -/
def f_X4_isWay (x0 : Int32) (μ : z_M) : Option (Int32 × z_M) :=
  (some ((if x0 < 0 then (0 : Int32) else (if (2 : Int32) ≤ x0 then (0 : Int32) else (1 : Int32))), μ))
set_option maxHeartbeats 4000000 in
set_option maxRecDepth 100000 in
theorem t_X4_isWay {G : z_Gl} {ρ : Nat → Nat → Option Nat} {μ : z_M} {r : Int32} {μr : z_M} {x0 : Int32} (hρ : μ.2.2 = ρ)  (h : f_X4_isWay x0 μ = some (r, μr)) : z_Ci G yX4_isWay cX4_isWay 1 (some .boolean) 0 [.int x0] μ (fun r1 μ1 => r = r1 ∧ μr = μ1) := by
  unfold z_Ci
  refine z_intro (by decide +kernel) (Nat.le_of_ble_eq_true rfl) (fun E hE F Rt => ?_)
  subst hE
  have F : z_F E RX4 cX4_isWay 1 0 := F
  rw [hρ] at Rt
  unfold f_X4_isWay at h
  show z_J E 1 0 [some (.int x0)] [] μ
  refine j_iload_n F (pc := 0) (q := 0) (by decide +kernel) rfl ?_
  suffices hj : z_J E 1 14 [some (.int x0)] (.int (if x0 < 0 then (0 : Int32) else (if (2 : Int32) ≤ x0 then (0 : Int32) else (1 : Int32))) :: []) μ by
    refine j_if_lt F (pc := 1) (off := 12) (tgt := 13) (by decide +kernel) (by decide) (fun c0 => ?_) (fun c0 => ?_)
    · rw [if_pos c0] at hj
      refine j_iconst F (pc := 13) (n := 0) (v := 0) (by decide +kernel) (by decide +kernel) ?_
      exact hj
    · rw [if_neg c0] at hj
      refine j_iload_n F (pc := 4) (q := 0) (by decide +kernel) rfl ?_
      refine j_iconst F (pc := 5) (n := 2) (v := 2) (by decide +kernel) (by decide +kernel) ?_
      refine j_icmp_ge F (pc := 6) (off := 7) (tgt := 13) (by decide +kernel) (by decide) (fun c1 => ?_) (fun c1 => ?_)
      · rw [if_pos c1] at hj
        refine j_iconst F (pc := 13) (n := 0) (v := 0) (by decide +kernel) (by decide +kernel) ?_
        exact hj
      · rw [if_neg c1] at hj
        refine j_iconst F (pc := 9) (n := 1) (v := 1) (by decide +kernel) (by decide +kernel) ?_
        refine j_goto F (pc := 10) (off := 4) (tgt := 14) (by decide +kernel) (by decide) ?_
        exact hj
  exact j_iret F Rt (z_nb (by repeat' (first | exact Or.inl rfl | exact Or.inr rfl | split))) (by decide +kernel) ⟨hρ, _, rfl, (congrArg Prod.fst (Option.some.inj h)).symm, (congrArg Prod.snd (Option.some.inj h)).symm⟩
/-- LastLent.copyRow -/
def f_X4_copyRow (a0 : Nat) (n0 : Nat) (a1 : Nat) (n1 : Nat) (μ : z_M) : Option z_M :=
  (if (¬ (0 : Int32) < 0) ∧ (¬ (0 : Int32) < 0) ∧ (¬ (if (Int32.ofNat n1) < (Int32.ofNat n0) then (Int32.ofNat n1) else (Int32.ofNat n0)) < 0) ∧ ((0 : Int32).toNatClampNeg + (if (Int32.ofNat n1) < (Int32.ofNat n0) then (Int32.ofNat n1) else (Int32.ofNat n0)).toNatClampNeg ≤ n0) ∧ ((0 : Int32).toNatClampNeg + (if (Int32.ofNat n1) < (Int32.ofNat n0) then (Int32.ofNat n1) else (Int32.ofNat n0)).toNatClampNeg ≤ n1) then (z_st (z_sw μ a1 (va_cpy (μ.1 a0) (μ.1 a1) (0 : Int32).toNatClampNeg (0 : Int32).toNatClampNeg (if (Int32.ofNat n1) < (Int32.ofNat n0) then (Int32.ofNat n1) else (Int32.ofNat n0)).toNatClampNeg)) fun μ1 => (some μ1)) else none)
set_option maxHeartbeats 4000000 in
set_option maxRecDepth 100000 in
theorem t_X4_copyRow {G : z_Gl} {ρ : Nat → Nat → Option Nat} {μ : z_M} {μr : z_M} {a0 : Nat} {n0 : Nat} {a1 : Nat} {n1 : Nat} (hρ : μ.2.2 = ρ) (ha0 : (z_sh G)[a0]? = some (.inl (0, n0))) (ha1 : (z_sh G)[a1]? = some (.inl (0, n1))) (h : f_X4_copyRow a0 n0 a1 n1 μ = some μr) : z_Cv G yX4_copyRow cX4_copyRow 2 none 1 [.ref a0, .ref a1] μ (fun μ1 => μr = μ1) := by
  unfold z_Cv
  refine z_intro (by decide +kernel) (Nat.le_of_ble_eq_true rfl) (fun E hE F Rt => ?_)
  subst hE
  have F : z_F E RX4 cX4_copyRow 2 1 := F
  rw [hρ] at Rt
  unfold f_X4_copyRow at h
  show z_J E 2 0 [some (.ref a0), some (.ref a1)] [] μ
  refine j_aload_n F (pc := 0) (q := 0) (by decide +kernel) rfl ?_
  refine j_iconst F (pc := 1) (n := 0) (v := 0) (by decide +kernel) (by decide +kernel) ?_
  refine j_aload_n F (pc := 2) (q := 1) (by decide +kernel) rfl ?_
  refine j_iconst F (pc := 3) (n := 0) (v := 0) (by decide +kernel) (by decide +kernel) ?_
  refine j_aload_n F (pc := 4) (q := 0) (by decide +kernel) rfl ?_
  refine j_alen F (pc := 5) ha0 (by decide) rfl (by decide +kernel) ?_
  refine j_aload_n F (pc := 6) (q := 1) (by decide +kernel) rfl ?_
  refine j_alen F (pc := 7) ha1 (by decide) rfl (by decide +kernel) ?_
  refine j_mmin F (pc := 8) ⟨m_725, m_655, m_88, m_656⟩ (by decide) (Nat.le_of_ble_eq_true rfl) (by decide +kernel) ?_
  obtain ⟨hg, h⟩ := z_ifs h
  refine j_acopy F (pc := 11) ⟨m_726, m_728, m_727, m_90⟩ (by decide) (Nat.le_of_ble_eq_true rfl) ha0 ha1 hg.1 hg.2.1 hg.2.2.1 hg.2.2.2.1 hg.2.2.2.2 (by decide +kernel) ?_
  obtain ⟨μ1, e3, h⟩ := z_st_some h
  rw [← e3]
  have hρ2 : μ1.2.2 = ρ := by rw [e3]; exact hρ
  exact j_vret F Rt (by decide +kernel) ⟨hρ2, rfl, (Option.some.inj h).symm⟩
/-- LastLent$Ship.become -/
def f_X3_become (o : Nat) (o1 : Nat) (μ : z_M) : Option z_M :=
  (z_st (z_si μ o 0 (μ.1 o1 0)) fun μ1 => (z_st (z_si μ1 o 1 (μ1.1 o1 1)) fun μ4 => (z_st (z_si μ4 o 2 (μ4.1 o1 2)) fun μ7 => (z_b1 (f_X4_copyRow ((o1 + 1)) (6) ((o + 1)) (6) μ7) fun μ11 => (z_b1 (f_X4_copyRow ((o1 + 2)) (6) ((o + 2)) (6) μ11) fun μ17 => (z_b1 (f_X4_copyRow ((o1 + 3)) (14) ((o + 3)) (14) μ17) fun μ23 => (z_b1 (f_X4_copyRow ((o1 + 4)) (14) ((o + 4)) (14) μ23) fun μ29 => (z_b1 (f_X4_copyRow ((o1 + 5)) (14) ((o + 5)) (14) μ29) fun μ35 => (z_b1 (f_X4_copyRow ((o1 + 6)) (14) ((o + 6)) (14) μ35) fun μ41 => (z_b1 (f_X4_copyRow ((o1 + 7)) (14) ((o + 7)) (14) μ41) fun μ47 => (z_b1 (f_X4_copyRow ((o1 + 8)) (14) ((o + 8)) (14) μ47) fun μ53 => (z_b1 (f_X4_copyRow ((o1 + 9)) (5) ((o + 9)) (5) μ53) fun μ59 => (z_b1 (f_X4_copyRow ((o1 + 10)) (3) ((o + 10)) (3) μ59) fun μ65 => (some μ65))))))))))))))
set_option maxHeartbeats 4000000 in
set_option maxRecDepth 100000 in
theorem t_X3_become {G : z_Gl} {ρ : Nat → Nat → Option Nat} {μ : z_M} {μr : z_M} {o : Nat} {o1 : Nat} (hρ : μ.2.2 = ρ) (hb : z_blk z_shipS z_shipR (z_sh G) ρ o) (hb1 : z_blk z_shipS z_shipR (z_sh G) ρ o1) (h : f_X3_become o o1 μ = some μr) : z_Cv G yX3_become cX3_become 2 none 2 [.ref o, .ref o1] μ (fun μ1 => μr = μ1) := by
  unfold z_Cv
  refine z_intro (by decide +kernel) (Nat.le_of_ble_eq_true rfl) (fun E hE F Rt => ?_)
  subst hE
  have F : z_F E RX3 cX3_become 2 2 := F
  rw [hρ] at Rt
  unfold f_X3_become at h
  show z_J E 2 0 [some (.ref o), some (.ref o1)] [] μ
  refine j_aload_n F (pc := 0) (q := 0) (by decide +kernel) rfl ?_
  refine j_aload_n F (pc := 1) (q := 1) (by decide +kernel) rfl ?_
  refine j_getI F (pc := 2) fl_X3_42 (hb1.1 0 _ rfl) rfl (by decide +kernel) ?_
  refine j_putI F (pc := 5) fl_X3_42 fp_X3_0 (hb.1 0 _ rfl) rfl (by decide +kernel) ?_
  obtain ⟨μ1, e3, h⟩ := z_st_some h
  rw [← e3]
  have hρ2 : μ1.2.2 = ρ := by rw [e3]; exact hρ
  refine j_aload_n F (pc := 8) (q := 0) (by decide +kernel) rfl ?_
  refine j_aload_n F (pc := 9) (q := 1) (by decide +kernel) rfl ?_
  refine j_getI F (pc := 10) fl_X3_46 (hb1.1 0 _ rfl) rfl (by decide +kernel) ?_
  refine j_putI F (pc := 13) fl_X3_46 fp_X3_1 (hb.1 0 _ rfl) rfl (by decide +kernel) ?_
  obtain ⟨μ4, e6, h⟩ := z_st_some h
  rw [← e6]
  have hρ5 : μ4.2.2 = ρ := by rw [e6]; exact hρ2
  refine j_aload_n F (pc := 16) (q := 0) (by decide +kernel) rfl ?_
  refine j_aload_n F (pc := 17) (q := 1) (by decide +kernel) rfl ?_
  refine j_getI F (pc := 18) fl_X3_49 (hb1.1 0 _ rfl) rfl (by decide +kernel) ?_
  refine j_putI F (pc := 21) fl_X3_49 fp_X3_2 (hb.1 0 _ rfl) rfl (by decide +kernel) ?_
  obtain ⟨μ7, e9, h⟩ := z_st_some h
  rw [← e9]
  have hρ8 : μ7.2.2 = ρ := by rw [e9]; exact hρ5
  refine j_aload_n F (pc := 24) (q := 1) (by decide +kernel) rfl ?_
  refine j_getR F (pc := 25) (hb1.r hρ8 3 rfl) fl_X3_9 (hb1.1 0 _ rfl) rfl (by decide +kernel) ?_
  refine j_aload_n F (pc := 28) (q := 0) (by decide +kernel) rfl ?_
  refine j_getR F (pc := 29) (hb.r hρ8 3 rfl) fl_X3_9 (hb.1 0 _ rfl) rfl (by decide +kernel) ?_
  obtain ⟨μ11, hc13, h⟩ := z_b1_some h
  refine j_callNv F (pc := 32) (As := [.ref (o1 + 1), .ref (o + 1)]) (st := []) (t_X4_copyRow (G := E.1) hρ8 (hb1.1 1 _ rfl) (hb.1 1 _ rfl) hc13) q_X4_copyRow m_723 (by decide +kernel) rfl (by decide) (Nat.le_of_ble_eq_true rfl) rfl (by decide +kernel) (fun ν14 hq15 hp => ?_)
  subst hp
  have hρ12 : μ11.2.2 = ρ := hq15.trans hρ8
  refine j_aload_n F (pc := 35) (q := 1) (by decide +kernel) rfl ?_
  refine j_getR F (pc := 36) (hb1.r hρ12 4 rfl) fl_X3_15 (hb1.1 0 _ rfl) rfl (by decide +kernel) ?_
  refine j_aload_n F (pc := 39) (q := 0) (by decide +kernel) rfl ?_
  refine j_getR F (pc := 40) (hb.r hρ12 4 rfl) fl_X3_15 (hb.1 0 _ rfl) rfl (by decide +kernel) ?_
  obtain ⟨μ17, hc19, h⟩ := z_b1_some h
  refine j_callNv F (pc := 43) (As := [.ref (o1 + 2), .ref (o + 2)]) (st := []) (t_X4_copyRow (G := E.1) hρ12 (hb1.1 2 _ rfl) (hb.1 2 _ rfl) hc19) q_X4_copyRow m_723 (by decide +kernel) rfl (by decide) (Nat.le_of_ble_eq_true rfl) rfl (by decide +kernel) (fun ν20 hq21 hp => ?_)
  subst hp
  have hρ18 : μ17.2.2 = ρ := hq21.trans hρ12
  refine j_aload_n F (pc := 46) (q := 1) (by decide +kernel) rfl ?_
  refine j_getR F (pc := 47) (hb1.r hρ18 5 rfl) fl_X3_18 (hb1.1 0 _ rfl) rfl (by decide +kernel) ?_
  refine j_aload_n F (pc := 50) (q := 0) (by decide +kernel) rfl ?_
  refine j_getR F (pc := 51) (hb.r hρ18 5 rfl) fl_X3_18 (hb.1 0 _ rfl) rfl (by decide +kernel) ?_
  obtain ⟨μ23, hc25, h⟩ := z_b1_some h
  refine j_callNv F (pc := 54) (As := [.ref (o1 + 3), .ref (o + 3)]) (st := []) (t_X4_copyRow (G := E.1) hρ18 (hb1.1 3 _ rfl) (hb.1 3 _ rfl) hc25) q_X4_copyRow m_723 (by decide +kernel) rfl (by decide) (Nat.le_of_ble_eq_true rfl) rfl (by decide +kernel) (fun ν26 hq27 hp => ?_)
  subst hp
  have hρ24 : μ23.2.2 = ρ := hq27.trans hρ18
  refine j_aload_n F (pc := 57) (q := 1) (by decide +kernel) rfl ?_
  refine j_getR F (pc := 58) (hb1.r hρ24 6 rfl) fl_X3_21 (hb1.1 0 _ rfl) rfl (by decide +kernel) ?_
  refine j_aload_n F (pc := 61) (q := 0) (by decide +kernel) rfl ?_
  refine j_getR F (pc := 62) (hb.r hρ24 6 rfl) fl_X3_21 (hb.1 0 _ rfl) rfl (by decide +kernel) ?_
  obtain ⟨μ29, hc31, h⟩ := z_b1_some h
  refine j_callNv F (pc := 65) (As := [.ref (o1 + 4), .ref (o + 4)]) (st := []) (t_X4_copyRow (G := E.1) hρ24 (hb1.1 4 _ rfl) (hb.1 4 _ rfl) hc31) q_X4_copyRow m_723 (by decide +kernel) rfl (by decide) (Nat.le_of_ble_eq_true rfl) rfl (by decide +kernel) (fun ν32 hq33 hp => ?_)
  subst hp
  have hρ30 : μ29.2.2 = ρ := hq33.trans hρ24
  refine j_aload_n F (pc := 68) (q := 1) (by decide +kernel) rfl ?_
  refine j_getR F (pc := 69) (hb1.r hρ30 7 rfl) fl_X3_24 (hb1.1 0 _ rfl) rfl (by decide +kernel) ?_
  refine j_aload_n F (pc := 72) (q := 0) (by decide +kernel) rfl ?_
  refine j_getR F (pc := 73) (hb.r hρ30 7 rfl) fl_X3_24 (hb.1 0 _ rfl) rfl (by decide +kernel) ?_
  obtain ⟨μ35, hc37, h⟩ := z_b1_some h
  refine j_callNv F (pc := 76) (As := [.ref (o1 + 5), .ref (o + 5)]) (st := []) (t_X4_copyRow (G := E.1) hρ30 (hb1.1 5 _ rfl) (hb.1 5 _ rfl) hc37) q_X4_copyRow m_723 (by decide +kernel) rfl (by decide) (Nat.le_of_ble_eq_true rfl) rfl (by decide +kernel) (fun ν38 hq39 hp => ?_)
  subst hp
  have hρ36 : μ35.2.2 = ρ := hq39.trans hρ30
  refine j_aload_n F (pc := 79) (q := 1) (by decide +kernel) rfl ?_
  refine j_getR F (pc := 80) (hb1.r hρ36 8 rfl) fl_X3_27 (hb1.1 0 _ rfl) rfl (by decide +kernel) ?_
  refine j_aload_n F (pc := 83) (q := 0) (by decide +kernel) rfl ?_
  refine j_getR F (pc := 84) (hb.r hρ36 8 rfl) fl_X3_27 (hb.1 0 _ rfl) rfl (by decide +kernel) ?_
  obtain ⟨μ41, hc43, h⟩ := z_b1_some h
  refine j_callNv F (pc := 87) (As := [.ref (o1 + 6), .ref (o + 6)]) (st := []) (t_X4_copyRow (G := E.1) hρ36 (hb1.1 6 _ rfl) (hb.1 6 _ rfl) hc43) q_X4_copyRow m_723 (by decide +kernel) rfl (by decide) (Nat.le_of_ble_eq_true rfl) rfl (by decide +kernel) (fun ν44 hq45 hp => ?_)
  subst hp
  have hρ42 : μ41.2.2 = ρ := hq45.trans hρ36
  refine j_aload_n F (pc := 90) (q := 1) (by decide +kernel) rfl ?_
  refine j_getR F (pc := 91) (hb1.r hρ42 9 rfl) fl_X3_30 (hb1.1 0 _ rfl) rfl (by decide +kernel) ?_
  refine j_aload_n F (pc := 94) (q := 0) (by decide +kernel) rfl ?_
  refine j_getR F (pc := 95) (hb.r hρ42 9 rfl) fl_X3_30 (hb.1 0 _ rfl) rfl (by decide +kernel) ?_
  obtain ⟨μ47, hc49, h⟩ := z_b1_some h
  refine j_callNv F (pc := 98) (As := [.ref (o1 + 7), .ref (o + 7)]) (st := []) (t_X4_copyRow (G := E.1) hρ42 (hb1.1 7 _ rfl) (hb.1 7 _ rfl) hc49) q_X4_copyRow m_723 (by decide +kernel) rfl (by decide) (Nat.le_of_ble_eq_true rfl) rfl (by decide +kernel) (fun ν50 hq51 hp => ?_)
  subst hp
  have hρ48 : μ47.2.2 = ρ := hq51.trans hρ42
  refine j_aload_n F (pc := 101) (q := 1) (by decide +kernel) rfl ?_
  refine j_getR F (pc := 102) (hb1.r hρ48 10 rfl) fl_X3_33 (hb1.1 0 _ rfl) rfl (by decide +kernel) ?_
  refine j_aload_n F (pc := 105) (q := 0) (by decide +kernel) rfl ?_
  refine j_getR F (pc := 106) (hb.r hρ48 10 rfl) fl_X3_33 (hb.1 0 _ rfl) rfl (by decide +kernel) ?_
  obtain ⟨μ53, hc55, h⟩ := z_b1_some h
  refine j_callNv F (pc := 109) (As := [.ref (o1 + 8), .ref (o + 8)]) (st := []) (t_X4_copyRow (G := E.1) hρ48 (hb1.1 8 _ rfl) (hb.1 8 _ rfl) hc55) q_X4_copyRow m_723 (by decide +kernel) rfl (by decide) (Nat.le_of_ble_eq_true rfl) rfl (by decide +kernel) (fun ν56 hq57 hp => ?_)
  subst hp
  have hρ54 : μ53.2.2 = ρ := hq57.trans hρ48
  refine j_aload_n F (pc := 112) (q := 1) (by decide +kernel) rfl ?_
  refine j_getR F (pc := 113) (hb1.r hρ54 11 rfl) fl_X3_36 (hb1.1 0 _ rfl) rfl (by decide +kernel) ?_
  refine j_aload_n F (pc := 116) (q := 0) (by decide +kernel) rfl ?_
  refine j_getR F (pc := 117) (hb.r hρ54 11 rfl) fl_X3_36 (hb.1 0 _ rfl) rfl (by decide +kernel) ?_
  obtain ⟨μ59, hc61, h⟩ := z_b1_some h
  refine j_callNv F (pc := 120) (As := [.ref (o1 + 9), .ref (o + 9)]) (st := []) (t_X4_copyRow (G := E.1) hρ54 (hb1.1 9 _ rfl) (hb.1 9 _ rfl) hc61) q_X4_copyRow m_723 (by decide +kernel) rfl (by decide) (Nat.le_of_ble_eq_true rfl) rfl (by decide +kernel) (fun ν62 hq63 hp => ?_)
  subst hp
  have hρ60 : μ59.2.2 = ρ := hq63.trans hρ54
  refine j_aload_n F (pc := 123) (q := 1) (by decide +kernel) rfl ?_
  refine j_getR F (pc := 124) (hb1.r hρ60 12 rfl) fl_X3_39 (hb1.1 0 _ rfl) rfl (by decide +kernel) ?_
  refine j_aload_n F (pc := 127) (q := 0) (by decide +kernel) rfl ?_
  refine j_getR F (pc := 128) (hb.r hρ60 12 rfl) fl_X3_39 (hb.1 0 _ rfl) rfl (by decide +kernel) ?_
  obtain ⟨μ65, hc67, h⟩ := z_b1_some h
  refine j_callNv F (pc := 131) (As := [.ref (o1 + 10), .ref (o + 10)]) (st := []) (t_X4_copyRow (G := E.1) hρ60 (hb1.1 10 _ rfl) (hb.1 10 _ rfl) hc67) q_X4_copyRow m_723 (by decide +kernel) rfl (by decide) (Nat.le_of_ble_eq_true rfl) rfl (by decide +kernel) (fun ν68 hq69 hp => ?_)
  subst hp
  have hρ66 : μ65.2.2 = ρ := hq69.trans hρ60
  exact j_vret F Rt (by decide +kernel) ⟨hρ66, rfl, (Option.some.inj h).symm⟩
/-- LastLent$Ship.takeAway -/
def f_X3_takeAway (o : Nat) (x1 : Int32) (μ : z_M) : Option z_M :=
  (if z_in x1 14 then (z_st (z_si μ (o + 6) x1.toNatClampNeg (0 : Int32)) fun μ1 => (some μ1)) else none)
set_option maxHeartbeats 4000000 in
set_option maxRecDepth 100000 in
theorem t_X3_takeAway {G : z_Gl} {ρ : Nat → Nat → Option Nat} {μ : z_M} {μr : z_M} {o : Nat} {x1 : Int32} (hρ : μ.2.2 = ρ) (hb : z_blk z_shipS z_shipR (z_sh G) ρ o) (h : f_X3_takeAway o x1 μ = some μr) : z_Cv G yX3_takeAway cX3_takeAway 2 none 0 [.ref o, .int x1] μ (fun μ1 => μr = μ1) := by
  unfold z_Cv
  refine z_intro (by decide +kernel) (Nat.le_of_ble_eq_true rfl) (fun E hE F Rt => ?_)
  subst hE
  have F : z_F E RX3 cX3_takeAway 2 0 := F
  rw [hρ] at Rt
  unfold f_X3_takeAway at h
  show z_J E 2 0 [some (.ref o), some (.int x1)] [] μ
  refine j_aload_n F (pc := 0) (q := 0) (by decide +kernel) rfl ?_
  refine j_getR F (pc := 1) (hb.r hρ 8 rfl) fl_X3_27 (hb.1 0 _ rfl) rfl (by decide +kernel) ?_
  refine j_iload_n F (pc := 4) (q := 1) (by decide +kernel) rfl ?_
  refine j_iconst F (pc := 5) (n := 0) (v := 0) (by decide +kernel) (by decide +kernel) ?_
  obtain ⟨hg, h⟩ := z_ifs h
  refine j_iast F (pc := 6) (hb.1 6 _ rfl) hg (by decide +kernel) ?_
  obtain ⟨μ1, e3, h⟩ := z_st_some h
  rw [← e3]
  have hρ2 : μ1.2.2 = ρ := by rw [e3]; exact hρ
  exact j_vret F Rt (by decide +kernel) ⟨hρ2, rfl, (Option.some.inj h).symm⟩
/-- LastLent.isImage -/
def f_X4_isImage (x0 : Int32) (μ : z_M) : Option (Int32 × z_M) :=
  (some ((if x0 < 0 then (0 : Int32) else (if (2 : Int32) ≤ x0 then (0 : Int32) else (1 : Int32))), μ))
set_option maxHeartbeats 4000000 in
set_option maxRecDepth 100000 in
theorem t_X4_isImage {G : z_Gl} {ρ : Nat → Nat → Option Nat} {μ : z_M} {r : Int32} {μr : z_M} {x0 : Int32} (hρ : μ.2.2 = ρ)  (h : f_X4_isImage x0 μ = some (r, μr)) : z_Ci G yX4_isImage cX4_isImage 1 (some .boolean) 0 [.int x0] μ (fun r1 μ1 => r = r1 ∧ μr = μ1) := by
  unfold z_Ci
  refine z_intro (by decide +kernel) (Nat.le_of_ble_eq_true rfl) (fun E hE F Rt => ?_)
  subst hE
  have F : z_F E RX4 cX4_isImage 1 0 := F
  rw [hρ] at Rt
  unfold f_X4_isImage at h
  show z_J E 1 0 [some (.int x0)] [] μ
  refine j_iload_n F (pc := 0) (q := 0) (by decide +kernel) rfl ?_
  suffices hj : z_J E 1 14 [some (.int x0)] (.int (if x0 < 0 then (0 : Int32) else (if (2 : Int32) ≤ x0 then (0 : Int32) else (1 : Int32))) :: []) μ by
    refine j_if_lt F (pc := 1) (off := 12) (tgt := 13) (by decide +kernel) (by decide) (fun c0 => ?_) (fun c0 => ?_)
    · rw [if_pos c0] at hj
      refine j_iconst F (pc := 13) (n := 0) (v := 0) (by decide +kernel) (by decide +kernel) ?_
      exact hj
    · rw [if_neg c0] at hj
      refine j_iload_n F (pc := 4) (q := 0) (by decide +kernel) rfl ?_
      refine j_iconst F (pc := 5) (n := 2) (v := 2) (by decide +kernel) (by decide +kernel) ?_
      refine j_icmp_ge F (pc := 6) (off := 7) (tgt := 13) (by decide +kernel) (by decide) (fun c1 => ?_) (fun c1 => ?_)
      · rw [if_pos c1] at hj
        refine j_iconst F (pc := 13) (n := 0) (v := 0) (by decide +kernel) (by decide +kernel) ?_
        exact hj
      · rw [if_neg c1] at hj
        refine j_iconst F (pc := 9) (n := 1) (v := 1) (by decide +kernel) (by decide +kernel) ?_
        refine j_goto F (pc := 10) (off := 4) (tgt := 14) (by decide +kernel) (by decide) ?_
        exact hj
  exact j_iret F Rt (z_nb (by repeat' (first | exact Or.inl rfl | exact Or.inr rfl | split))) (by decide +kernel) ⟨hρ, _, rfl, (congrArg Prod.fst (Option.some.inj h)).symm, (congrArg Prod.snd (Option.some.inj h)).symm⟩
end
