section
-- ===== PART A: goes FIRST, ahead of the names: the tables' words, and 'selects' of the private methods out of them =====
/-- a private method of a class that the tables say can be made, by its rows of tables_1 -/
def lw_okq (q : MethodName × Nat) : Prop := (q.1.cls ≠ "java/lang/invoke/MethodHandle" ∧ q.1.cls ≠ "java/lang/invoke/VarHandle") ∧ Cond.instantiable q.1.cls q.2 ∈ tables_1 ∧ Cond.privateMethod q.1 ∈ tables_1 ∧ Cond.instanceMethod q.1 ∈ tables_1
theorem lw_p0 : lw_okq (⟨"LastLent$LawText", "nextToken", "()V"⟩, 9) := ⟨⟨by decide +kernel, by decide +kernel⟩, List.mem_of_getElem? (i := 25) (by decide +kernel), List.mem_of_getElem? (i := 318) (by decide +kernel), List.mem_of_getElem? (i := 319) (by decide +kernel)⟩
theorem lw_p1 : lw_okq (⟨"LastLent$LawText", "beginClause", "(LLastLent$Law;)I"⟩, 9) := ⟨⟨by decide +kernel, by decide +kernel⟩, List.mem_of_getElem? (i := 25) (by decide +kernel), List.mem_of_getElem? (i := 328) (by decide +kernel), List.mem_of_getElem? (i := 329) (by decide +kernel)⟩
theorem lw_p2 : lw_okq (⟨"LastLent$LawText", "wordIn", "(Ljava/lang/String;)I"⟩, 9) := ⟨⟨by decide +kernel, by decide +kernel⟩, List.mem_of_getElem? (i := 25) (by decide +kernel), List.mem_of_getElem? (i := 333) (by decide +kernel), List.mem_of_getElem? (i := 334) (by decide +kernel)⟩
theorem lw_p3 : lw_okq (⟨"LastLent$LawText", "isWordAt", "(Ljava/lang/String;I)Z"⟩, 9) := ⟨⟨by decide +kernel, by decide +kernel⟩, List.mem_of_getElem? (i := 25) (by decide +kernel), List.mem_of_getElem? (i := 347) (by decide +kernel), List.mem_of_getElem? (i := 348) (by decide +kernel)⟩
theorem lw_p4 : lw_okq (⟨"LastLent$LawText", "refuse", "(I)Z"⟩, 9) := ⟨⟨by decide +kernel, by decide +kernel⟩, List.mem_of_getElem? (i := 25) (by decide +kernel), List.mem_of_getElem? (i := 389) (by decide +kernel), List.mem_of_getElem? (i := 390) (by decide +kernel)⟩
theorem lw_p5 : lw_okq (⟨"LastLent$LawText", "isOneTooMany", "(ILLastLent$Law;)Z"⟩, 9) := ⟨⟨by decide +kernel, by decide +kernel⟩, List.mem_of_getElem? (i := 25) (by decide +kernel), List.mem_of_getElem? (i := 393) (by decide +kernel), List.mem_of_getElem? (i := 394) (by decide +kernel)⟩
theorem lw_p6 : lw_okq (⟨"LastLent$LawText", "readBody", "(ILLastLent$Law;)Z"⟩, 9) := ⟨⟨by decide +kernel, by decide +kernel⟩, List.mem_of_getElem? (i := 25) (by decide +kernel), List.mem_of_getElem? (i := 400) (by decide +kernel), List.mem_of_getElem? (i := 401) (by decide +kernel)⟩
theorem lw_p7 : lw_okq (⟨"LastLent$LawText", "readRides", "(LLastLent$Law;)Z"⟩, 9) := ⟨⟨by decide +kernel, by decide +kernel⟩, List.mem_of_getElem? (i := 25) (by decide +kernel), List.mem_of_getElem? (i := 404) (by decide +kernel), List.mem_of_getElem? (i := 405) (by decide +kernel)⟩
theorem lw_p8 : lw_okq (⟨"LastLent$LawText", "readKind", "(I)I"⟩, 9) := ⟨⟨by decide +kernel, by decide +kernel⟩, List.mem_of_getElem? (i := 25) (by decide +kernel), List.mem_of_getElem? (i := 408) (by decide +kernel), List.mem_of_getElem? (i := 409) (by decide +kernel)⟩
theorem lw_p9 : lw_okq (⟨"LastLent$LawText", "readFund", "(LLastLent$Law;I)Z"⟩, 9) := ⟨⟨by decide +kernel, by decide +kernel⟩, List.mem_of_getElem? (i := 25) (by decide +kernel), List.mem_of_getElem? (i := 413) (by decide +kernel), List.mem_of_getElem? (i := 414) (by decide +kernel)⟩
theorem lw_p10 : lw_okq (⟨"LastLent$LawText", "isFundNext", "()Z"⟩, 9) := ⟨⟨by decide +kernel, by decide +kernel⟩, List.mem_of_getElem? (i := 25) (by decide +kernel), List.mem_of_getElem? (i := 418) (by decide +kernel), List.mem_of_getElem? (i := 419) (by decide +kernel)⟩
theorem lw_p11 : lw_okq (⟨"LastLent$LawText", "readAhead", "(LLastLent$Law;)Z"⟩, 9) := ⟨⟨by decide +kernel, by decide +kernel⟩, List.mem_of_getElem? (i := 25) (by decide +kernel), List.mem_of_getElem? (i := 422) (by decide +kernel), List.mem_of_getElem? (i := 423) (by decide +kernel)⟩
theorem lw_p12 : lw_okq (⟨"LastLent$LawText", "readFirst", "(LLastLent$Law;)Z"⟩, 9) := ⟨⟨by decide +kernel, by decide +kernel⟩, List.mem_of_getElem? (i := 25) (by decide +kernel), List.mem_of_getElem? (i := 426) (by decide +kernel), List.mem_of_getElem? (i := 427) (by decide +kernel)⟩
theorem lw_p13 : lw_okq (⟨"LastLent$LawText", "readBehind", "(LLastLent$Law;)Z"⟩, 9) := ⟨⟨by decide +kernel, by decide +kernel⟩, List.mem_of_getElem? (i := 25) (by decide +kernel), List.mem_of_getElem? (i := 430) (by decide +kernel), List.mem_of_getElem? (i := 431) (by decide +kernel)⟩
theorem lw_p14 : lw_okq (⟨"LastLent$LawText", "readWithin", "(LLastLent$Law;)Z"⟩, 9) := ⟨⟨by decide +kernel, by decide +kernel⟩, List.mem_of_getElem? (i := 25) (by decide +kernel), List.mem_of_getElem? (i := 434) (by decide +kernel), List.mem_of_getElem? (i := 435) (by decide +kernel)⟩
theorem lw_p15 : lw_okq (⟨"LastLent$LawText", "readDies", "(LLastLent$Law;)Z"⟩, 9) := ⟨⟨by decide +kernel, by decide +kernel⟩, List.mem_of_getElem? (i := 25) (by decide +kernel), List.mem_of_getElem? (i := 439) (by decide +kernel), List.mem_of_getElem? (i := 440) (by decide +kernel)⟩
def lw_privs_1 : List (MethodName × Nat) := [(⟨"LastLent$LawText", "nextToken", "()V"⟩, 9), (⟨"LastLent$LawText", "beginClause", "(LLastLent$Law;)I"⟩, 9), (⟨"LastLent$LawText", "wordIn", "(Ljava/lang/String;)I"⟩, 9), (⟨"LastLent$LawText", "isWordAt", "(Ljava/lang/String;I)Z"⟩, 9), (⟨"LastLent$LawText", "refuse", "(I)Z"⟩, 9), (⟨"LastLent$LawText", "isOneTooMany", "(ILLastLent$Law;)Z"⟩, 9), (⟨"LastLent$LawText", "readBody", "(ILLastLent$Law;)Z"⟩, 9), (⟨"LastLent$LawText", "readRides", "(LLastLent$Law;)Z"⟩, 9), (⟨"LastLent$LawText", "readKind", "(I)I"⟩, 9), (⟨"LastLent$LawText", "readFund", "(LLastLent$Law;I)Z"⟩, 9), (⟨"LastLent$LawText", "isFundNext", "()Z"⟩, 9), (⟨"LastLent$LawText", "readAhead", "(LLastLent$Law;)Z"⟩, 9), (⟨"LastLent$LawText", "readFirst", "(LLastLent$Law;)Z"⟩, 9), (⟨"LastLent$LawText", "readBehind", "(LLastLent$Law;)Z"⟩, 9), (⟨"LastLent$LawText", "readWithin", "(LLastLent$Law;)Z"⟩, 9), (⟨"LastLent$LawText", "readDies", "(LLastLent$Law;)Z"⟩, 9)]
theorem lw_r1 : ∀ q ∈ lw_privs_1, lw_okq q := List.forall_mem_cons.mpr ⟨lw_p0, List.forall_mem_cons.mpr ⟨lw_p1, List.forall_mem_cons.mpr ⟨lw_p2, List.forall_mem_cons.mpr ⟨lw_p3, List.forall_mem_cons.mpr ⟨lw_p4, List.forall_mem_cons.mpr ⟨lw_p5, List.forall_mem_cons.mpr ⟨lw_p6, List.forall_mem_cons.mpr ⟨lw_p7, List.forall_mem_cons.mpr ⟨lw_p8, List.forall_mem_cons.mpr ⟨lw_p9, List.forall_mem_cons.mpr ⟨lw_p10, List.forall_mem_cons.mpr ⟨lw_p11, List.forall_mem_cons.mpr ⟨lw_p12, List.forall_mem_cons.mpr ⟨lw_p13, List.forall_mem_cons.mpr ⟨lw_p14, List.forall_mem_cons.mpr ⟨lw_p15, fun _ h => absurd h List.not_mem_nil⟩⟩⟩⟩⟩⟩⟩⟩⟩⟩⟩⟩⟩⟩⟩⟩
theorem lw_p16 : lw_okq (⟨"LastLent$LawText", "readNumber", "(I)I"⟩, 9) := ⟨⟨by decide +kernel, by decide +kernel⟩, List.mem_of_getElem? (i := 25) (by decide +kernel), List.mem_of_getElem? (i := 446) (by decide +kernel), List.mem_of_getElem? (i := 447) (by decide +kernel)⟩
theorem lw_p17 : lw_okq (⟨"LastLent$LawText", "readLeave", "(LLastLent$Law;)Z"⟩, 9) := ⟨⟨by decide +kernel, by decide +kernel⟩, List.mem_of_getElem? (i := 25) (by decide +kernel), List.mem_of_getElem? (i := 450) (by decide +kernel), List.mem_of_getElem? (i := 451) (by decide +kernel)⟩
theorem lw_p18 : lw_okq (⟨"LastLent$LawText", "readCosts", "(LLastLent$Law;)Z"⟩, 9) := ⟨⟨by decide +kernel, by decide +kernel⟩, List.mem_of_getElem? (i := 25) (by decide +kernel), List.mem_of_getElem? (i := 454) (by decide +kernel), List.mem_of_getElem? (i := 455) (by decide +kernel)⟩
theorem lw_p19 : lw_okq (⟨"LastLent$LawText", "readClose", "()V"⟩, 9) := ⟨⟨by decide +kernel, by decide +kernel⟩, List.mem_of_getElem? (i := 25) (by decide +kernel), List.mem_of_getElem? (i := 458) (by decide +kernel), List.mem_of_getElem? (i := 459) (by decide +kernel)⟩
theorem lw_p20 : lw_okq (⟨"LastLent$Law", "followSteps", "()V"⟩, 13) := ⟨⟨by decide +kernel, by decide +kernel⟩, List.mem_of_getElem? (i := 189) (by decide +kernel), List.mem_of_getElem? (i := 466) (by decide +kernel), List.mem_of_getElem? (i := 467) (by decide +kernel)⟩
theorem lw_p21 : lw_okq (⟨"LastLent$Law", "raiseRanks", "()V"⟩, 13) := ⟨⟨by decide +kernel, by decide +kernel⟩, List.mem_of_getElem? (i := 189) (by decide +kernel), List.mem_of_getElem? (i := 471) (by decide +kernel), List.mem_of_getElem? (i := 472) (by decide +kernel)⟩
theorem lw_p22 : lw_okq (⟨"LastLent", "isClaim", "(I)Z"⟩, 10) := ⟨⟨by decide +kernel, by decide +kernel⟩, List.mem_of_getElem? (i := 15) (by decide +kernel), List.mem_of_getElem? (i := 529) (by decide +kernel), List.mem_of_getElem? (i := 530) (by decide +kernel)⟩
theorem lw_p23 : lw_okq (⟨"LastLent$Ship", "lastUnbarred", "(LLastLent$Law;I)I"⟩, 13) := ⟨⟨by decide +kernel, by decide +kernel⟩, List.mem_of_getElem? (i := 63) (by decide +kernel), List.mem_of_getElem? (i := 574) (by decide +kernel), List.mem_of_getElem? (i := 575) (by decide +kernel)⟩
theorem lw_p24 : lw_okq (⟨"LastLent$Ship", "lacksLeave", "(LLastLent$Law;I)Z"⟩, 13) := ⟨⟨by decide +kernel, by decide +kernel⟩, List.mem_of_getElem? (i := 63) (by decide +kernel), List.mem_of_getElem? (i := 581) (by decide +kernel), List.mem_of_getElem? (i := 582) (by decide +kernel)⟩
theorem lw_p25 : lw_okq (⟨"LastLent$PayOut", "joinLine", "(I)V"⟩, 16) := ⟨⟨by decide +kernel, by decide +kernel⟩, List.mem_of_getElem? (i := 128) (by decide +kernel), List.mem_of_getElem? (i := 625) (by decide +kernel), List.mem_of_getElem? (i := 626) (by decide +kernel)⟩
theorem lw_p26 : lw_okq (⟨"LastLent$PayOut", "payAllFrom", "(I)V"⟩, 16) := ⟨⟨by decide +kernel, by decide +kernel⟩, List.mem_of_getElem? (i := 128) (by decide +kernel), List.mem_of_getElem? (i := 654) (by decide +kernel), List.mem_of_getElem? (i := 655) (by decide +kernel)⟩
theorem lw_p27 : lw_okq (⟨"LastLent$PayOut", "payFund", "(I[I)I"⟩, 16) := ⟨⟨by decide +kernel, by decide +kernel⟩, List.mem_of_getElem? (i := 128) (by decide +kernel), List.mem_of_getElem? (i := 658) (by decide +kernel), List.mem_of_getElem? (i := 659) (by decide +kernel)⟩
theorem lw_p28 : lw_okq (⟨"LastLent$PayOut", "marshal", "()V"⟩, 16) := ⟨⟨by decide +kernel, by decide +kernel⟩, List.mem_of_getElem? (i := 128) (by decide +kernel), List.mem_of_getElem? (i := 665) (by decide +kernel), List.mem_of_getElem? (i := 666) (by decide +kernel)⟩
theorem lw_p29 : lw_okq (⟨"LastLent$PayOut", "mostPayable", "()I"⟩, 16) := ⟨⟨by decide +kernel, by decide +kernel⟩, List.mem_of_getElem? (i := 128) (by decide +kernel), List.mem_of_getElem? (i := 669) (by decide +kernel), List.mem_of_getElem? (i := 670) (by decide +kernel)⟩
theorem lw_p30 : lw_okq (⟨"LastLent$PayOut", "wantedOf", "(I)I"⟩, 16) := ⟨⟨by decide +kernel, by decide +kernel⟩, List.mem_of_getElem? (i := 128) (by decide +kernel), List.mem_of_getElem? (i := 673) (by decide +kernel), List.mem_of_getElem? (i := 674) (by decide +kernel)⟩
theorem lw_p31 : lw_okq (⟨"LastLent$PayOut", "nextOrder", "()I"⟩, 16) := ⟨⟨by decide +kernel, by decide +kernel⟩, List.mem_of_getElem? (i := 128) (by decide +kernel), List.mem_of_getElem? (i := 678) (by decide +kernel), List.mem_of_getElem? (i := 679) (by decide +kernel)⟩
def lw_privs_2 : List (MethodName × Nat) := [(⟨"LastLent$LawText", "readNumber", "(I)I"⟩, 9), (⟨"LastLent$LawText", "readLeave", "(LLastLent$Law;)Z"⟩, 9), (⟨"LastLent$LawText", "readCosts", "(LLastLent$Law;)Z"⟩, 9), (⟨"LastLent$LawText", "readClose", "()V"⟩, 9), (⟨"LastLent$Law", "followSteps", "()V"⟩, 13), (⟨"LastLent$Law", "raiseRanks", "()V"⟩, 13), (⟨"LastLent", "isClaim", "(I)Z"⟩, 10), (⟨"LastLent$Ship", "lastUnbarred", "(LLastLent$Law;I)I"⟩, 13), (⟨"LastLent$Ship", "lacksLeave", "(LLastLent$Law;I)Z"⟩, 13), (⟨"LastLent$PayOut", "joinLine", "(I)V"⟩, 16), (⟨"LastLent$PayOut", "payAllFrom", "(I)V"⟩, 16), (⟨"LastLent$PayOut", "payFund", "(I[I)I"⟩, 16), (⟨"LastLent$PayOut", "marshal", "()V"⟩, 16), (⟨"LastLent$PayOut", "mostPayable", "()I"⟩, 16), (⟨"LastLent$PayOut", "wantedOf", "(I)I"⟩, 16), (⟨"LastLent$PayOut", "nextOrder", "()I"⟩, 16)]
theorem lw_r2 : ∀ q ∈ lw_privs_2, lw_okq q := List.forall_mem_cons.mpr ⟨lw_p16, List.forall_mem_cons.mpr ⟨lw_p17, List.forall_mem_cons.mpr ⟨lw_p18, List.forall_mem_cons.mpr ⟨lw_p19, List.forall_mem_cons.mpr ⟨lw_p20, List.forall_mem_cons.mpr ⟨lw_p21, List.forall_mem_cons.mpr ⟨lw_p22, List.forall_mem_cons.mpr ⟨lw_p23, List.forall_mem_cons.mpr ⟨lw_p24, List.forall_mem_cons.mpr ⟨lw_p25, List.forall_mem_cons.mpr ⟨lw_p26, List.forall_mem_cons.mpr ⟨lw_p27, List.forall_mem_cons.mpr ⟨lw_p28, List.forall_mem_cons.mpr ⟨lw_p29, List.forall_mem_cons.mpr ⟨lw_p30, List.forall_mem_cons.mpr ⟨lw_p31, fun _ h => absurd h List.not_mem_nil⟩⟩⟩⟩⟩⟩⟩⟩⟩⟩⟩⟩⟩⟩⟩⟩
theorem lw_p32 : lw_okq (⟨"LastLent$PayOut", "swapFunds", "(II)V"⟩, 16) := ⟨⟨by decide +kernel, by decide +kernel⟩, List.mem_of_getElem? (i := 128) (by decide +kernel), List.mem_of_getElem? (i := 682) (by decide +kernel), List.mem_of_getElem? (i := 683) (by decide +kernel)⟩
theorem lw_p33 : lw_okq (⟨"LastLent$PayOut", "paidForShip", "([I[I)I"⟩, 16) := ⟨⟨by decide +kernel, by decide +kernel⟩, List.mem_of_getElem? (i := 128) (by decide +kernel), List.mem_of_getElem? (i := 718) (by decide +kernel), List.mem_of_getElem? (i := 719) (by decide +kernel)⟩
theorem lw_p34 : lw_okq (⟨"LastLent", "holdingWithout", "(IIIII)I"⟩, 10) := ⟨⟨by decide +kernel, by decide +kernel⟩, List.mem_of_getElem? (i := 15) (by decide +kernel), List.mem_of_getElem? (i := 743) (by decide +kernel), List.mem_of_getElem? (i := 744) (by decide +kernel)⟩
theorem lw_p35 : lw_okq (⟨"LastLent", "canSailAgain", "(II)Z"⟩, 10) := ⟨⟨by decide +kernel, by decide +kernel⟩, List.mem_of_getElem? (i := 15) (by decide +kernel), List.mem_of_getElem? (i := 755) (by decide +kernel), List.mem_of_getElem? (i := 756) (by decide +kernel)⟩
theorem lw_p36 : lw_okq (⟨"LastLent", "supposeVoyage", "(IIIII)V"⟩, 10) := ⟨⟨by decide +kernel, by decide +kernel⟩, List.mem_of_getElem? (i := 15) (by decide +kernel), List.mem_of_getElem? (i := 759) (by decide +kernel), List.mem_of_getElem? (i := 760) (by decide +kernel)⟩
theorem lw_p37 : lw_okq (⟨"LastLent", "wiseFor", "(I)I"⟩, 10) := ⟨⟨by decide +kernel, by decide +kernel⟩, List.mem_of_getElem? (i := 15) (by decide +kernel), List.mem_of_getElem? (i := 763) (by decide +kernel), List.mem_of_getElem? (i := 764) (by decide +kernel)⟩
theorem lw_p38 : lw_okq (⟨"LastLent", "worthFor", "(II)I"⟩, 10) := ⟨⟨by decide +kernel, by decide +kernel⟩, List.mem_of_getElem? (i := 15) (by decide +kernel), List.mem_of_getElem? (i := 767) (by decide +kernel), List.mem_of_getElem? (i := 768) (by decide +kernel)⟩
theorem lw_p39 : lw_okq (⟨"LastLent", "hangsOn", "(IIIII)I"⟩, 10) := ⟨⟨by decide +kernel, by decide +kernel⟩, List.mem_of_getElem? (i := 15) (by decide +kernel), List.mem_of_getElem? (i := 775) (by decide +kernel), List.mem_of_getElem? (i := 776) (by decide +kernel)⟩
theorem lw_p40 : lw_okq (⟨"LastLentModel", "bare", "()V"⟩, 48) := ⟨⟨by decide +kernel, by decide +kernel⟩, List.mem_of_getElem? (i := 793) (by decide +kernel), List.mem_of_getElem? (i := 799) (by decide +kernel), List.mem_of_getElem? (i := 800) (by decide +kernel)⟩
theorem lw_p41 : lw_okq (⟨"LastLentModel", "keepLaw", "(I)V"⟩, 48) := ⟨⟨by decide +kernel, by decide +kernel⟩, List.mem_of_getElem? (i := 793) (by decide +kernel), List.mem_of_getElem? (i := 803) (by decide +kernel), List.mem_of_getElem? (i := 804) (by decide +kernel)⟩
theorem lw_p42 : lw_okq (⟨"LastLentModel", "findRanks", "(I)V"⟩, 48) := ⟨⟨by decide +kernel, by decide +kernel⟩, List.mem_of_getElem? (i := 793) (by decide +kernel), List.mem_of_getElem? (i := 807) (by decide +kernel), List.mem_of_getElem? (i := 808) (by decide +kernel)⟩
theorem lw_p43 : lw_okq (⟨"LastLentModel", "areAlike", "(III)Z"⟩, 48) := ⟨⟨by decide +kernel, by decide +kernel⟩, List.mem_of_getElem? (i := 793) (by decide +kernel), List.mem_of_getElem? (i := 811) (by decide +kernel), List.mem_of_getElem? (i := 812) (by decide +kernel)⟩
theorem lw_p44 : lw_okq (⟨"LastLentModel", "levelRanks", "(I)V"⟩, 48) := ⟨⟨by decide +kernel, by decide +kernel⟩, List.mem_of_getElem? (i := 793) (by decide +kernel), List.mem_of_getElem? (i := 815) (by decide +kernel), List.mem_of_getElem? (i := 816) (by decide +kernel)⟩
theorem lw_p45 : lw_okq (⟨"LastLentModel", "beginImages", "()V"⟩, 48) := ⟨⟨by decide +kernel, by decide +kernel⟩, List.mem_of_getElem? (i := 793) (by decide +kernel), List.mem_of_getElem? (i := 819) (by decide +kernel), List.mem_of_getElem? (i := 820) (by decide +kernel)⟩
theorem lw_p46 : lw_okq (⟨"LastLentModel", "here", "()I"⟩, 48) := ⟨⟨by decide +kernel, by decide +kernel⟩, List.mem_of_getElem? (i := 793) (by decide +kernel), List.mem_of_getElem? (i := 985) (by decide +kernel), List.mem_of_getElem? (i := 986) (by decide +kernel)⟩
theorem lw_p47 : lw_okq (⟨"LastLentModel", "takeClause", "()I"⟩, 48) := ⟨⟨by decide +kernel, by decide +kernel⟩, List.mem_of_getElem? (i := 793) (by decide +kernel), List.mem_of_getElem? (i := 989) (by decide +kernel), List.mem_of_getElem? (i := 990) (by decide +kernel)⟩
def lw_privs_3 : List (MethodName × Nat) := [(⟨"LastLent$PayOut", "swapFunds", "(II)V"⟩, 16), (⟨"LastLent$PayOut", "paidForShip", "([I[I)I"⟩, 16), (⟨"LastLent", "holdingWithout", "(IIIII)I"⟩, 10), (⟨"LastLent", "canSailAgain", "(II)Z"⟩, 10), (⟨"LastLent", "supposeVoyage", "(IIIII)V"⟩, 10), (⟨"LastLent", "wiseFor", "(I)I"⟩, 10), (⟨"LastLent", "worthFor", "(II)I"⟩, 10), (⟨"LastLent", "hangsOn", "(IIIII)I"⟩, 10), (⟨"LastLentModel", "bare", "()V"⟩, 48), (⟨"LastLentModel", "keepLaw", "(I)V"⟩, 48), (⟨"LastLentModel", "findRanks", "(I)V"⟩, 48), (⟨"LastLentModel", "areAlike", "(III)Z"⟩, 48), (⟨"LastLentModel", "levelRanks", "(I)V"⟩, 48), (⟨"LastLentModel", "beginImages", "()V"⟩, 48), (⟨"LastLentModel", "here", "()I"⟩, 48), (⟨"LastLentModel", "takeClause", "()I"⟩, 48)]
theorem lw_r3 : ∀ q ∈ lw_privs_3, lw_okq q := List.forall_mem_cons.mpr ⟨lw_p32, List.forall_mem_cons.mpr ⟨lw_p33, List.forall_mem_cons.mpr ⟨lw_p34, List.forall_mem_cons.mpr ⟨lw_p35, List.forall_mem_cons.mpr ⟨lw_p36, List.forall_mem_cons.mpr ⟨lw_p37, List.forall_mem_cons.mpr ⟨lw_p38, List.forall_mem_cons.mpr ⟨lw_p39, List.forall_mem_cons.mpr ⟨lw_p40, List.forall_mem_cons.mpr ⟨lw_p41, List.forall_mem_cons.mpr ⟨lw_p42, List.forall_mem_cons.mpr ⟨lw_p43, List.forall_mem_cons.mpr ⟨lw_p44, List.forall_mem_cons.mpr ⟨lw_p45, List.forall_mem_cons.mpr ⟨lw_p46, List.forall_mem_cons.mpr ⟨lw_p47, fun _ h => absurd h List.not_mem_nil⟩⟩⟩⟩⟩⟩⟩⟩⟩⟩⟩⟩⟩⟩⟩⟩
theorem lw_p48 : lw_okq (⟨"LastLentModel", "readWord", "()V"⟩, 48) := ⟨⟨by decide +kernel, by decide +kernel⟩, List.mem_of_getElem? (i := 793) (by decide +kernel), List.mem_of_getElem? (i := 993) (by decide +kernel), List.mem_of_getElem? (i := 994) (by decide +kernel)⟩
theorem lw_p49 : lw_okq (⟨"LastLentModel", "clauseOf", "()I"⟩, 48) := ⟨⟨by decide +kernel, by decide +kernel⟩, List.mem_of_getElem? (i := 793) (by decide +kernel), List.mem_of_getElem? (i := 1003) (by decide +kernel), List.mem_of_getElem? (i := 1004) (by decide +kernel)⟩
theorem lw_p50 : lw_okq (⟨"LastLentModel", "fails", "(II)I"⟩, 48) := ⟨⟨by decide +kernel, by decide +kernel⟩, List.mem_of_getElem? (i := 793) (by decide +kernel), List.mem_of_getElem? (i := 1013) (by decide +kernel), List.mem_of_getElem? (i := 1014) (by decide +kernel)⟩
theorem lw_p51 : lw_okq (⟨"LastLentModel", "takeRides", "()I"⟩, 48) := ⟨⟨by decide +kernel, by decide +kernel⟩, List.mem_of_getElem? (i := 793) (by decide +kernel), List.mem_of_getElem? (i := 1017) (by decide +kernel), List.mem_of_getElem? (i := 1018) (by decide +kernel)⟩
theorem lw_p52 : lw_okq (⟨"LastLentModel", "takeKind", "()I"⟩, 48) := ⟨⟨by decide +kernel, by decide +kernel⟩, List.mem_of_getElem? (i := 793) (by decide +kernel), List.mem_of_getElem? (i := 1021) (by decide +kernel), List.mem_of_getElem? (i := 1022) (by decide +kernel)⟩
theorem lw_p53 : lw_okq (⟨"LastLentModel", "kindOf", "()I"⟩, 48) := ⟨⟨by decide +kernel, by decide +kernel⟩, List.mem_of_getElem? (i := 793) (by decide +kernel), List.mem_of_getElem? (i := 1025) (by decide +kernel), List.mem_of_getElem? (i := 1026) (by decide +kernel)⟩
theorem lw_p54 : lw_okq (⟨"LastLentModel", "fundOf", "()I"⟩, 48) := ⟨⟨by decide +kernel, by decide +kernel⟩, List.mem_of_getElem? (i := 793) (by decide +kernel), List.mem_of_getElem? (i := 1029) (by decide +kernel), List.mem_of_getElem? (i := 1030) (by decide +kernel)⟩
theorem lw_p55 : lw_okq (⟨"LastLentModel", "takeAhead", "(I)I"⟩, 48) := ⟨⟨by decide +kernel, by decide +kernel⟩, List.mem_of_getElem? (i := 793) (by decide +kernel), List.mem_of_getElem? (i := 1033) (by decide +kernel), List.mem_of_getElem? (i := 1034) (by decide +kernel)⟩
theorem lw_p56 : lw_okq (⟨"LastLentModel", "takeOnce", "(II)I"⟩, 48) := ⟨⟨by decide +kernel, by decide +kernel⟩, List.mem_of_getElem? (i := 793) (by decide +kernel), List.mem_of_getElem? (i := 1037) (by decide +kernel), List.mem_of_getElem? (i := 1038) (by decide +kernel)⟩
theorem lw_p57 : lw_okq (⟨"LastLentModel", "takeNumber", "(II)I"⟩, 48) := ⟨⟨by decide +kernel, by decide +kernel⟩, List.mem_of_getElem? (i := 793) (by decide +kernel), List.mem_of_getElem? (i := 1041) (by decide +kernel), List.mem_of_getElem? (i := 1042) (by decide +kernel)⟩
theorem lw_p58 : lw_okq (⟨"LastLentModel", "withinOf", "()I"⟩, 48) := ⟨⟨by decide +kernel, by decide +kernel⟩, List.mem_of_getElem? (i := 793) (by decide +kernel), List.mem_of_getElem? (i := 1047) (by decide +kernel), List.mem_of_getElem? (i := 1048) (by decide +kernel)⟩
theorem lw_p59 : lw_okq (⟨"LastLentModel", "takeOfKind", "(I)I"⟩, 48) := ⟨⟨by decide +kernel, by decide +kernel⟩, List.mem_of_getElem? (i := 793) (by decide +kernel), List.mem_of_getElem? (i := 1051) (by decide +kernel), List.mem_of_getElem? (i := 1052) (by decide +kernel)⟩
theorem lw_p60 : lw_okq (⟨"LastLentModel", "ring", "(I)I"⟩, 48) := ⟨⟨by decide +kernel, by decide +kernel⟩, List.mem_of_getElem? (i := 793) (by decide +kernel), List.mem_of_getElem? (i := 1067) (by decide +kernel), List.mem_of_getElem? (i := 1068) (by decide +kernel)⟩
theorem lw_p61 : lw_okq (⟨"LastLentModel", "putClaim", "(IIIIZI)V"⟩, 48) := ⟨⟨by decide +kernel, by decide +kernel⟩, List.mem_of_getElem? (i := 793) (by decide +kernel), List.mem_of_getElem? (i := 1096) (by decide +kernel), List.mem_of_getElem? (i := 1097) (by decide +kernel)⟩
theorem lw_p62 : lw_okq (⟨"LastLentModel", "isClaim", "(I)Z"⟩, 48) := ⟨⟨by decide +kernel, by decide +kernel⟩, List.mem_of_getElem? (i := 793) (by decide +kernel), List.mem_of_getElem? (i := 1104) (by decide +kernel), List.mem_of_getElem? (i := 1105) (by decide +kernel)⟩
theorem lw_p63 : lw_okq (⟨"LastLentModel", "voyageOf", "(I)I"⟩, 48) := ⟨⟨by decide +kernel, by decide +kernel⟩, List.mem_of_getElem? (i := 793) (by decide +kernel), List.mem_of_getElem? (i := 1133) (by decide +kernel), List.mem_of_getElem? (i := 1134) (by decide +kernel)⟩
def lw_privs_4 : List (MethodName × Nat) := [(⟨"LastLentModel", "readWord", "()V"⟩, 48), (⟨"LastLentModel", "clauseOf", "()I"⟩, 48), (⟨"LastLentModel", "fails", "(II)I"⟩, 48), (⟨"LastLentModel", "takeRides", "()I"⟩, 48), (⟨"LastLentModel", "takeKind", "()I"⟩, 48), (⟨"LastLentModel", "kindOf", "()I"⟩, 48), (⟨"LastLentModel", "fundOf", "()I"⟩, 48), (⟨"LastLentModel", "takeAhead", "(I)I"⟩, 48), (⟨"LastLentModel", "takeOnce", "(II)I"⟩, 48), (⟨"LastLentModel", "takeNumber", "(II)I"⟩, 48), (⟨"LastLentModel", "withinOf", "()I"⟩, 48), (⟨"LastLentModel", "takeOfKind", "(I)I"⟩, 48), (⟨"LastLentModel", "ring", "(I)I"⟩, 48), (⟨"LastLentModel", "putClaim", "(IIIIZI)V"⟩, 48), (⟨"LastLentModel", "isClaim", "(I)Z"⟩, 48), (⟨"LastLentModel", "voyageOf", "(I)I"⟩, 48)]
theorem lw_r4 : ∀ q ∈ lw_privs_4, lw_okq q := List.forall_mem_cons.mpr ⟨lw_p48, List.forall_mem_cons.mpr ⟨lw_p49, List.forall_mem_cons.mpr ⟨lw_p50, List.forall_mem_cons.mpr ⟨lw_p51, List.forall_mem_cons.mpr ⟨lw_p52, List.forall_mem_cons.mpr ⟨lw_p53, List.forall_mem_cons.mpr ⟨lw_p54, List.forall_mem_cons.mpr ⟨lw_p55, List.forall_mem_cons.mpr ⟨lw_p56, List.forall_mem_cons.mpr ⟨lw_p57, List.forall_mem_cons.mpr ⟨lw_p58, List.forall_mem_cons.mpr ⟨lw_p59, List.forall_mem_cons.mpr ⟨lw_p60, List.forall_mem_cons.mpr ⟨lw_p61, List.forall_mem_cons.mpr ⟨lw_p62, List.forall_mem_cons.mpr ⟨lw_p63, fun _ h => absurd h List.not_mem_nil⟩⟩⟩⟩⟩⟩⟩⟩⟩⟩⟩⟩⟩⟩⟩⟩
theorem lw_p64 : lw_okq (⟨"LastLentModel", "why", "(III)I"⟩, 48) := ⟨⟨by decide +kernel, by decide +kernel⟩, List.mem_of_getElem? (i := 793) (by decide +kernel), List.mem_of_getElem? (i := 1145) (by decide +kernel), List.mem_of_getElem? (i := 1146) (by decide +kernel)⟩
theorem lw_p65 : lw_okq (⟨"LastLentModel", "order2", "(III)I"⟩, 48) := ⟨⟨by decide +kernel, by decide +kernel⟩, List.mem_of_getElem? (i := 793) (by decide +kernel), List.mem_of_getElem? (i := 1157) (by decide +kernel), List.mem_of_getElem? (i := 1158) (by decide +kernel)⟩
theorem lw_p66 : lw_okq (⟨"LastLentModel", "isThere", "(IIII)Z"⟩, 48) := ⟨⟨by decide +kernel, by decide +kernel⟩, List.mem_of_getElem? (i := 793) (by decide +kernel), List.mem_of_getElem? (i := 1165) (by decide +kernel), List.mem_of_getElem? (i := 1166) (by decide +kernel)⟩
theorem lw_p67 : lw_okq (⟨"LastLentModel", "isOn", "(III)Z"⟩, 48) := ⟨⟨by decide +kernel, by decide +kernel⟩, List.mem_of_getElem? (i := 793) (by decide +kernel), List.mem_of_getElem? (i := 1169) (by decide +kernel), List.mem_of_getElem? (i := 1170) (by decide +kernel)⟩
theorem lw_p68 : lw_okq (⟨"LastLentModel", "payOut", "(III)V"⟩, 48) := ⟨⟨by decide +kernel, by decide +kernel⟩, List.mem_of_getElem? (i := 793) (by decide +kernel), List.mem_of_getElem? (i := 1180) (by decide +kernel), List.mem_of_getElem? (i := 1181) (by decide +kernel)⟩
theorem lw_p69 : lw_okq (⟨"LastLentModel", "payAll", "(II)I"⟩, 48) := ⟨⟨by decide +kernel, by decide +kernel⟩, List.mem_of_getElem? (i := 793) (by decide +kernel), List.mem_of_getElem? (i := 1184) (by decide +kernel), List.mem_of_getElem? (i := 1185) (by decide +kernel)⟩
theorem lw_p70 : lw_okq (⟨"LastLentModel", "findStep", "(III)I"⟩, 48) := ⟨⟨by decide +kernel, by decide +kernel⟩, List.mem_of_getElem? (i := 793) (by decide +kernel), List.mem_of_getElem? (i := 1188) (by decide +kernel), List.mem_of_getElem? (i := 1189) (by decide +kernel)⟩
theorem lw_p71 : lw_okq (⟨"LastLentModel", "isWanting", "(IIII)Z"⟩, 48) := ⟨⟨by decide +kernel, by decide +kernel⟩, List.mem_of_getElem? (i := 793) (by decide +kernel), List.mem_of_getElem? (i := 1192) (by decide +kernel), List.mem_of_getElem? (i := 1193) (by decide +kernel)⟩
theorem lw_p72 : lw_okq (⟨"LastLentModel", "wants", "(I)I"⟩, 48) := ⟨⟨by decide +kernel, by decide +kernel⟩, List.mem_of_getElem? (i := 793) (by decide +kernel), List.mem_of_getElem? (i := 1196) (by decide +kernel), List.mem_of_getElem? (i := 1197) (by decide +kernel)⟩
theorem lw_p73 : lw_okq (⟨"LastLentModel", "payStep", "(III)V"⟩, 48) := ⟨⟨by decide +kernel, by decide +kernel⟩, List.mem_of_getElem? (i := 793) (by decide +kernel), List.mem_of_getElem? (i := 1200) (by decide +kernel), List.mem_of_getElem? (i := 1201) (by decide +kernel)⟩
theorem lw_p74 : lw_okq (⟨"LastLentModel", "pay", "(IIII)V"⟩, 48) := ⟨⟨by decide +kernel, by decide +kernel⟩, List.mem_of_getElem? (i := 793) (by decide +kernel), List.mem_of_getElem? (i := 1204) (by decide +kernel), List.mem_of_getElem? (i := 1205) (by decide +kernel)⟩
theorem lw_p75 : lw_okq (⟨"LastLentModel", "having", "(I)I"⟩, 48) := ⟨⟨by decide +kernel, by decide +kernel⟩, List.mem_of_getElem? (i := 793) (by decide +kernel), List.mem_of_getElem? (i := 1216) (by decide +kernel), List.mem_of_getElem? (i := 1217) (by decide +kernel)⟩
theorem lw_p76 : lw_okq (⟨"LastLentModel", "hanging", "(IIIII)I"⟩, 48) := ⟨⟨by decide +kernel, by decide +kernel⟩, List.mem_of_getElem? (i := 793) (by decide +kernel), List.mem_of_getElem? (i := 1254) (by decide +kernel), List.mem_of_getElem? (i := 1255) (by decide +kernel)⟩
def lw_privs_5 : List (MethodName × Nat) := [(⟨"LastLentModel", "why", "(III)I"⟩, 48), (⟨"LastLentModel", "order2", "(III)I"⟩, 48), (⟨"LastLentModel", "isThere", "(IIII)Z"⟩, 48), (⟨"LastLentModel", "isOn", "(III)Z"⟩, 48), (⟨"LastLentModel", "payOut", "(III)V"⟩, 48), (⟨"LastLentModel", "payAll", "(II)I"⟩, 48), (⟨"LastLentModel", "findStep", "(III)I"⟩, 48), (⟨"LastLentModel", "isWanting", "(IIII)Z"⟩, 48), (⟨"LastLentModel", "wants", "(I)I"⟩, 48), (⟨"LastLentModel", "payStep", "(III)V"⟩, 48), (⟨"LastLentModel", "pay", "(IIII)V"⟩, 48), (⟨"LastLentModel", "having", "(I)I"⟩, 48), (⟨"LastLentModel", "hanging", "(IIIII)I"⟩, 48)]
theorem lw_r5 : ∀ q ∈ lw_privs_5, lw_okq q := List.forall_mem_cons.mpr ⟨lw_p64, List.forall_mem_cons.mpr ⟨lw_p65, List.forall_mem_cons.mpr ⟨lw_p66, List.forall_mem_cons.mpr ⟨lw_p67, List.forall_mem_cons.mpr ⟨lw_p68, List.forall_mem_cons.mpr ⟨lw_p69, List.forall_mem_cons.mpr ⟨lw_p70, List.forall_mem_cons.mpr ⟨lw_p71, List.forall_mem_cons.mpr ⟨lw_p72, List.forall_mem_cons.mpr ⟨lw_p73, List.forall_mem_cons.mpr ⟨lw_p74, List.forall_mem_cons.mpr ⟨lw_p75, List.forall_mem_cons.mpr ⟨lw_p76, fun _ h => absurd h List.not_mem_nil⟩⟩⟩⟩⟩⟩⟩⟩⟩⟩⟩⟩⟩
def lw_privs : List (MethodName × Nat) := lw_privs_1 ++ (lw_privs_2 ++ (lw_privs_3 ++ (lw_privs_4 ++ (lw_privs_5))))
def lw_tbl : List Cond := k2_sels lw_privs ++ tables_1
theorem lw_privs_ok : ∀ q ∈ lw_privs, lw_okq q := by
  show ∀ q ∈ lw_privs_1 ++ (lw_privs_2 ++ (lw_privs_3 ++ (lw_privs_4 ++ (lw_privs_5)))), lw_okq q
  exact List.forall_mem_append.mpr ⟨lw_r1, List.forall_mem_append.mpr ⟨lw_r2, List.forall_mem_append.mpr ⟨lw_r3, List.forall_mem_append.mpr ⟨lw_r4, lw_r5⟩⟩⟩⟩
end
section
def RX0 : String := "LastLent$Law"
def TX0 : u_T := fun k => match k with
  | 0 => ("LastLent$Law", "rides", "[I", true)
  | 1 => ("LastLent$Law", "dies", "[I", true)
  | 2 => ("LastLent$Law", "aheadOf", "[I", true)
  | 3 => ("LastLent$Law", "ranks", "[I", true)
  | 4 => ("LastLent$Law", "firsts", "I", false)
  | 5 => ("LastLent$Law", "behinds", "I", false)
  | 6 => ("LastLent$Law", "needLeave", "I", false)
  | 7 => ("LastLent$Law", "ring", "I", false)
  | 8 => ("LastLent$Law", "aheads", "I", false)
  | 9 => ("LastLent$Law", "within", "I", false)
  | 10 => ("LastLent$Law", "costs", "I", false)
  | 11 => ("LastLent$Law", "laterVoyages", "Z", false)
  | _ => ("LastLent$Law", "sale", "Z", false)
def tyX0 : Nat → FieldType := fun k => match k with
  | 0 => .array .int
  | 1 => .array .int
  | 2 => .array .int
  | 3 => .array .int
  | 4 => .int
  | 5 => .int
  | 6 => .int
  | 7 => .int
  | 8 => .int
  | 9 => .int
  | 10 => .int
  | 11 => .boolean
  | _ => .boolean
abbrev wsX00 : List Cond := u_ws RX0 TX0 13
theorem nmX0 : ∀ a, a < 13 → ∀ b, b < 13 → a ≠ b → (TX0 a).2.1 ≠ (TX0 b).2.1 := by decide +kernel
theorem tyX0_ok : ∀ k, k < 13 → parseFieldDescriptor (TX0 k).2.2.1 = some (tyX0 k) := by decide +kernel
abbrev cX0_init : ByteArray := prog_2_method_1_code
def yX0_init : MethodName := ⟨RX0, "<init>", "()V"⟩
abbrev cX0_tellNothing : ByteArray := prog_2_method_2_code
def yX0_tellNothing : MethodName := ⟨RX0, "tellNothing", "()V"⟩
abbrev cX0_settle : ByteArray := prog_2_method_3_code
def yX0_settle : MethodName := ⟨RX0, "settle", "()V"⟩
abbrev cX0_followSteps : ByteArray := prog_2_method_4_code
def yX0_followSteps : MethodName := ⟨RX0, "followSteps", "()V"⟩
abbrev cX0_raiseRanks : ByteArray := prog_2_method_5_code
def yX0_raiseRanks : MethodName := ⟨RX0, "raiseRanks", "()V"⟩
abbrev cX0_standingOf : ByteArray := prog_2_method_6_code
def yX0_standingOf : MethodName := ⟨RX0, "standingOf", "(III)I"⟩
abbrev cX0_fundsFor : ByteArray := prog_2_method_7_code
def yX0_fundsFor : MethodName := ⟨RX0, "fundsFor", "(II)I"⟩
def RX1 : String := "LastLent$LawText"
def TX1 : u_T := fun k => match k with
  | 0 => ("LastLent$LawText", "bytes", "[I", true)
  | 1 => ("LastLent$LawText", "size", "I", false)
  | 2 => ("LastLent$LawText", "faultNumber", "I", false)
  | 3 => ("LastLent$LawText", "faultPlace", "I", false)
  | 4 => ("LastLent$LawText", "token", "I", false)
  | 5 => ("LastLent$LawText", "start", "I", false)
  | 6 => ("LastLent$LawText", "place", "I", false)
  | 7 => ("LastLent$LawText", "clausesTold", "I", false)
  | _ => ("LastLent$LawText", "ridesTold", "I", false)
def tyX1 : Nat → FieldType := fun k => match k with
  | 0 => .array .int
  | 1 => .int
  | 2 => .int
  | 3 => .int
  | 4 => .int
  | 5 => .int
  | 6 => .int
  | 7 => .int
  | _ => .int
abbrev wsX10 : List Cond := u_ws RX1 TX1 9
theorem nmX1 : ∀ a, a < 9 → ∀ b, b < 9 → a ≠ b → (TX1 a).2.1 ≠ (TX1 b).2.1 := by decide +kernel
theorem tyX1_ok : ∀ k, k < 9 → parseFieldDescriptor (TX1 k).2.2.1 = some (tyX1 k) := by decide +kernel
abbrev cX1_init : ByteArray := prog_3_method_1_code
def yX1_init : MethodName := ⟨RX1, "<init>", "()V"⟩
abbrev cX1_append : ByteArray := prog_3_method_2_code
def yX1_append : MethodName := ⟨RX1, "append", "(I)V"⟩
abbrev cX1_readInto : ByteArray := prog_3_method_3_code
def yX1_readInto : MethodName := ⟨RX1, "readInto", "(LLastLent$Law;)I"⟩
abbrev cX1_beginClause : ByteArray := prog_3_method_4_code
def yX1_beginClause : MethodName := ⟨RX1, "beginClause", "(LLastLent$Law;)I"⟩
abbrev cX1_isOneTooMany : ByteArray := prog_3_method_5_code
def yX1_isOneTooMany : MethodName := ⟨RX1, "isOneTooMany", "(ILLastLent$Law;)Z"⟩
abbrev cX1_readBody : ByteArray := prog_3_method_6_code
def yX1_readBody : MethodName := ⟨RX1, "readBody", "(ILLastLent$Law;)Z"⟩
abbrev cX1_readRides : ByteArray := prog_3_method_7_code
def yX1_readRides : MethodName := ⟨RX1, "readRides", "(LLastLent$Law;)Z"⟩
abbrev cX1_readFund : ByteArray := prog_3_method_8_code
def yX1_readFund : MethodName := ⟨RX1, "readFund", "(LLastLent$Law;I)Z"⟩
abbrev cX1_isFundNext : ByteArray := prog_3_method_9_code
def yX1_isFundNext : MethodName := ⟨RX1, "isFundNext", "()Z"⟩
abbrev cX1_readAhead : ByteArray := prog_3_method_10_code
def yX1_readAhead : MethodName := ⟨RX1, "readAhead", "(LLastLent$Law;)Z"⟩
abbrev cX1_readFirst : ByteArray := prog_3_method_11_code
def yX1_readFirst : MethodName := ⟨RX1, "readFirst", "(LLastLent$Law;)Z"⟩
abbrev cX1_readBehind : ByteArray := prog_3_method_12_code
def yX1_readBehind : MethodName := ⟨RX1, "readBehind", "(LLastLent$Law;)Z"⟩
abbrev cX1_readWithin : ByteArray := prog_3_method_13_code
def yX1_readWithin : MethodName := ⟨RX1, "readWithin", "(LLastLent$Law;)Z"⟩
abbrev cX1_readDies : ByteArray := prog_3_method_14_code
def yX1_readDies : MethodName := ⟨RX1, "readDies", "(LLastLent$Law;)Z"⟩
abbrev cX1_kindsThatDie : ByteArray := prog_3_method_15_code
def yX1_kindsThatDie : MethodName := ⟨RX1, "kindsThatDie", "(LLastLent$Law;)I"⟩
abbrev cX1_readLeave : ByteArray := prog_3_method_16_code
def yX1_readLeave : MethodName := ⟨RX1, "readLeave", "(LLastLent$Law;)Z"⟩
abbrev cX1_readCosts : ByteArray := prog_3_method_17_code
def yX1_readCosts : MethodName := ⟨RX1, "readCosts", "(LLastLent$Law;)Z"⟩
abbrev cX1_readClose : ByteArray := prog_3_method_18_code
def yX1_readClose : MethodName := ⟨RX1, "readClose", "()V"⟩
abbrev cX1_readKind : ByteArray := prog_3_method_19_code
def yX1_readKind : MethodName := ⟨RX1, "readKind", "(I)I"⟩
abbrev cX1_readNumber : ByteArray := prog_3_method_20_code
def yX1_readNumber : MethodName := ⟨RX1, "readNumber", "(I)I"⟩
abbrev cX1_refuse : ByteArray := prog_3_method_21_code
def yX1_refuse : MethodName := ⟨RX1, "refuse", "(I)Z"⟩
abbrev cX1_nextToken : ByteArray := prog_3_method_22_code
def yX1_nextToken : MethodName := ⟨RX1, "nextToken", "()V"⟩
abbrev cX1_isLetter : ByteArray := prog_3_method_23_code
def yX1_isLetter : MethodName := ⟨RX1, "isLetter", "(I)Z"⟩
abbrev cX1_isFigure : ByteArray := prog_3_method_24_code
def yX1_isFigure : MethodName := ⟨RX1, "isFigure", "(I)Z"⟩
abbrev cX1_wordIn : ByteArray := prog_3_method_25_code
def yX1_wordIn : MethodName := ⟨RX1, "wordIn", "(Ljava/lang/String;)I"⟩
abbrev cX1_isWordAt : ByteArray := prog_3_method_26_code
def yX1_isWordAt : MethodName := ⟨RX1, "isWordAt", "(Ljava/lang/String;I)Z"⟩
def RX2 : String := "LastLent$PayOut"
def TX2 : u_T := fun k => match k with
  | 0 => ("LastLent$PayOut", "line", "[I", true)
  | 1 => ("LastLent$PayOut", "lined", "I", false)
  | 2 => ("LastLent$PayOut", "claims", "I", false)
  | 3 => ("LastLent$PayOut", "standings", "[I", true)
  | 4 => ("LastLent$PayOut", "rideSets", "[I", true)
  | 5 => ("LastLent$PayOut", "amounts", "[I", true)
  | 6 => ("LastLent$PayOut", "wants", "[I", true)
  | 7 => ("LastLent$PayOut", "gives", "[I", true)
  | 8 => ("LastLent$PayOut", "sums", "[I", true)
  | 9 => ("LastLent$PayOut", "rests", "[I", true)
  | 10 => ("LastLent$PayOut", "funds", "[I", true)
  | 11 => ("LastLent$PayOut", "bestFunds", "[I", true)
  | 12 => ("LastLent$PayOut", "paidAfter", "[[I", true)
  | 13 => ("LastLent$PayOut", "totalAfter", "[I", true)
  | 14 => ("LastLent$PayOut", "backAsked", "[I", true)
  | _ => ("LastLent$PayOut", "backGiven", "[I", true)
def tyX2 : Nat → FieldType := fun k => match k with
  | 0 => .array .int
  | 1 => .int
  | 2 => .int
  | 3 => .array .int
  | 4 => .array .int
  | 5 => .array .int
  | 6 => .array .int
  | 7 => .array .int
  | 8 => .array .int
  | 9 => .array .int
  | 10 => .array .int
  | 11 => .array .int
  | 12 => .array (.array .int)
  | 13 => .array .int
  | 14 => .array .int
  | _ => .array .int
abbrev wsX20 : List Cond := u_ws RX2 TX2 16
theorem nmX2 : ∀ a, a < 16 → ∀ b, b < 16 → a ≠ b → (TX2 a).2.1 ≠ (TX2 b).2.1 := by decide +kernel
theorem tyX2_ok : ∀ k, k < 16 → parseFieldDescriptor (TX2 k).2.2.1 = some (tyX2 k) := by decide +kernel
abbrev cX2_init : ByteArray := prog_4_method_1_code
def yX2_init : MethodName := ⟨RX2, "<init>", "()V"⟩
abbrev cX2_run : ByteArray := prog_4_method_2_code
def yX2_run : MethodName := ⟨RX2, "run", "(LLastLent$Law;LLastLent$Ship;II)V"⟩
abbrev cX2_lineUp : ByteArray := prog_4_method_3_code
def yX2_lineUp : MethodName := ⟨RX2, "lineUp", "(LLastLent$Law;LLastLent$Ship;I)V"⟩
abbrev cX2_joinLine : ByteArray := prog_4_method_4_code
def yX2_joinLine : MethodName := ⟨RX2, "joinLine", "(I)V"⟩
abbrev cX2_stepOf : ByteArray := prog_4_method_5_code
def yX2_stepOf : MethodName := ⟨RX2, "stepOf", "(II)I"⟩
abbrev cX2_marshal : ByteArray := prog_4_method_6_code
def yX2_marshal : MethodName := ⟨RX2, "marshal", "()V"⟩
abbrev cX2_mostPayable : ByteArray := prog_4_method_7_code
def yX2_mostPayable : MethodName := ⟨RX2, "mostPayable", "()I"⟩
abbrev cX2_wantedOf : ByteArray := prog_4_method_8_code
def yX2_wantedOf : MethodName := ⟨RX2, "wantedOf", "(I)I"⟩
abbrev cX2_nextOrder : ByteArray := prog_4_method_9_code
def yX2_nextOrder : MethodName := ⟨RX2, "nextOrder", "()I"⟩
abbrev cX2_swapFunds : ByteArray := prog_4_method_10_code
def yX2_swapFunds : MethodName := ⟨RX2, "swapFunds", "(II)V"⟩
abbrev cX2_payAllFrom : ByteArray := prog_4_method_11_code
def yX2_payAllFrom : MethodName := ⟨RX2, "payAllFrom", "(I)V"⟩
abbrev cX2_payFund : ByteArray := prog_4_method_12_code
def yX2_payFund : MethodName := ⟨RX2, "payFund", "(I[I)I"⟩
abbrev cX2_share : ByteArray := prog_4_method_13_code
def yX2_share : MethodName := ⟨RX2, "share", "(I[I[III)I"⟩
abbrev cX2_paidTo : ByteArray := prog_4_method_14_code
def yX2_paidTo : MethodName := ⟨RX2, "paidTo", "(I)I"⟩
abbrev cX2_paidInAll : ByteArray := prog_4_method_15_code
def yX2_paidInAll : MethodName := ⟨RX2, "paidInAll", "()I"⟩
abbrev cX2_holding : ByteArray := prog_4_method_16_code
def yX2_holding : MethodName := ⟨RX2, "holding", "(LLastLent$Ship;I)I"⟩
abbrev cX2_giveBack : ByteArray := prog_4_method_17_code
def yX2_giveBack : MethodName := ⟨RX2, "giveBack", "()V"⟩
abbrev cX2_paidForShip : ByteArray := prog_4_method_18_code
def yX2_paidForShip : MethodName := ⟨RX2, "paidForShip", "([I[I)I"⟩
def RX3 : String := "LastLent$Ship"
def TX3 : u_T := fun k => match k with
  | 0 => ("LastLent$Ship", "voyages", "I", false)
  | 1 => ("LastLent$Ship", "claims", "I", false)
  | 2 => ("LastLent$Ship", "leaves", "I", false)
  | 3 => ("LastLent$Ship", "begins", "[I", true)
  | 4 => ("LastLent$Ship", "ends", "[I", true)
  | 5 => ("LastLent$Ship", "kinds", "[I", true)
  | 6 => ("LastLent$Ship", "holders", "[I", true)
  | 7 => ("LastLent$Ship", "days", "[I", true)
  | 8 => ("LastLent$Ship", "amounts", "[I", true)
  | 9 => ("LastLent$Ship", "cargoSets", "[I", true)
  | 10 => ("LastLent$Ship", "asked", "[I", true)
  | 11 => ("LastLent$Ship", "sums", "[I", true)
  | _ => ("LastLent$Ship", "owners", "[I", true)
def tyX3 : Nat → FieldType := fun k => match k with
  | 0 => .int
  | 1 => .int
  | 2 => .int
  | 3 => .array .int
  | 4 => .array .int
  | 5 => .array .int
  | 6 => .array .int
  | 7 => .array .int
  | 8 => .array .int
  | 9 => .array .int
  | 10 => .array .int
  | 11 => .array .int
  | _ => .array .int
abbrev wsX30 : List Cond := u_ws RX3 TX3 13
theorem nmX3 : ∀ a, a < 13 → ∀ b, b < 13 → a ≠ b → (TX3 a).2.1 ≠ (TX3 b).2.1 := by decide +kernel
theorem tyX3_ok : ∀ k, k < 13 → parseFieldDescriptor (TX3 k).2.2.1 = some (tyX3 k) := by decide +kernel
abbrev cX3_init : ByteArray := prog_5_method_1_code
def yX3_init : MethodName := ⟨RX3, "<init>", "()V"⟩
abbrev cX3_become : ByteArray := prog_5_method_2_code
def yX3_become : MethodName := ⟨RX3, "become", "(LLastLent$Ship;)V"⟩
abbrev cX3_addVoyage : ByteArray := prog_5_method_3_code
def yX3_addVoyage : MethodName := ⟨RX3, "addVoyage", "(II)I"⟩
abbrev cX3_addClaim : ByteArray := prog_5_method_4_code
def yX3_addClaim : MethodName := ⟨RX3, "addClaim", "(IIIIZI)I"⟩
abbrev cX3_takeAway : ByteArray := prog_5_method_5_code
def yX3_takeAway : MethodName := ⟨RX3, "takeAway", "(I)V"⟩
abbrev cX3_lastEnd : ByteArray := prog_5_method_6_code
def yX3_lastEnd : MethodName := ⟨RX3, "lastEnd", "()I"⟩
abbrev cX3_voyageOf : ByteArray := prog_5_method_7_code
def yX3_voyageOf : MethodName := ⟨RX3, "voyageOf", "(I)I"⟩
abbrev cX3_standing : ByteArray := prog_5_method_8_code
def yX3_standing : MethodName := ⟨RX3, "standing", "(LLastLent$Law;I)I"⟩
abbrev cX3_whyDead : ByteArray := prog_5_method_9_code
def yX3_whyDead : MethodName := ⟨RX3, "whyDead", "(LLastLent$Law;II)I"⟩
abbrev cX3_lastAlive : ByteArray := prog_5_method_10_code
def yX3_lastAlive : MethodName := ⟨RX3, "lastAlive", "(LLastLent$Law;I)I"⟩
abbrev cX3_lastUnbarred : ByteArray := prog_5_method_11_code
def yX3_lastUnbarred : MethodName := ⟨RX3, "lastUnbarred", "(LLastLent$Law;I)I"⟩
abbrev cX3_lacksLeave : ByteArray := prog_5_method_12_code
def yX3_lacksLeave : MethodName := ⟨RX3, "lacksLeave", "(LLastLent$Law;I)Z"⟩
def RX4 : String := "LastLent"
def TX4 : u_T := fun k => match k with
  | 0 => ("LastLent", "laws", "[LLastLent$Law;", true)
  | 1 => ("LastLent", "text", "LLastLent$LawText;", true)
  | 2 => ("LastLent", "ship", "LLastLent$Ship;", true)
  | 3 => ("LastLent", "supposed", "LLastLent$Ship;", true)
  | 4 => ("LastLent", "images", "[LLastLent$Ship;", true)
  | 5 => ("LastLent", "kept", "[Z", true)
  | 6 => ("LastLent", "payOut", "LLastLent$PayOut;", true)
  | 7 => ("LastLent", "paidBefore", "[I", true)
  | 8 => ("LastLent", "hadBefore", "[I", true)
  | _ => ("LastLent", "draft", "LLastLent$Law;", false)
def tyX4 : Nat → FieldType := fun k => match k with
  | 0 => .array (.object "LastLent$Law")
  | 1 => .object "LastLent$LawText"
  | 2 => .object "LastLent$Ship"
  | 3 => .object "LastLent$Ship"
  | 4 => .array (.object "LastLent$Ship")
  | 5 => .array .boolean
  | 6 => .object "LastLent$PayOut"
  | 7 => .array .int
  | 8 => .array .int
  | _ => .object "LastLent$Law"
abbrev wsX40 : List Cond := u_ws RX4 TX4 10
theorem nmX4 : ∀ a, a < 10 → ∀ b, b < 10 → a ≠ b → (TX4 a).2.1 ≠ (TX4 b).2.1 := by decide +kernel
theorem tyX4_ok : ∀ k, k < 10 → parseFieldDescriptor (TX4 k).2.2.1 = some (tyX4 k) := by decide +kernel
abbrev cX4_init : ByteArray := prog_1_method_1_code
def yX4_init : MethodName := ⟨RX4, "<init>", "()V"⟩
abbrev cX4_feed : ByteArray := prog_1_method_2_code
def yX4_feed : MethodName := ⟨RX4, "feed", "(IJ)I"⟩
abbrev cX4_law : ByteArray := prog_1_method_3_code
def yX4_law : MethodName := ⟨RX4, "law", "(I)I"⟩
abbrev cX4_fault : ByteArray := prog_1_method_4_code
def yX4_fault : MethodName := ⟨RX4, "fault", "()I"⟩
abbrev cX4_kind : ByteArray := prog_1_method_5_code
def yX4_kind : MethodName := ⟨RX4, "kind", "(III)I"⟩
abbrev cX4_rule : ByteArray := prog_1_method_6_code
def yX4_rule : MethodName := ⟨RX4, "rule", "(II)I"⟩
abbrev cX4_goes : ByteArray := prog_1_method_7_code
def yX4_goes : MethodName := ⟨RX4, "goes", "(III)I"⟩
abbrev cX4_voyage : ByteArray := prog_1_method_8_code
def yX4_voyage : MethodName := ⟨RX4, "voyage", "(II)I"⟩
abbrev cX4_claim : ByteArray := prog_1_method_9_code
def yX4_claim : MethodName := ⟨RX4, "claim", "(IIIIZI)I"⟩
abbrev cX4_ask : ByteArray := prog_1_method_10_code
def yX4_ask : MethodName := ⟨RX4, "ask", "(II)I"⟩
abbrev cX4_fund : ByteArray := prog_1_method_11_code
def yX4_fund : MethodName := ⟨RX4, "fund", "(II)I"⟩
abbrev cX4_owner : ByteArray := prog_1_method_12_code
def yX4_owner : MethodName := ⟨RX4, "owner", "(II)I"⟩
abbrev cX4_pass : ByteArray := prog_1_method_13_code
def yX4_pass : MethodName := ⟨RX4, "pass", "(II)I"⟩
abbrev cX4_told : ByteArray := prog_1_method_14_code
def yX4_told : MethodName := ⟨RX4, "told", "(II)I"⟩
abbrev cX4_count : ByteArray := prog_1_method_15_code
def yX4_count : MethodName := ⟨RX4, "count", "(I)I"⟩
abbrev cX4_lives : ByteArray := prog_1_method_16_code
def yX4_lives : MethodName := ⟨RX4, "lives", "(III)I"⟩
abbrev cX4_last : ByteArray := prog_1_method_17_code
def yX4_last : MethodName := ⟨RX4, "last", "(II)I"⟩
abbrev cX4_ahead : ByteArray := prog_1_method_18_code
def yX4_ahead : MethodName := ⟨RX4, "ahead", "(III)I"⟩
abbrev cX4_step : ByteArray := prog_1_method_19_code
def yX4_step : MethodName := ⟨RX4, "step", "(IIII)I"⟩
abbrev cX4_paid : ByteArray := prog_1_method_20_code
def yX4_paid : MethodName := ⟨RX4, "paid", "(IIII)I"⟩
abbrev cX4_left : ByteArray := prog_1_method_21_code
def yX4_left : MethodName := ⟨RX4, "left", "(IIII)I"⟩
abbrev cX4_has : ByteArray := prog_1_method_22_code
def yX4_has : MethodName := ⟨RX4, "has", "(IIII)I"⟩
abbrev cX4_order : ByteArray := prog_1_method_23_code
def yX4_order : MethodName := ⟨RX4, "order", "(IIII)I"⟩
abbrev cX4_back : ByteArray := prog_1_method_24_code
def yX4_back : MethodName := ⟨RX4, "back", "(IIIII)I"⟩
abbrev cX4_wake : ByteArray := prog_1_method_25_code
def yX4_wake : MethodName := ⟨RX4, "wake", "(IIIII)I"⟩
abbrev cX4_best : ByteArray := prog_1_method_26_code
def yX4_best : MethodName := ⟨RX4, "best", "(IIII)I"⟩
abbrev cX4_buy : ByteArray := prog_1_method_27_code
def yX4_buy : MethodName := ⟨RX4, "buy", "(IIIIII)I"⟩
abbrev cX4_clear : ByteArray := prog_1_method_28_code
def yX4_clear : MethodName := ⟨RX4, "clear", "(IIIII)I"⟩
abbrev cX4_more : ByteArray := prog_1_method_29_code
def yX4_more : MethodName := ⟨RX4, "more", "(IIIIIIIII)I"⟩
abbrev cX4_hang : ByteArray := prog_1_method_30_code
def yX4_hang : MethodName := ⟨RX4, "hang", "(IIIII)I"⟩
abbrev cX4_keep : ByteArray := prog_1_method_31_code
def yX4_keep : MethodName := ⟨RX4, "keep", "(I)I"⟩
abbrev cX4_goBack : ByteArray := prog_1_method_32_code
def yX4_goBack : MethodName := ⟨RX4, "goBack", "(I)I"⟩
abbrev cX4_holdingWithout : ByteArray := prog_1_method_33_code
def yX4_holdingWithout : MethodName := ⟨RX4, "holdingWithout", "(IIIII)I"⟩
abbrev cX4_canSailAgain : ByteArray := prog_1_method_34_code
def yX4_canSailAgain : MethodName := ⟨RX4, "canSailAgain", "(II)Z"⟩
abbrev cX4_supposeVoyage : ByteArray := prog_1_method_35_code
def yX4_supposeVoyage : MethodName := ⟨RX4, "supposeVoyage", "(IIIII)V"⟩
abbrev cX4_worthFor : ByteArray := prog_1_method_36_code
def yX4_worthFor : MethodName := ⟨RX4, "worthFor", "(II)I"⟩
abbrev cX4_wiseFor : ByteArray := prog_1_method_37_code
def yX4_wiseFor : MethodName := ⟨RX4, "wiseFor", "(I)I"⟩
abbrev cX4_hangsOn : ByteArray := prog_1_method_38_code
def yX4_hangsOn : MethodName := ⟨RX4, "hangsOn", "(IIIII)I"⟩
abbrev cX4_isLand : ByteArray := prog_1_method_39_code
def yX4_isLand : MethodName := ⟨RX4, "isLand", "(I)Z"⟩
abbrev cX4_isKind : ByteArray := prog_1_method_40_code
def yX4_isKind : MethodName := ⟨RX4, "isKind", "(I)Z"⟩
abbrev cX4_isHolder : ByteArray := prog_1_method_41_code
def yX4_isHolder : MethodName := ⟨RX4, "isHolder", "(I)Z"⟩
abbrev cX4_isFund : ByteArray := prog_1_method_42_code
def yX4_isFund : MethodName := ⟨RX4, "isFund", "(I)Z"⟩
abbrev cX4_isCargo : ByteArray := prog_1_method_43_code
def yX4_isCargo : MethodName := ⟨RX4, "isCargo", "(I)Z"⟩
abbrev cX4_isImage : ByteArray := prog_1_method_44_code
def yX4_isImage : MethodName := ⟨RX4, "isImage", "(I)Z"⟩
abbrev cX4_isDay : ByteArray := prog_1_method_45_code
def yX4_isDay : MethodName := ⟨RX4, "isDay", "(I)Z"⟩
abbrev cX4_isWay : ByteArray := prog_1_method_46_code
def yX4_isWay : MethodName := ⟨RX4, "isWay", "(I)Z"⟩
abbrev cX4_isClaim : ByteArray := prog_1_method_47_code
def yX4_isClaim : MethodName := ⟨RX4, "isClaim", "(I)Z"⟩
abbrev cX4_bit : ByteArray := prog_1_method_48_code
def yX4_bit : MethodName := ⟨RX4, "bit", "(II)I"⟩
abbrev cX4_sumOf : ByteArray := prog_1_method_49_code
def yX4_sumOf : MethodName := ⟨RX4, "sumOf", "([II)I"⟩
abbrev cX4_copyRow : ByteArray := prog_1_method_50_code
def yX4_copyRow : MethodName := ⟨RX4, "copyRow", "([I[I)V"⟩
def RX5 : String := "LastLentModel"
def TX5 : u_T := fun k => match k with
  | 0 => ("LastLentModel", "rides", "[I", true)
  | 1 => ("LastLentModel", "sides", "[I", true)
  | 2 => ("LastLentModel", "dies", "[I", true)
  | 3 => ("LastLentModel", "isLeave", "[Z", true)
  | 4 => ("LastLentModel", "steps", "[Z", true)
  | 5 => ("LastLentModel", "rules", "[I", true)
  | 6 => ("LastLentModel", "readRides", "[I", true)
  | 7 => ("LastLentModel", "readSides", "[I", true)
  | 8 => ("LastLentModel", "readDies", "[I", true)
  | 9 => ("LastLentModel", "readLeave", "[Z", true)
  | 10 => ("LastLentModel", "readSteps", "[Z", true)
  | 11 => ("LastLentModel", "readRules", "[I", true)
  | 12 => ("LastLentModel", "text", "[I", true)
  | 13 => ("LastLentModel", "texted", "I", false)
  | 14 => ("LastLentModel", "faultPlace", "I", false)
  | 15 => ("LastLentModel", "at0", "I", false)
  | 16 => ("LastLentModel", "word", "J", false)
  | 17 => ("LastLentModel", "wordEnd", "I", false)
  | 18 => ("LastLentModel", "number", "I", false)
  | 19 => ("LastLentModel", "kindRead", "I", false)
  | 20 => ("LastLentModel", "kindAt", "I", false)
  | 21 => ("LastLentModel", "onceTold", "I", false)
  | 22 => ("LastLentModel", "single", "[Z", true)
  | 23 => ("LastLentModel", "ranks", "[I", true)
  | 24 => ("LastLentModel", "voyages", "I", false)
  | 25 => ("LastLentModel", "begins", "[I", true)
  | 26 => ("LastLentModel", "endsOn", "[I", true)
  | 27 => ("LastLentModel", "claims", "I", false)
  | 28 => ("LastLentModel", "kinds", "[I", true)
  | 29 => ("LastLentModel", "holders", "[I", true)
  | 30 => ("LastLentModel", "days", "[I", true)
  | 31 => ("LastLentModel", "amounts", "[I", true)
  | 32 => ("LastLentModel", "hasLeave", "[Z", true)
  | 33 => ("LastLentModel", "cargoes", "[I", true)
  | 34 => ("LastLentModel", "asked", "[I", true)
  | 35 => ("LastLentModel", "isGone", "[Z", true)
  | 36 => ("LastLentModel", "sums", "[I", true)
  | 37 => ("LastLentModel", "owners", "[I", true)
  | 38 => ("LastLentModel", "paids", "[I", true)
  | 39 => ("LastLentModel", "lefts", "[I", true)
  | 40 => ("LastLentModel", "orders", "[I", true)
  | 41 => ("LastLentModel", "lents", "[I", true)
  | 42 => ("LastLentModel", "inStep", "[Z", true)
  | 43 => ("LastLentModel", "bestOrder", "[I", true)
  | 44 => ("LastLentModel", "hadNow", "[I", true)
  | 45 => ("LastLentModel", "paidNow", "[I", true)
  | 46 => ("LastLentModel", "images", "[I", true)
  | _ => ("LastLentModel", "isKept", "[Z", true)
def tyX5 : Nat → FieldType := fun k => match k with
  | 0 => .array .int
  | 1 => .array .int
  | 2 => .array .int
  | 3 => .array .boolean
  | 4 => .array .boolean
  | 5 => .array .int
  | 6 => .array .int
  | 7 => .array .int
  | 8 => .array .int
  | 9 => .array .boolean
  | 10 => .array .boolean
  | 11 => .array .int
  | 12 => .array .int
  | 13 => .int
  | 14 => .int
  | 15 => .int
  | 16 => .long
  | 17 => .int
  | 18 => .int
  | 19 => .int
  | 20 => .int
  | 21 => .int
  | 22 => .array .boolean
  | 23 => .array .int
  | 24 => .int
  | 25 => .array .int
  | 26 => .array .int
  | 27 => .int
  | 28 => .array .int
  | 29 => .array .int
  | 30 => .array .int
  | 31 => .array .int
  | 32 => .array .boolean
  | 33 => .array .int
  | 34 => .array .int
  | 35 => .array .boolean
  | 36 => .array .int
  | 37 => .array .int
  | 38 => .array .int
  | 39 => .array .int
  | 40 => .array .int
  | 41 => .array .int
  | 42 => .array .boolean
  | 43 => .array .int
  | 44 => .array .int
  | 45 => .array .int
  | 46 => .array .int
  | _ => .array .boolean
abbrev wsX50 : List Cond := u_ws RX5 TX5 48
theorem nmX5 : ∀ a, a < 48 → ∀ b, b < 48 → a ≠ b → (TX5 a).2.1 ≠ (TX5 b).2.1 := by decide +kernel
theorem tyX5_ok : ∀ k, k < 48 → parseFieldDescriptor (TX5 k).2.2.1 = some (tyX5 k) := by decide +kernel
abbrev cX5_init : ByteArray := prog_7_method_1_code
def yX5_init : MethodName := ⟨RX5, "<init>", "()V"⟩
abbrev cX5_in : ByteArray := prog_7_method_3_code
def yX5_in : MethodName := ⟨RX5, "in", "(JJJ)Z"⟩
abbrev cX5_isLand : ByteArray := prog_7_method_4_code
def yX5_isLand : MethodName := ⟨RX5, "isLand", "(I)Z"⟩
abbrev cX5_isKind : ByteArray := prog_7_method_5_code
def yX5_isKind : MethodName := ⟨RX5, "isKind", "(I)Z"⟩
abbrev cX5_isHolder : ByteArray := prog_7_method_6_code
def yX5_isHolder : MethodName := ⟨RX5, "isHolder", "(I)Z"⟩
abbrev cX5_isDay : ByteArray := prog_7_method_7_code
def yX5_isDay : MethodName := ⟨RX5, "isDay", "(I)Z"⟩
abbrev cX5_bare : ByteArray := prog_7_method_8_code
def yX5_bare : MethodName := ⟨RX5, "bare", "()V"⟩
abbrev cX5_keepLaw : ByteArray := prog_7_method_9_code
def yX5_keepLaw : MethodName := ⟨RX5, "keepLaw", "(I)V"⟩
abbrev cX5_feed : ByteArray := prog_7_method_10_code
def yX5_feed : MethodName := ⟨RX5, "feed", "(IJ)I"⟩
abbrev cX5_here : ByteArray := prog_7_method_11_code
def yX5_here : MethodName := ⟨RX5, "here", "()I"⟩
abbrev cX5_fails : ByteArray := prog_7_method_12_code
def yX5_fails : MethodName := ⟨RX5, "fails", "(II)I"⟩
abbrev cX5_readWord : ByteArray := prog_7_method_13_code
def yX5_readWord : MethodName := ⟨RX5, "readWord", "()V"⟩
abbrev cX5_code : ByteArray := prog_7_method_14_code
def yX5_code : MethodName := ⟨RX5, "code", "(IIII)J"⟩
abbrev cX5_longer : ByteArray := prog_7_method_15_code
def yX5_longer : MethodName := ⟨RX5, "longer", "(JI)J"⟩
abbrev cX5_kindOf : ByteArray := prog_7_method_16_code
def yX5_kindOf : MethodName := ⟨RX5, "kindOf", "()I"⟩
abbrev cX5_fundOf : ByteArray := prog_7_method_17_code
def yX5_fundOf : MethodName := ⟨RX5, "fundOf", "()I"⟩
abbrev cX5_withinOf : ByteArray := prog_7_method_18_code
def yX5_withinOf : MethodName := ⟨RX5, "withinOf", "()I"⟩
abbrev cX5_clauseOf : ByteArray := prog_7_method_19_code
def yX5_clauseOf : MethodName := ⟨RX5, "clauseOf", "()I"⟩
abbrev cX5_takeNumber : ByteArray := prog_7_method_20_code
def yX5_takeNumber : MethodName := ⟨RX5, "takeNumber", "(II)I"⟩
abbrev cX5_takeKind : ByteArray := prog_7_method_21_code
def yX5_takeKind : MethodName := ⟨RX5, "takeKind", "()I"⟩
abbrev cX5_takeRides : ByteArray := prog_7_method_22_code
def yX5_takeRides : MethodName := ⟨RX5, "takeRides", "()I"⟩
abbrev cX5_takeAhead : ByteArray := prog_7_method_23_code
def yX5_takeAhead : MethodName := ⟨RX5, "takeAhead", "(I)I"⟩
abbrev cX5_takeOfKind : ByteArray := prog_7_method_24_code
def yX5_takeOfKind : MethodName := ⟨RX5, "takeOfKind", "(I)I"⟩
abbrev cX5_takeOnce : ByteArray := prog_7_method_25_code
def yX5_takeOnce : MethodName := ⟨RX5, "takeOnce", "(II)I"⟩
abbrev cX5_takeClause : ByteArray := prog_7_method_26_code
def yX5_takeClause : MethodName := ⟨RX5, "takeClause", "()I"⟩
abbrev cX5_law : ByteArray := prog_7_method_27_code
def yX5_law : MethodName := ⟨RX5, "law", "(I)I"⟩
abbrev cX5_fault : ByteArray := prog_7_method_28_code
def yX5_fault : MethodName := ⟨RX5, "fault", "()I"⟩
abbrev cX5_areAlike : ByteArray := prog_7_method_29_code
def yX5_areAlike : MethodName := ⟨RX5, "areAlike", "(III)Z"⟩
abbrev cX5_findRanks : ByteArray := prog_7_method_30_code
def yX5_findRanks : MethodName := ⟨RX5, "findRanks", "(I)V"⟩
abbrev cX5_levelRanks : ByteArray := prog_7_method_31_code
def yX5_levelRanks : MethodName := ⟨RX5, "levelRanks", "(I)V"⟩
abbrev cX5_ring : ByteArray := prog_7_method_32_code
def yX5_ring : MethodName := ⟨RX5, "ring", "(I)I"⟩
abbrev cX5_kind : ByteArray := prog_7_method_33_code
def yX5_kind : MethodName := ⟨RX5, "kind", "(III)I"⟩
abbrev cX5_rule : ByteArray := prog_7_method_34_code
def yX5_rule : MethodName := ⟨RX5, "rule", "(II)I"⟩
abbrev cX5_goes : ByteArray := prog_7_method_35_code
def yX5_goes : MethodName := ⟨RX5, "goes", "(III)I"⟩
abbrev cX5_isClaim : ByteArray := prog_7_method_36_code
def yX5_isClaim : MethodName := ⟨RX5, "isClaim", "(I)Z"⟩
abbrev cX5_isFund : ByteArray := prog_7_method_37_code
def yX5_isFund : MethodName := ⟨RX5, "isFund", "(I)Z"⟩
abbrev cX5_voyage : ByteArray := prog_7_method_38_code
def yX5_voyage : MethodName := ⟨RX5, "voyage", "(II)I"⟩
abbrev cX5_putClaim : ByteArray := prog_7_method_39_code
def yX5_putClaim : MethodName := ⟨RX5, "putClaim", "(IIIIZI)V"⟩
abbrev cX5_claim : ByteArray := prog_7_method_40_code
def yX5_claim : MethodName := ⟨RX5, "claim", "(IIIIZI)I"⟩
abbrev cX5_ask : ByteArray := prog_7_method_41_code
def yX5_ask : MethodName := ⟨RX5, "ask", "(II)I"⟩
abbrev cX5_fund : ByteArray := prog_7_method_42_code
def yX5_fund : MethodName := ⟨RX5, "fund", "(II)I"⟩
abbrev cX5_isCargo : ByteArray := prog_7_method_43_code
def yX5_isCargo : MethodName := ⟨RX5, "isCargo", "(I)Z"⟩
abbrev cX5_owner : ByteArray := prog_7_method_44_code
def yX5_owner : MethodName := ⟨RX5, "owner", "(II)I"⟩
abbrev cX5_pass : ByteArray := prog_7_method_45_code
def yX5_pass : MethodName := ⟨RX5, "pass", "(II)I"⟩
abbrev cX5_voyageOf : ByteArray := prog_7_method_46_code
def yX5_voyageOf : MethodName := ⟨RX5, "voyageOf", "(I)I"⟩
abbrev cX5_told : ByteArray := prog_7_method_47_code
def yX5_told : MethodName := ⟨RX5, "told", "(II)I"⟩
abbrev cX5_count : ByteArray := prog_7_method_48_code
def yX5_count : MethodName := ⟨RX5, "count", "(I)I"⟩
abbrev cX5_why : ByteArray := prog_7_method_49_code
def yX5_why : MethodName := ⟨RX5, "why", "(III)I"⟩
abbrev cX5_lives : ByteArray := prog_7_method_50_code
def yX5_lives : MethodName := ⟨RX5, "lives", "(III)I"⟩
abbrev cX5_last : ByteArray := prog_7_method_51_code
def yX5_last : MethodName := ⟨RX5, "last", "(II)I"⟩
abbrev cX5_order2 : ByteArray := prog_7_method_52_code
def yX5_order2 : MethodName := ⟨RX5, "order2", "(III)I"⟩
abbrev cX5_ahead : ByteArray := prog_7_method_53_code
def yX5_ahead : MethodName := ⟨RX5, "ahead", "(III)I"⟩
abbrev cX5_isOn : ByteArray := prog_7_method_54_code
def yX5_isOn : MethodName := ⟨RX5, "isOn", "(III)Z"⟩
abbrev cX5_isThere : ByteArray := prog_7_method_55_code
def yX5_isThere : MethodName := ⟨RX5, "isThere", "(IIII)Z"⟩
abbrev cX5_step : ByteArray := prog_7_method_56_code
def yX5_step : MethodName := ⟨RX5, "step", "(IIII)I"⟩
abbrev cX5_wants : ByteArray := prog_7_method_57_code
def yX5_wants : MethodName := ⟨RX5, "wants", "(I)I"⟩
abbrev cX5_isWanting : ByteArray := prog_7_method_58_code
def yX5_isWanting : MethodName := ⟨RX5, "isWanting", "(IIII)Z"⟩
abbrev cX5_findStep : ByteArray := prog_7_method_59_code
def yX5_findStep : MethodName := ⟨RX5, "findStep", "(III)I"⟩
abbrev cX5_pay : ByteArray := prog_7_method_60_code
def yX5_pay : MethodName := ⟨RX5, "pay", "(IIII)V"⟩
abbrev cX5_payStep : ByteArray := prog_7_method_61_code
def yX5_payStep : MethodName := ⟨RX5, "payStep", "(III)V"⟩
abbrev cX5_payAll : ByteArray := prog_7_method_62_code
def yX5_payAll : MethodName := ⟨RX5, "payAll", "(II)I"⟩
abbrev cX5_payOut : ByteArray := prog_7_method_63_code
def yX5_payOut : MethodName := ⟨RX5, "payOut", "(III)V"⟩
abbrev cX5_isGood : ByteArray := prog_7_method_64_code
def yX5_isGood : MethodName := ⟨RX5, "isGood", "(II)Z"⟩
abbrev cX5_paid : ByteArray := prog_7_method_65_code
def yX5_paid : MethodName := ⟨RX5, "paid", "(IIII)I"⟩
abbrev cX5_left : ByteArray := prog_7_method_66_code
def yX5_left : MethodName := ⟨RX5, "left", "(IIII)I"⟩
abbrev cX5_having : ByteArray := prog_7_method_67_code
def yX5_having : MethodName := ⟨RX5, "having", "(I)I"⟩
abbrev cX5_has : ByteArray := prog_7_method_68_code
def yX5_has : MethodName := ⟨RX5, "has", "(IIII)I"⟩
abbrev cX5_order : ByteArray := prog_7_method_69_code
def yX5_order : MethodName := ⟨RX5, "order", "(IIII)I"⟩
abbrev cX5_back : ByteArray := prog_7_method_70_code
def yX5_back : MethodName := ⟨RX5, "back", "(IIIII)I"⟩
abbrev cX5_wake : ByteArray := prog_7_method_71_code
def yX5_wake : MethodName := ⟨RX5, "wake", "(IIIII)I"⟩
abbrev cX5_best : ByteArray := prog_7_method_72_code
def yX5_best : MethodName := ⟨RX5, "best", "(IIII)I"⟩
abbrev cX5_buy : ByteArray := prog_7_method_73_code
def yX5_buy : MethodName := ⟨RX5, "buy", "(IIIIII)I"⟩
abbrev cX5_clear : ByteArray := prog_7_method_74_code
def yX5_clear : MethodName := ⟨RX5, "clear", "(IIIII)I"⟩
abbrev cX5_more : ByteArray := prog_7_method_75_code
def yX5_more : MethodName := ⟨RX5, "more", "(IIIIIIIII)I"⟩
abbrev cX5_hanging : ByteArray := prog_7_method_76_code
def yX5_hanging : MethodName := ⟨RX5, "hanging", "(IIIII)I"⟩
abbrev cX5_hang : ByteArray := prog_7_method_77_code
def yX5_hang : MethodName := ⟨RX5, "hang", "(IIIII)I"⟩
abbrev cX5_beginImages : ByteArray := prog_7_method_78_code
def yX5_beginImages : MethodName := ⟨RX5, "beginImages", "()V"⟩
abbrev cX5_isImage : ByteArray := prog_7_method_79_code
def yX5_isImage : MethodName := ⟨RX5, "isImage", "(I)Z"⟩
abbrev cX5_keep : ByteArray := prog_7_method_80_code
def yX5_keep : MethodName := ⟨RX5, "keep", "(I)I"⟩
abbrev cX5_goBack : ByteArray := prog_7_method_81_code
def yX5_goBack : MethodName := ⟨RX5, "goBack", "(I)I"⟩
def RJ6 : String := "java/lang/Integer"
def TJ6 : u_T := fun k => match k with
  | _ => ("", "", "", false)
def tyJ6 : Nat → FieldType := fun k => match k with
  | _ => .int
abbrev wsJ60 : List Cond := u_ws RJ6 TJ6 0
theorem nmJ6 : ∀ a, a < 0 → ∀ b, b < 0 → a ≠ b → (TJ6 a).2.1 ≠ (TJ6 b).2.1 := by decide +kernel
theorem tyJ6_ok : ∀ k, k < 0 → parseFieldDescriptor (TJ6 k).2.2.1 = some (tyJ6 k) := by decide +kernel
abbrev cJ6_compare_7cf53 : ByteArray := prog_8_method_40_code
def yJ6_compare_7cf53 : MethodName := ⟨RJ6, "compare", "(II)I"⟩
def RJ9 : String := "java/lang/Math"
def TJ9 : u_T := fun k => match k with
  | _ => ("", "", "", false)
def tyJ9 : Nat → FieldType := fun k => match k with
  | _ => .int
abbrev wsJ90 : List Cond := u_ws RJ9 TJ9 0
theorem nmJ9 : ∀ a, a < 0 → ∀ b, b < 0 → a ≠ b → (TJ9 a).2.1 ≠ (TJ9 b).2.1 := by decide +kernel
theorem tyJ9_ok : ∀ k, k < 0 → parseFieldDescriptor (TJ9 k).2.2.1 = some (tyJ9 k) := by decide +kernel
abbrev cJ9_abs_0f7a4 : ByteArray := prog_9_method_59_code
def yJ9_abs_0f7a4 : MethodName := ⟨RJ9, "abs", "(I)I"⟩
abbrev cJ9_max_7cf53 : ByteArray := prog_9_method_65_code
def yJ9_max_7cf53 : MethodName := ⟨RJ9, "max", "(II)I"⟩
abbrev cJ9_min_7cf53 : ByteArray := prog_9_method_69_code
def yJ9_min_7cf53 : MethodName := ⟨RJ9, "min", "(II)I"⟩
def RJ0 : String := "java/lang/String"
def TJ0 : u_T := fun k => match k with
  | _ => ("", "", "", false)
def tyJ0 : Nat → FieldType := fun k => match k with
  | _ => .int
abbrev wsJ00 : List Cond := u_ws RJ0 TJ0 0
theorem nmJ0 : ∀ a, a < 0 → ∀ b, b < 0 → a ≠ b → (TJ0 a).2.1 ≠ (TJ0 b).2.1 := by decide +kernel
theorem tyJ0_ok : ∀ k, k < 0 → parseFieldDescriptor (TJ0 k).2.2.1 = some (tyJ0 k) := by decide +kernel
abbrev cJ0_length_8abf5 : ByteArray := prog_10_method_54_code
def yJ0_length_8abf5 : MethodName := ⟨RJ0, "length", "()I"⟩
abbrev cJ0_charAt_5068e : ByteArray := prog_10_method_56_code
def yJ0_charAt_5068e : MethodName := ⟨RJ0, "charAt", "(I)C"⟩
abbrev cJ0_coder_7d493 : ByteArray := prog_10_method_152_code
def yJ0_coder_7d493 : MethodName := ⟨RJ0, "coder", "()B"⟩
abbrev cJ0_isLatin1_aae02 : ByteArray := prog_10_method_154_code
def yJ0_isLatin1_aae02 : MethodName := ⟨RJ0, "isLatin1", "()Z"⟩
abbrev cJ0_checkIndex_df160 : ByteArray := prog_10_method_155_code
def yJ0_checkIndex_df160 : MethodName := ⟨RJ0, "checkIndex", "(II)V"⟩
def RJ1 : String := "java/lang/StringLatin1"
def TJ1 : u_T := fun k => match k with
  | _ => ("", "", "", false)
def tyJ1 : Nat → FieldType := fun k => match k with
  | _ => .int
abbrev wsJ10 : List Cond := u_ws RJ1 TJ1 0
theorem nmJ1 : ∀ a, a < 0 → ∀ b, b < 0 → a ≠ b → (TJ1 a).2.1 ≠ (TJ1 b).2.1 := by decide +kernel
theorem tyJ1_ok : ∀ k, k < 0 → parseFieldDescriptor (TJ1 k).2.2.1 = some (tyJ1 k) := by decide +kernel
abbrev cJ1_charAt_3b067 : ByteArray := prog_11_method_2_code
def yJ1_charAt_3b067 : MethodName := ⟨RJ1, "charAt", "([BI)C"⟩
def RJ2 : String := "java/lang/StringUTF16"
def TJ2 : u_T := fun k => match k with
  | _ => ("", "", "", false)
def tyJ2 : Nat → FieldType := fun k => match k with
  | _ => .int
abbrev wsJ20 : List Cond := u_ws RJ2 TJ2 0
theorem nmJ2 : ∀ a, a < 0 → ∀ b, b < 0 → a ≠ b → (TJ2 a).2.1 ≠ (TJ2 b).2.1 := by decide +kernel
theorem tyJ2_ok : ∀ k, k < 0 → parseFieldDescriptor (TJ2 k).2.2.1 = some (tyJ2 k) := by decide +kernel
abbrev cJ2_getChar_3b067 : ByteArray := prog_12_method_5_code
def yJ2_getChar_3b067 : MethodName := ⟨RJ2, "getChar", "([BI)C"⟩
abbrev cJ2_length_9d52b : ByteArray := prog_12_method_6_code
def yJ2_length_9d52b : MethodName := ⟨RJ2, "length", "([B)I"⟩
abbrev cJ2_charAt_3b067 : ByteArray := prog_12_method_83_code
def yJ2_charAt_3b067 : MethodName := ⟨RJ2, "charAt", "([BI)C"⟩
abbrev cJ2_checkIndex_2214a : ByteArray := prog_12_method_91_code
def yJ2_checkIndex_2214a : MethodName := ⟨RJ2, "checkIndex", "(I[B)V"⟩
def RJ10 : String := "java/lang/System"
def TJ10 : u_T := fun k => match k with
  | _ => ("", "", "", false)
def tyJ10 : Nat → FieldType := fun k => match k with
  | _ => .int
abbrev wsJ100 : List Cond := u_ws RJ10 TJ10 0
theorem nmJ10 : ∀ a, a < 0 → ∀ b, b < 0 → a ≠ b → (TJ10 a).2.1 ≠ (TJ10 b).2.1 := by decide +kernel
theorem tyJ10_ok : ∀ k, k < 0 → parseFieldDescriptor (TJ10 k).2.2.1 = some (tyJ10 k) := by decide +kernel
def RJ3 : String := "jdk/internal/util/Preconditions"
def TJ3 : u_T := fun k => match k with
  | _ => ("", "", "", false)
def tyJ3 : Nat → FieldType := fun k => match k with
  | _ => .int
abbrev wsJ30 : List Cond := u_ws RJ3 TJ3 0
theorem nmJ3 : ∀ a, a < 0 → ∀ b, b < 0 → a ≠ b → (TJ3 a).2.1 ≠ (TJ3 b).2.1 := by decide +kernel
theorem tyJ3_ok : ∀ k, k < 0 → parseFieldDescriptor (TJ3 k).2.2.1 = some (tyJ3 k) := by decide +kernel
abbrev cJ3_checkIndex_8e157 : ByteArray := prog_14_method_11_code
def yJ3_checkIndex_8e157 : MethodName := ⟨RJ3, "checkIndex", "(IILjava/util/function/BiFunction;)I"⟩
def RL : String := "LastLentLaw"
abbrev cL_law : ByteArray := code
def yL_law : MethodName := ⟨RL, "law", "([I)Z"⟩
end
section
/-! THE FRAMEWORK: a method's run over a fixed world of numbered cells. z_M: the memory (ints, longs, references by cell and slot); z_H: a cell's shape; z_J: from this pc, with these locals, this stack and this memory the machine comes to the method's end; z_C: a method's contract. -/
abbrev z_M : Type := (Nat → Nat → Int32) × (Nat → Nat → Int64) × (Nat → Nat → Option Nat)
/-- an array: number of its type (0 int, 1 boolean, 2 .. references), length; an object: number of its class, kinds of its fields (0 int, 1 long, 2 reference) -/
abbrev z_H : Type := (Nat × Nat) ⊕ (Nat × List Nat)
def z_v (ad : Nat → Nat) (v : Value) : Value := match v with
  | .ref i => .ref (ad i)
  | w => w
def z_f (ad : Nat → Nat) (μ : z_M) (i k q : Nat) : Value := match q with
  | 0 => .int (μ.1 i k)
  | 1 => .long (μ.2.1 i k)
  | _ => va_rf ((μ.2.2 i k).map ad)
def z_e (ad : Nat → Nat) (dA : Nat → ClassId) (μ : z_M) (i : Nat) (h : z_H) : va_E := match h with
  | .inl (t, n) => .inl (dA t, n, if t < 2 then .inl (μ.1 i) else .inr (.inr (.inr (.inr (fun k => (μ.2.2 i k).map ad)))))
  | .inr (ci, ks) => .inr (ci, ks.mapIdx (fun k q => z_f ad μ i k q))
def z_w (ad : Nat → Nat) (dA : Nat → ClassId) (sh : List z_H) (μ : z_M) : va_W := sh.mapIdx (fun i h => (ad i, z_e ad dA μ i h))
theorem z_w_get {ad : Nat → Nat} {dA : Nat → ClassId} {sh : List z_H} {μ : z_M} {i : Nat} {h : z_H} (hi : sh[i]? = some h) : (z_w ad dA sh μ)[i]? = some (ad i, z_e ad dA μ i h) := by
  simp [z_w, List.getElem?_mapIdx, hi]
theorem z_w_set {ad : Nat → Nat} {dA : Nat → ClassId} {sh : List z_H} {μ μ' : z_M} {i : Nat} {h : z_H} (hi : sh[i]? = some h) (ho : ∀ j : Nat, j ≠ i → ∀ g : z_H, z_e ad dA μ' j g = z_e ad dA μ j g) : (z_w ad dA sh μ).set i (ad i, z_e ad dA μ' i h) = z_w ad dA sh μ' := by
  apply List.ext_getElem?
  intro j
  by_cases hj : j = i
  · subst hj
    rw [z_w_get hi, List.getElem?_set_self]
    have := (List.getElem?_eq_some_iff.mp hi).1
    simpa [z_w] using this
  · rw [List.getElem?_set_ne (Ne.symm hj)]
    simp only [z_w, List.getElem?_mapIdx]
    cases sh[j]? with
    | none => rfl
    | some g => simp only [Option.map_some, ho j hj g]
/-- the world's addresses, whatever it holds -/
theorem z_D_any {A : Nat → Prop} {ad : Nat → Nat} {dA : Nat → ClassId} {sh : List z_H} {μ : z_M} (μ' : z_M) (h : va_D A (z_w ad dA sh μ)) : va_D A (z_w ad dA sh μ') := by
  have key : ∀ (k : Nat) (q : Nat × va_E), (z_w ad dA sh μ')[k]? = some q → ∃ q0, (z_w ad dA sh μ)[k]? = some q0 ∧ q0.1 = q.1 := by
    intro k q hk
    simp only [z_w, List.getElem?_mapIdx] at hk ⊢
    cases hs : sh[k]? with
    | none => rw [hs] at hk; cases hk
    | some g => rw [hs] at hk; cases hk; exact ⟨_, rfl, rfl⟩
  refine ⟨fun i j x y hi hj hxy => ?_, fun k q hk => ?_⟩
  · obtain ⟨x0, h1, h2⟩ := key i x hi
    obtain ⟨y0, h3, h4⟩ := key j y hj
    exact h.1 i j x0 y0 h1 h3 (h2.trans (hxy.trans h4.symm))
  · obtain ⟨q0, h1, h2⟩ := key k q hk
    rw [← h2]
    exact h.2 k q0 h1
theorem z_A_any {ad : Nat → Nat} {dA : Nat → ClassId} {sh : List z_H} {μ μ' : z_M} {sz q : Nat} (h : va_A (z_w ad dA sh μ) sz q) : va_A (z_w ad dA sh μ') sz q := by
  rcases h with ⟨k, e, hk⟩ | h
  · refine Or.inl ⟨k, ?_⟩
    simp only [z_w, List.getElem?_mapIdx] at hk ⊢
    cases hs : sh[k]? with
    | none => rw [hs] at hk; cases hk
    | some g => rw [hs] at hk; cases hk; exact ⟨_, rfl⟩
  · exact Or.inr h
/-- one int, one long, one reference is set -/
def z_si (μ : z_M) (i k : Nat) (x : Int32) : z_M := (fun a => if a = i then upd (μ.1 i) k x else μ.1 a, μ.2)
def z_sl (μ : z_M) (i k : Nat) (x : Int64) : z_M := (μ.1, fun a => if a = i then vp_updL (μ.2.1 i) k x else μ.2.1 a, μ.2.2)
def z_sr (μ : z_M) (i k : Nat) (x : Option Nat) : z_M := (μ.1, μ.2.1, fun a => if a = i then va_up (μ.2.2 i) k x else μ.2.2 a)
/-- a whole row of ints is set -/
def z_sw (μ : z_M) (i : Nat) (f : Nat → Int32) : z_M := (fun a => if a = i then f else μ.1 a, μ.2)
theorem z_e_si {ad : Nat → Nat} {dA : Nat → ClassId} {μ : z_M} {i k : Nat} {x : Int32} : ∀ j : Nat, j ≠ i → ∀ g : z_H, z_e ad dA (z_si μ i k x) j g = z_e ad dA μ j g := by
  intro j hj g
  have e : (z_si μ i k x).1 j = μ.1 j := if_neg hj
  rcases g with ⟨t, n⟩ | ⟨ci, ks⟩
  · simp only [z_e, e]; rfl
  · have e2 : z_f ad (z_si μ i k x) j = z_f ad μ j := by
      funext k q
      match q with
      | 0 => simp only [z_f, e]
      | 1 => rfl
      | (n + 2) => rfl
    simp only [z_e, e2]
theorem z_e_sw {ad : Nat → Nat} {dA : Nat → ClassId} {μ : z_M} {i : Nat} {f : Nat → Int32} : ∀ j : Nat, j ≠ i → ∀ g : z_H, z_e ad dA (z_sw μ i f) j g = z_e ad dA μ j g := by
  intro j hj g
  have e : (z_sw μ i f).1 j = μ.1 j := if_neg hj
  rcases g with ⟨t, n⟩ | ⟨ci, ks⟩
  · simp only [z_e, e]; rfl
  · have e2 : z_f ad (z_sw μ i f) j = z_f ad μ j := by
      funext k q
      match q with
      | 0 => simp only [z_f, e]
      | 1 => rfl
      | (n + 2) => rfl
    simp only [z_e, e2]
theorem z_e_sl {ad : Nat → Nat} {dA : Nat → ClassId} {μ : z_M} {i k : Nat} {x : Int64} : ∀ j : Nat, j ≠ i → ∀ g : z_H, z_e ad dA (z_sl μ i k x) j g = z_e ad dA μ j g := by
  intro j hj g
  have e : (z_sl μ i k x).2.1 j = μ.2.1 j := if_neg hj
  rcases g with ⟨t, n⟩ | ⟨ci, ks⟩
  · rfl
  · have e2 : z_f ad (z_sl μ i k x) j = z_f ad μ j := by
      funext k q
      match q with
      | 0 => rfl
      | 1 => simp only [z_f, e]
      | (n + 2) => rfl
    simp only [z_e, e2]
theorem z_e_sr {ad : Nat → Nat} {dA : Nat → ClassId} {μ : z_M} {i k : Nat} {x : Option Nat} : ∀ j : Nat, j ≠ i → ∀ g : z_H, z_e ad dA (z_sr μ i k x) j g = z_e ad dA μ j g := by
  intro j hj g
  have e : (z_sr μ i k x).2.2 j = μ.2.2 j := if_neg hj
  rcases g with ⟨t, n⟩ | ⟨ci, ks⟩
  · simp only [z_e, e]; rfl
  · have e2 : z_f ad (z_sr μ i k x) j = z_f ad μ j := by
      funext k q
      match q with
      | 0 => rfl
      | 1 => rfl
      | (n + 2) => simp only [z_f, e]
    simp only [z_e, e2]
theorem z_fs_set {ad : Nat → Nat} {μ μ' : z_M} {i k q : Nat} {ks : List Nat} (hk : ks[k]? = some q) (ho : ∀ j, j ≠ k → ∀ r, z_f ad μ' i j r = z_f ad μ i j r) : (ks.mapIdx (fun k q => z_f ad μ i k q)).set k (z_f ad μ' i k q) = ks.mapIdx (fun k q => z_f ad μ' i k q) := by
  apply List.ext_getElem?
  intro j
  by_cases hj : j = k
  · subst hj
    rw [List.getElem?_set_self (by have := (List.getElem?_eq_some_iff.mp hk).1; simpa using this)]
    simp [List.getElem?_mapIdx, hk]
  · rw [List.getElem?_set_ne (Ne.symm hj)]
    simp only [List.getElem?_mapIdx]
    cases ks[j]? with
    | none => rfl
    | some r => simp only [Option.map_some, ho j hj r]
theorem z_f_si {ad : Nat → Nat} {μ : z_M} {i k : Nat} {x : Int32} : ∀ j, j ≠ k → ∀ r, z_f ad (z_si μ i k x) i j r = z_f ad μ i j r := by
  intro j hj r
  match r with
  | 0 => simp [z_f, z_si, upd, hj]
  | 1 => rfl
  | (n + 2) => rfl
theorem z_f_sl {ad : Nat → Nat} {μ : z_M} {i k : Nat} {x : Int64} : ∀ j, j ≠ k → ∀ r, z_f ad (z_sl μ i k x) i j r = z_f ad μ i j r := by
  intro j hj r
  match r with
  | 0 => rfl
  | 1 => simp [z_f, z_sl, vp_updL, hj]
  | (n + 2) => rfl
theorem z_f_sr {ad : Nat → Nat} {μ : z_M} {i k : Nat} {x : Option Nat} : ∀ j, j ≠ k → ∀ r, z_f ad (z_sr μ i k x) i j r = z_f ad μ i j r := by
  intro j hj r
  match r with
  | 0 => rfl
  | 1 => rfl
  | (n + 2) => simp [z_f, z_sr, va_up, hj]
/-! locals: by place; what is unset or not known is none -/
abbrev z_L : Type := List (Option Value)
def z_hl (ls : Array Slot) (nL : Nat) (ad : Nat → Nat) (L : z_L) : Prop := ls.size = nL ∧ lv_wf ls ∧ ∀ (i : Nat) (v : Value), L[i]? = some (some v) → ls[i]? = some (.val (z_v ad v))
def z_lv (ad : Nat → Nat) (L : z_L) : List (Nat × Value) := (List.range L.length).filterMap (fun i => match L[i]? with
  | some (some v) => some (i, z_v ad v)
  | _ => none)
theorem z_lv_mem {ad : Nat → Nat} {L : z_L} {i : Nat} {v : Value} (h : L[i]? = some (some v)) : (i, z_v ad v) ∈ z_lv ad L := by
  refine List.mem_filterMap.mpr ⟨i, List.mem_range.mpr (List.getElem?_eq_some_iff.mp h).1, ?_⟩
  simp [h]
theorem z_lv_of {ad : Nat → Nat} {L : z_L} {q : Nat × Value} (h : q ∈ z_lv ad L) : ∃ v, L[q.1]? = some (some v) ∧ q.2 = z_v ad v := by
  obtain ⟨i, -, hi⟩ := List.mem_filterMap.mp h
  split at hi
  · next v hv => cases hi; exact ⟨v, hv, rfl⟩
  · cases hi
theorem z_hl.has {ls : Array Slot} {nL : Nat} {ad : Nat → Nat} {L : z_L} (h : z_hl ls nL ad L) : lv_has ls nL (z_lv ad L) := by
  refine ⟨h.1, h.2.1, fun q hq => ?_⟩
  obtain ⟨v, h1, h2⟩ := z_lv_of hq
  rw [h2]
  exact h.2.2 _ _ h1
theorem z_hl.at {ls : Array Slot} {nL : Nat} {ad : Nat → Nat} {L : z_L} (h : z_hl ls nL ad L) {i : Nat} {v : Value} (hv : L[i]? = some (some v)) : ls[i]? = some (.val (z_v ad v)) := h.2.2 i v hv
/-- no long stands one place ahead of i -/
def z_nl (L : z_L) (i : Nat) : Bool := match i with
  | 0 => true
  | j + 1 => match L[j]? with
    | some (some (.long _)) => false
    | some (some (.double _)) => false
    | _ => true
theorem z_cat {v : Value} (h : v.category = 2) : (∃ x, v = .long x) ∨ ∃ x, v = .double x := by
  cases v <;> simp [Value.category] at h ⊢
theorem z_v_cat {ad : Nat → Nat} {v : Value} : (z_v ad v).category = v.category := by
  cases v <;> rfl
theorem z_store1 {ls : Array Slot} {nL : Nat} {ad : Nat → Nat} {L : z_L} {i : Nat} {v : Value} (hz : z_nl L i = true) (h : lv_has ls nL ((i, z_v ad v) :: (z_lv ad L).filter (fun q => !(q.1 == i) && !(q.1 + 1 == i && q.2.category == 2)))) : z_hl ls nL ad (L.set i (some v)) := by
  refine ⟨h.1, h.2.1, fun j w hw => ?_⟩
  by_cases hj : j = i
  · subst hj
    rw [List.getElem?_set_self (by have := (List.getElem?_eq_some_iff.mp hw).1; simpa using this)] at hw
    cases hw
    exact h.2.2 (j, z_v ad v) List.mem_cons_self
  · rw [List.getElem?_set_ne (Ne.symm hj)] at hw
    refine h.2.2 (j, z_v ad w) (List.mem_cons_of_mem _ (List.mem_filter.mpr ⟨z_lv_mem hw, ?_⟩))
    have h1 : (j == i) = false := by simp [hj]
    simp only [h1, Bool.not_false, Bool.true_and, Bool.not_eq_true']
    rw [Bool.and_eq_false_iff]
    by_cases hji : j + 1 = i
    · right
      subst hji
      rw [beq_eq_false_iff_ne, z_v_cat]
      intro hc
      rcases z_cat hc with ⟨x, rfl⟩ | ⟨x, rfl⟩ <;> simp [z_nl, hw] at hz
    · left
      simp [hji]
theorem z_store2 {ls : Array Slot} {nL : Nat} {ad : Nat → Nat} {L : z_L} {i : Nat} {v : Value} (hz : z_nl L i = true) (h : lv_has ls nL ((i, z_v ad v) :: (z_lv ad L).filter (fun q => !(q.1 == i) && (!(q.1 == i + 1) && !(q.1 + 1 == i && q.2.category == 2))))) : z_hl ls nL ad ((L.set i (some v)).set (i + 1) none) := by
  refine ⟨h.1, h.2.1, fun j w hw => ?_⟩
  by_cases hj1 : j = i + 1
  · subst hj1
    have hlt := (List.getElem?_eq_some_iff.mp hw).1
    rw [List.getElem?_set_self (by simpa using hlt)] at hw
    cases hw
  rw [List.getElem?_set_ne (Ne.symm hj1)] at hw
  by_cases hj : j = i
  · subst hj
    rw [List.getElem?_set_self (by have := (List.getElem?_eq_some_iff.mp hw).1; simpa using this)] at hw
    cases hw
    exact h.2.2 (j, z_v ad v) List.mem_cons_self
  · rw [List.getElem?_set_ne (Ne.symm hj)] at hw
    refine h.2.2 (j, z_v ad w) (List.mem_cons_of_mem _ (List.mem_filter.mpr ⟨z_lv_mem hw, ?_⟩))
    have h1 : (j == i) = false := by simp [hj]
    have h2 : (j == i + 1) = false := by simp [hj1]
    simp only [h1, h2, Bool.not_false, Bool.true_and, Bool.not_eq_true']
    rw [Bool.and_eq_false_iff]
    by_cases hji : j + 1 = i
    · right
      subst hji
      rw [beq_eq_false_iff_ne, z_v_cat]
      intro hc
      rcases z_cat hc with ⟨x, rfl⟩ | ⟨x, rfl⟩ <;> simp [z_nl, hw] at hz
    · left
      simp [hji]
/-- fewer locals are known: those with true stay -/
def z_mk (b : List Bool) (L : z_L) : z_L := List.zipWith (fun x v => if x then v else none) b L
theorem z_hl.mk {ls : Array Slot} {nL : Nat} {ad : Nat → Nat} {L : z_L} (h : z_hl ls nL ad L) (b : List Bool) : z_hl ls nL ad (z_mk b L) := by
  refine ⟨h.1, h.2.1, fun i v hv => ?_⟩
  unfold z_mk at hv
  rw [List.getElem?_zipWith] at hv
  cases hb : b[i]? with
  | none => rw [hb] at hv; cases hv
  | some x =>
    cases hL : L[i]? with
    | none => rw [hb, hL] at hv; cases hv
    | some w =>
      rw [hb, hL] at hv
      cases x with
      | false => cases hv
      | true => 
        have e : w = some v := by simpa using hv
        exact h.2.2 i v (by rw [hL, e])
/-- the locals at a method's entry -/
def z_en (nL : Nat) : List Value → z_L
  | [] => List.replicate nL none
  | v :: vs => if v.category = 2 then some v :: none :: z_en (nL - 2) vs else some v :: z_en (nL - 1) vs
theorem z_en_get {ad : Nat → Nat} : ∀ (vs : List Value) (nL b i : Nat) (v : Value), (z_en nL vs)[i]? = some (some v) → (b + i, z_v ad v) ∈ lv_args b (vs.map (z_v ad))
  | [], nL, b, i, v, h => by
    simp only [z_en] at h
    rw [List.getElem?_replicate] at h
    split at h <;> simp at h
  | w :: vs, nL, b, i, v, h => by
    simp only [z_en] at h
    simp only [List.map_cons, lv_args]
    by_cases hc : w.category = 2
    · rw [if_pos hc] at h
      rw [if_pos (by rw [z_v_cat]; exact hc)]
      match i, h with
      | 0, h => simp at h; subst h; exact List.mem_cons_self
      | 1, h => simp at h
      | i + 2, h =>
        have h1 := z_en_get (ad := ad) vs (nL - 2) (b + 2) i v (by simpa using h)
        rw [show b + 2 + i = b + (i + 2) by omega] at h1
        exact List.mem_cons_of_mem _ h1
    · rw [if_neg hc] at h
      rw [if_neg (by rw [z_v_cat]; exact hc)]
      match i, h with
      | 0, h => simp at h; subst h; exact List.mem_cons_self
      | i + 1, h =>
        have h1 := z_en_get (ad := ad) vs (nL - 1) (b + 1) i v (by simpa using h)
        rw [show b + 1 + i = b + (i + 1) by omega] at h1
        exact List.mem_cons_of_mem _ h1
end
section
/-! THE ENVIRONMENT of a method's run, the judgement z_J, the contract z_C -/
def z_T : List Cond := lw_tbl.filter goodWord
theorem z_T_in {w : Cond} (i : Nat) (h : lw_tbl[i]? = some w) (hg : goodWord w = true) : w ∈ z_T := List.mem_filter.mpr ⟨List.mem_of_getElem? h, hg⟩
theorem z_T_good : GoodIn z_T z_T := fun w h => ⟨h, good_of_word (List.mem_filter.mp h).2⟩
theorem z_T_tl {x y : Cond} (hy : y ∈ z_T) : GoodIn (x :: z_T) (y :: z_T) := by
  intro w h
  rcases List.mem_cons.mp h with rfl | h
  · exact ⟨List.mem_cons_of_mem _ hy, (z_T_good _ hy).2⟩
  · exact ⟨List.mem_cons_of_mem _ h, (z_T_good _ h).2⟩
def z_cl : List vw_C := [(RX0, TX0, 13), (RX1, TX1, 9), (RX2, TX2, 16), (RX3, TX3, 13), (RX4, TX4, 10), (RX5, TX5, 48)]
def z_tys (dA : Nat → ClassId) : List (ClassId × FieldType) := [(dA 0, .int), (dA 1, .boolean), (dA 2, .object "LastLent$Law"), (dA 3, .object "LastLent$Ship"), (dA 4, .array .int)]
def z_rm (d : Nat) : Room := { frames := d, cells := 0, slots := 0, locals := 36 * d }
/-- calls of nest mates -/
def z_NW : List (String × Nat × MethodName) := [("LastLent", 17, yX1_init), ("LastLent", 24, yX3_init), ("LastLent", 42, yX2_init), ("LastLent$LawText", 69, yX4_bit), ("LastLent$Law", 59, yX4_bit), ("LastLent$Ship", 93, yX4_bit), ("LastLent$PayOut", 114, yX4_bit), ("LastLent$PayOut", 63, yX4_copyRow), ("LastLent$Ship", 52, yX4_copyRow)]
/-- the texts of LawText: index in its pool, text -/
def z_SR : List (Nat × String) := [(56, "rides   ahead   first   behind  later   within  dies    leave   sale    costs   "), (157, "wage    rope    pilot   saved   need    pledge  harm    dues    "), (123, "ship    freight cargo   "), (134, "parts   later   sooner  ")]
def z_byt : List (List Int32) := z_SR.map (fun q => q.2.toList.map (fun c => Int32.ofNat c.toNat))
def z_len : List Nat := [80, 64, 24, 24]
/-- what is never written: links of nest mates, texts, statics of the JDK -/
def z_X (ad : Nat → Nat) (A : Nat → Prop) (U : State) (H : Heap) : Prop :=
  (∀ q ∈ z_NW, va_Nw (.methodLinkNest q.1 q.2.1 q.2.2 "LastLent") U) ∧
  (∀ i : Nat, ∀ q : Nat × String, z_SR[i]? = some q → vk_R "LastLent$LawText" q.1 q.2 (ad (1000 + i)) U) ∧
  vk_S 4 z_len z_byt (fun i => ad (1000 + i)) (fun i => ad (1010 + i)) A U H ∧
  va_Z "java/lang/String" "COMPACT_STRINGS" "Z" (.int 1) A U H ∧
  va_Z "jdk/internal/util/Preconditions" "SIOOBE_FORMATTER" "Ljava/util/function/BiFunction;" (.ref (ad 1020)) A U H
theorem z_X.to {ad : Nat → Nat} {A B : Nat → Prop} {s U : State} {H0 H : Heap} (h : z_X ad A s H0) (hW : s.WarmedH U.vm) (hq : ∀ a : Nat, a < H0.size → ¬ A a → H[a]? = H0[a]?) (hB : ∀ q, B q → A q) : z_X ad B U H := by
  obtain ⟨h1, h2, h3, h4, h5⟩ := h
  exact ⟨fun q hq => va_Nw.warmM hW (h1 q hq), fun i q hi => (h2 i q hi).warm hW, ((h3.kept hq).moved hW.alike).narrow hB, ((h4.kept hq).moved hW.alike).narrow hB, ((h5.kept hq).moved hW.alike).narrow hB⟩
theorem z_X.same {ad : Nat → Nat} {A : Nat → Prop} {s U : State} {H : Heap} (h : z_X ad A s H) (hv : U.vm = s.vm) : z_X ad A U H := by
  obtain ⟨h1, h2, h3, h4, h5⟩ := h
  have ha : s.vm.Alike U.vm := by rw [hv]; exact Vm.Alike.refl s.vm
  exact ⟨fun q hq => (h1 q hq).same rfl hv.symm, fun i q hi => (h2 i q hi).same hv, h3.moved ha, h4.moved ha, h5.moved ha⟩
/-- launch, class numbers and slots, addresses, array classes, shapes -/
abbrev z_Gl : Type := Launch × va_G × (Nat → Nat) × (Nat → ClassId) × List z_H
abbrev z_sh (G : z_Gl) : List z_H := G.2.2.2.2
/-- a run of one method: the globals; machine, room, start, method, its end, the cells that may change, made cells and slots -/
abbrev z_E : Type := z_Gl × Program × Env × Room × State × MethodId × Array Value × List Frame × Method × Code × (State → Prop) × (Nat → Prop) × Nat × Nat
def z_J (E : z_E) (nL pc : Nat) (L : z_L) (st : List Value) (μ : z_M) : Prop := match E with
  | ((l, D, ad, dA, sh), p, e, R, s, m, args, below, meth, c, Q, A, kc, ks) =>
    ∀ (H : Heap) (locs : List Loc) (ls : Array Slot), va_P D z_cl (z_w ad dA sh μ) H → va_S A s.heap H locs → z_hl ls nL ad L → W p l e R s m args below meth c H locs kc ks Q (F0 m pc ls (st.map (z_v ad)))
/-- what holds all along the run: d levels of calls are free -/
def z_F (E : z_E) (own : String) (cc : ByteArray) (nL d : Nat) : Prop := match E with
  | ((l, D, ad, dA, sh), p, e, R, s, m, args, below, meth, c, Q, A, kc, ks) =>
    p.tables.exec = Jvm.exec ∧ c.code = cc ∧ c.maxLocals = nL ∧ s.vm.findClass own = some m.cls ∧ (∀ w ∈ z_T, w.before args s = true) ∧ va_K D z_cl (z_tys dA) s ∧ (∀ μ, va_D A (z_w ad dA sh μ)) ∧ (∀ q, s.heap.size ≤ q → A q) ∧ z_X ad A s s.heap ∧ d ≤ R.frames ∧ 36 * d ≤ R.locals ∧ kc ≤ R.cells ∧ ks ≤ R.slots
def z_Qc (G : z_Gl) (A : Nat → Prop) (P : Option Value → z_M → Prop) : Array Value → State → Outcome → State → Prop := match G with
  | (_, D, ad, dA, sh) => fun _ st oc t => (∃ (v : Option Value) (μ : z_M), oc = .returned (v.map (z_v ad)) ∧ P v μ ∧ va_P D z_cl (z_w ad dA sh μ) t.heap) ∧ va_F A st t
/-- the run's end: the method's type, and what its end must give -/
def z_R (E : z_E) (ret : Option FieldType) (P : Option Value → z_M → Prop) : Prop := match E with
  | (G, p, e, R, s, m, args, below, meth, c, Q, A, kc, ks) => meth.locks = false ∧ meth.sig.returnType = ret ∧ Q = MQ below (z_Qc G A P) args s kc ks A
def z_pre (G : z_Gl) (μ : z_M) (sz : Nat) (U : State) : Prop := match G with
  | (_, D, ad, dA, sh) => U.heap.size = sz ∧ va_P D z_cl (z_w ad dA sh μ) U.heap ∧ va_K D z_cl (z_tys dA) U ∧ va_D (fun _ => True) (z_w ad dA sh μ) ∧ z_X ad (va_A (z_w ad dA sh μ) sz) U U.heap
/-- the contract: called with av in memory μ, with d levels of calls free, it comes back with P -/
def z_C0 (G : z_Gl) (y : MethodName) (cc : ByteArray) (nL : Nat) (ret : Option FieldType) (d : Nat) (av : List Value) (μ : z_M) (P : Option Value → z_M → Prop) : Prop := match G with
  | (l, D, ad, dA, sh) => ∀ sz : Nat, Met l y (.code y cc nL ret :: z_T) (z_rm d) (va_Pc (av.map (z_v ad)) (z_pre (l, D, ad, dA, sh) μ sz)) (z_Qc (l, D, ad, dA, sh) (va_A (z_w ad dA sh μ) sz) P) 0 0 (va_A (z_w ad dA sh μ) sz)
/-- an answer that is an int; references stay -/
def z_Ci (G : z_Gl) (y : MethodName) (cc : ByteArray) (nL : Nat) (ret : Option FieldType) (d : Nat) (av : List Value) (μ : z_M) (P : Int32 → z_M → Prop) : Prop := z_C0 G y cc nL ret d av μ (fun v μ' => μ'.2.2 = μ.2.2 ∧ ∃ r, v = some (.int r) ∧ P r μ')
def z_Cl (G : z_Gl) (y : MethodName) (cc : ByteArray) (nL : Nat) (ret : Option FieldType) (d : Nat) (av : List Value) (μ : z_M) (P : Int64 → z_M → Prop) : Prop := z_C0 G y cc nL ret d av μ (fun v μ' => μ'.2.2 = μ.2.2 ∧ ∃ r, v = some (.long r) ∧ P r μ')
def z_Cv (G : z_Gl) (y : MethodName) (cc : ByteArray) (nL : Nat) (ret : Option FieldType) (d : Nat) (av : List Value) (μ : z_M) (P : z_M → Prop) : Prop := z_C0 G y cc nL ret d av μ (fun v μ' => μ'.2.2 = μ.2.2 ∧ v = none ∧ P μ')
theorem z_entry {nL : Nat} {ad : Nat → Nat} (av : List Value) (h : (lg_sl (av.map (z_v ad))).length ≤ nL) : z_hl ((lg_sl (av.map (z_v ad)) ++ List.replicate (nL - (lg_sl (av.map (z_v ad))).length) Slot.unset).toArray) nL ad (z_en nL av) := by
  obtain ⟨h1, h2, h3⟩ := lv_entry (av.map (z_v ad)) h
  refine ⟨h1, h2, fun i v hv => ?_⟩
  have := z_en_get (ad := ad) av nL 0 i v hv
  rw [Nat.zero_add] at this
  exact h3 _ this
def z_sl2 (av : List Value) : Nat := (av.map (fun v => v.category)).sum
theorem z_lgsl {ad : Nat → Nat} : ∀ av : List Value, (lg_sl (av.map (z_v ad))).length = z_sl2 av
  | [] => rfl
  | v :: av => by
    have ih := z_lgsl (ad := ad) av
    simp only [lg_sl, List.map_cons, List.flatMap_cons, List.length_append, z_sl2, List.sum_cons] at ih ⊢
    rw [ih, z_v_cat]
    rcases lv_cat v with h | h <;> simp [h]
/-- a method's contract out of its run from pc 0 on -/
theorem z_intro {G : z_Gl} {y : MethodName} {cc : ByteArray} {nL d : Nat} {ret : Option FieldType} {av : List Value} {μ : z_M} {P : Option Value → z_M → Prop} (hy : plainName y.cls = true) (hn : z_sl2 av ≤ nL) (h : ∀ E : z_E, E.1 = G → z_F E y.cls cc nL d → z_R E ret P → z_J E nL 0 (z_en nL av) [] μ) : z_C0 G y cc nL ret d av μ P := by
  obtain ⟨l, D, ad, dA, sh⟩ := G
  intro sz
  refine Met.ofW (cc := cc) (maxL := nL) (ret := ret) hy rfl ?_
  intro p e s m args below meth c s₁ B hml hv
  obtain ⟨rfl, hsz, hP, hK, hD0, hX⟩ := hv
  subst hsz
  have hts := atoms_spec (ws := Jvm.Cond.code y cc nL ret :: z_T) B.pre
  have hown : s.vm.findClass y.cls = some m.cls := findClass_of_methodNamed B.named
  have hD : ∀ μ', va_D (va_A (z_w ad dA sh μ) s.heap.size) (z_w ad dA sh μ') := fun μ' => z_D_any μ' (hD0.self (sz := s.heap.size))
  rw [lg_entry_eq]
  exact h ((l, D, ad, dA, sh), p, e, z_rm d, s, m, (av.map (z_v ad)).toArray, below, meth, c, MQ below (z_Qc (l, D, ad, dA, sh) (va_A (z_w ad dA sh μ) s.heap.size) P) (av.map (z_v ad)).toArray s 0 0 (va_A (z_w ad dA sh μ) s.heap.size), va_A (z_w ad dA sh μ) s.heap.size, 0, 0) rfl
    ⟨B.exec, B.bytes, hml, hown, fun w hw => hts w (List.mem_cons_of_mem _ hw), hK, hD, fun q hq => Or.inr hq, hX, Nat.le_refl _, Nat.le_refl _, Nat.zero_le _, Nat.zero_le _⟩ ⟨B.notSynchronized, B.returns, rfl⟩ s.heap [] _ hP va_S.rf (z_entry av (by rw [z_lgsl]; exact hn))
end
section
/-! THE ROWS: an instruction each, over z_J -/
theorem j_iconst {E : z_E} {own : String} {cc : ByteArray} {nL d pc : Nat} {L : z_L} {st : List Value} {μ : z_M} (F : z_F E own cc nL d) {n : Int} {v : Int32} (hdg : decode cc pc = .ok (.iconst n, 1)) (hv : Int32.ofInt n = v) (k : z_J E nL (pc + 1) L (.int v :: st) μ) : z_J E nL pc L st μ := by
  obtain ⟨⟨l, D, ad, dA, sh⟩, p, e, R, s, m, args, below, meth, c, Q, A, kc, ks⟩ := E
  obtain ⟨hx, hb, hml, hown, hts, hK, hD, hA, hX, hd1, hd2, hc1, hc2⟩ := F
  intro H locs ls hP hS hl
  exact lv_iconst hx hb hdg hv (k H locs ls hP hS hl)
theorem j_bipush {E : z_E} {own : String} {cc : ByteArray} {nL d pc : Nat} {L : z_L} {st : List Value} {μ : z_M} (F : z_F E own cc nL d) {n : Int} {v : Int32} (hdg : decode cc pc = .ok (.bipush n, 2)) (hv : (Int8.ofInt n).toInt32 = v) (k : z_J E nL (pc + 2) L (.int v :: st) μ) : z_J E nL pc L st μ := by
  obtain ⟨⟨l, D, ad, dA, sh⟩, p, e, R, s, m, args, below, meth, c, Q, A, kc, ks⟩ := E
  obtain ⟨hx, hb, hml, hown, hts, hK, hD, hA, hX, hd1, hd2, hc1, hc2⟩ := F
  intro H locs ls hP hS hl
  exact lv_bipush hx hb hdg hv (k H locs ls hP hS hl)
theorem j_sipush {E : z_E} {own : String} {cc : ByteArray} {nL d pc : Nat} {L : z_L} {st : List Value} {μ : z_M} (F : z_F E own cc nL d) {n : Int} {v : Int32} (hdg : decode cc pc = .ok (.sipush n, 3)) (hv : (Int16.ofInt n).toInt32 = v) (k : z_J E nL (pc + 3) L (.int v :: st) μ) : z_J E nL pc L st μ := by
  obtain ⟨⟨l, D, ad, dA, sh⟩, p, e, R, s, m, args, below, meth, c, Q, A, kc, ks⟩ := E
  obtain ⟨hx, hb, hml, hown, hts, hK, hD, hA, hX, hd1, hd2, hc1, hc2⟩ := F
  intro H locs ls hP hS hl
  exact lv_sipush hx hb hdg hv (k H locs ls hP hS hl)
theorem j_lconst {E : z_E} {own : String} {cc : ByteArray} {nL d pc : Nat} {L : z_L} {st : List Value} {μ : z_M} (F : z_F E own cc nL d) {n : Fin 2} {v : Int64} (hdg : decode cc pc = .ok (.lconst n, 1)) (hv : Int64.ofNat (n : Nat) = v) (k : z_J E nL (pc + 1) L (.long v :: st) μ) : z_J E nL pc L st μ := by
  obtain ⟨⟨l, D, ad, dA, sh⟩, p, e, R, s, m, args, below, meth, c, Q, A, kc, ks⟩ := E
  obtain ⟨hx, hb, hml, hown, hts, hK, hD, hA, hX, hd1, hd2, hc1, hc2⟩ := F
  intro H locs ls hP hS hl
  exact lv_lconst hx hb hdg hv (k H locs ls hP hS hl)
theorem j_iadd {E : z_E} {own : String} {cc : ByteArray} {nL d pc : Nat} {L : z_L} {st : List Value} {μ : z_M} (F : z_F E own cc nL d) {x y : Int32} (hdg : decode cc pc = .ok (.iadd, 1))  (k : z_J E nL (pc + 1) L (.int (x + y) :: st) μ) : z_J E nL pc L (.int y :: .int x :: st) μ := by
  obtain ⟨⟨l, D, ad, dA, sh⟩, p, e, R, s, m, args, below, meth, c, Q, A, kc, ks⟩ := E
  obtain ⟨hx, hb, hml, hown, hts, hK, hD, hA, hX, hd1, hd2, hc1, hc2⟩ := F
  intro H locs ls hP hS hl
  exact lv_iadd hx hb hdg  (k H locs ls hP hS hl)
theorem j_isub {E : z_E} {own : String} {cc : ByteArray} {nL d pc : Nat} {L : z_L} {st : List Value} {μ : z_M} (F : z_F E own cc nL d) {x y : Int32} (hdg : decode cc pc = .ok (.isub, 1))  (k : z_J E nL (pc + 1) L (.int (x - y) :: st) μ) : z_J E nL pc L (.int y :: .int x :: st) μ := by
  obtain ⟨⟨l, D, ad, dA, sh⟩, p, e, R, s, m, args, below, meth, c, Q, A, kc, ks⟩ := E
  obtain ⟨hx, hb, hml, hown, hts, hK, hD, hA, hX, hd1, hd2, hc1, hc2⟩ := F
  intro H locs ls hP hS hl
  exact lv_isub hx hb hdg  (k H locs ls hP hS hl)
theorem j_imul {E : z_E} {own : String} {cc : ByteArray} {nL d pc : Nat} {L : z_L} {st : List Value} {μ : z_M} (F : z_F E own cc nL d) {x y : Int32} (hdg : decode cc pc = .ok (.imul, 1))  (k : z_J E nL (pc + 1) L (.int (x * y) :: st) μ) : z_J E nL pc L (.int y :: .int x :: st) μ := by
  obtain ⟨⟨l, D, ad, dA, sh⟩, p, e, R, s, m, args, below, meth, c, Q, A, kc, ks⟩ := E
  obtain ⟨hx, hb, hml, hown, hts, hK, hD, hA, hX, hd1, hd2, hc1, hc2⟩ := F
  intro H locs ls hP hS hl
  exact lv_imul hx hb hdg  (k H locs ls hP hS hl)
theorem j_iand {E : z_E} {own : String} {cc : ByteArray} {nL d pc : Nat} {L : z_L} {st : List Value} {μ : z_M} (F : z_F E own cc nL d) {x y : Int32} (hdg : decode cc pc = .ok (.iand, 1))  (k : z_J E nL (pc + 1) L (.int (x &&& y) :: st) μ) : z_J E nL pc L (.int y :: .int x :: st) μ := by
  obtain ⟨⟨l, D, ad, dA, sh⟩, p, e, R, s, m, args, below, meth, c, Q, A, kc, ks⟩ := E
  obtain ⟨hx, hb, hml, hown, hts, hK, hD, hA, hX, hd1, hd2, hc1, hc2⟩ := F
  intro H locs ls hP hS hl
  exact lv_iand hx hb hdg  (k H locs ls hP hS hl)
theorem j_ior {E : z_E} {own : String} {cc : ByteArray} {nL d pc : Nat} {L : z_L} {st : List Value} {μ : z_M} (F : z_F E own cc nL d) {x y : Int32} (hdg : decode cc pc = .ok (.ior, 1))  (k : z_J E nL (pc + 1) L (.int (x ||| y) :: st) μ) : z_J E nL pc L (.int y :: .int x :: st) μ := by
  obtain ⟨⟨l, D, ad, dA, sh⟩, p, e, R, s, m, args, below, meth, c, Q, A, kc, ks⟩ := E
  obtain ⟨hx, hb, hml, hown, hts, hK, hD, hA, hX, hd1, hd2, hc1, hc2⟩ := F
  intro H locs ls hP hS hl
  exact lv_ior hx hb hdg  (k H locs ls hP hS hl)
theorem j_ixor {E : z_E} {own : String} {cc : ByteArray} {nL d pc : Nat} {L : z_L} {st : List Value} {μ : z_M} (F : z_F E own cc nL d) {x y : Int32} (hdg : decode cc pc = .ok (.ixor, 1))  (k : z_J E nL (pc + 1) L (.int (x ^^^ y) :: st) μ) : z_J E nL pc L (.int y :: .int x :: st) μ := by
  obtain ⟨⟨l, D, ad, dA, sh⟩, p, e, R, s, m, args, below, meth, c, Q, A, kc, ks⟩ := E
  obtain ⟨hx, hb, hml, hown, hts, hK, hD, hA, hX, hd1, hd2, hc1, hc2⟩ := F
  intro H locs ls hP hS hl
  exact lv_ixor hx hb hdg  (k H locs ls hP hS hl)
theorem j_ishl {E : z_E} {own : String} {cc : ByteArray} {nL d pc : Nat} {L : z_L} {st : List Value} {μ : z_M} (F : z_F E own cc nL d) {x y : Int32} (hdg : decode cc pc = .ok (.ishl, 1))  (k : z_J E nL (pc + 1) L (.int (x <<< (y &&& 31)) :: st) μ) : z_J E nL pc L (.int y :: .int x :: st) μ := by
  obtain ⟨⟨l, D, ad, dA, sh⟩, p, e, R, s, m, args, below, meth, c, Q, A, kc, ks⟩ := E
  obtain ⟨hx, hb, hml, hown, hts, hK, hD, hA, hX, hd1, hd2, hc1, hc2⟩ := F
  intro H locs ls hP hS hl
  exact lv_ishl hx hb hdg  (k H locs ls hP hS hl)
theorem j_ishr {E : z_E} {own : String} {cc : ByteArray} {nL d pc : Nat} {L : z_L} {st : List Value} {μ : z_M} (F : z_F E own cc nL d) {x y : Int32} (hdg : decode cc pc = .ok (.ishr, 1))  (k : z_J E nL (pc + 1) L (.int (x >>> (y &&& 31)) :: st) μ) : z_J E nL pc L (.int y :: .int x :: st) μ := by
  obtain ⟨⟨l, D, ad, dA, sh⟩, p, e, R, s, m, args, below, meth, c, Q, A, kc, ks⟩ := E
  obtain ⟨hx, hb, hml, hown, hts, hK, hD, hA, hX, hd1, hd2, hc1, hc2⟩ := F
  intro H locs ls hP hS hl
  exact lv_ishr hx hb hdg  (k H locs ls hP hS hl)
theorem j_ineg {E : z_E} {own : String} {cc : ByteArray} {nL d pc : Nat} {L : z_L} {st : List Value} {μ : z_M} (F : z_F E own cc nL d) {x : Int32} (hdg : decode cc pc = .ok (.ineg, 1))  (k : z_J E nL (pc + 1) L (.int (-x) :: st) μ) : z_J E nL pc L (.int x :: st) μ := by
  obtain ⟨⟨l, D, ad, dA, sh⟩, p, e, R, s, m, args, below, meth, c, Q, A, kc, ks⟩ := E
  obtain ⟨hx, hb, hml, hown, hts, hK, hD, hA, hX, hd1, hd2, hc1, hc2⟩ := F
  intro H locs ls hP hS hl
  exact lv_ineg hx hb hdg  (k H locs ls hP hS hl)
theorem j_idiv {E : z_E} {own : String} {cc : ByteArray} {nL d pc : Nat} {L : z_L} {st : List Value} {μ : z_M} (F : z_F E own cc nL d) {x y : Int32} (hdg : decode cc pc = .ok (.idiv, 1)) (hne : ¬ y = 0) (k : z_J E nL (pc + 1) L (.int (x / y) :: st) μ) : z_J E nL pc L (.int y :: .int x :: st) μ := by
  obtain ⟨⟨l, D, ad, dA, sh⟩, p, e, R, s, m, args, below, meth, c, Q, A, kc, ks⟩ := E
  obtain ⟨hx, hb, hml, hown, hts, hK, hD, hA, hX, hd1, hd2, hc1, hc2⟩ := F
  intro H locs ls hP hS hl
  exact lv_idiv hx hb hdg hne (k H locs ls hP hS hl)
theorem j_irem {E : z_E} {own : String} {cc : ByteArray} {nL d pc : Nat} {L : z_L} {st : List Value} {μ : z_M} (F : z_F E own cc nL d) {x y : Int32} (hdg : decode cc pc = .ok (.irem, 1)) (hne : ¬ y = 0) (k : z_J E nL (pc + 1) L (.int (x - x / y * y) :: st) μ) : z_J E nL pc L (.int y :: .int x :: st) μ := by
  obtain ⟨⟨l, D, ad, dA, sh⟩, p, e, R, s, m, args, below, meth, c, Q, A, kc, ks⟩ := E
  obtain ⟨hx, hb, hml, hown, hts, hK, hD, hA, hX, hd1, hd2, hc1, hc2⟩ := F
  intro H locs ls hP hS hl
  exact lv_irem hx hb hdg hne (k H locs ls hP hS hl)
theorem j_ladd {E : z_E} {own : String} {cc : ByteArray} {nL d pc : Nat} {L : z_L} {st : List Value} {μ : z_M} (F : z_F E own cc nL d) {x y : Int64} (hdg : decode cc pc = .ok (.ladd, 1))  (k : z_J E nL (pc + 1) L (.long (x + y) :: st) μ) : z_J E nL pc L (.long y :: .long x :: st) μ := by
  obtain ⟨⟨l, D, ad, dA, sh⟩, p, e, R, s, m, args, below, meth, c, Q, A, kc, ks⟩ := E
  obtain ⟨hx, hb, hml, hown, hts, hK, hD, hA, hX, hd1, hd2, hc1, hc2⟩ := F
  intro H locs ls hP hS hl
  exact lv_ladd hx hb hdg  (k H locs ls hP hS hl)
theorem j_lsub {E : z_E} {own : String} {cc : ByteArray} {nL d pc : Nat} {L : z_L} {st : List Value} {μ : z_M} (F : z_F E own cc nL d) {x y : Int64} (hdg : decode cc pc = .ok (.lsub, 1))  (k : z_J E nL (pc + 1) L (.long (x - y) :: st) μ) : z_J E nL pc L (.long y :: .long x :: st) μ := by
  obtain ⟨⟨l, D, ad, dA, sh⟩, p, e, R, s, m, args, below, meth, c, Q, A, kc, ks⟩ := E
  obtain ⟨hx, hb, hml, hown, hts, hK, hD, hA, hX, hd1, hd2, hc1, hc2⟩ := F
  intro H locs ls hP hS hl
  exact lv_lsub hx hb hdg  (k H locs ls hP hS hl)
theorem j_lmul {E : z_E} {own : String} {cc : ByteArray} {nL d pc : Nat} {L : z_L} {st : List Value} {μ : z_M} (F : z_F E own cc nL d) {x y : Int64} (hdg : decode cc pc = .ok (.lmul, 1))  (k : z_J E nL (pc + 1) L (.long (x * y) :: st) μ) : z_J E nL pc L (.long y :: .long x :: st) μ := by
  obtain ⟨⟨l, D, ad, dA, sh⟩, p, e, R, s, m, args, below, meth, c, Q, A, kc, ks⟩ := E
  obtain ⟨hx, hb, hml, hown, hts, hK, hD, hA, hX, hd1, hd2, hc1, hc2⟩ := F
  intro H locs ls hP hS hl
  exact lv_lmul hx hb hdg  (k H locs ls hP hS hl)
theorem j_land {E : z_E} {own : String} {cc : ByteArray} {nL d pc : Nat} {L : z_L} {st : List Value} {μ : z_M} (F : z_F E own cc nL d) {x y : Int64} (hdg : decode cc pc = .ok (.land, 1))  (k : z_J E nL (pc + 1) L (.long (x &&& y) :: st) μ) : z_J E nL pc L (.long y :: .long x :: st) μ := by
  obtain ⟨⟨l, D, ad, dA, sh⟩, p, e, R, s, m, args, below, meth, c, Q, A, kc, ks⟩ := E
  obtain ⟨hx, hb, hml, hown, hts, hK, hD, hA, hX, hd1, hd2, hc1, hc2⟩ := F
  intro H locs ls hP hS hl
  exact lv_land hx hb hdg  (k H locs ls hP hS hl)
theorem j_lor {E : z_E} {own : String} {cc : ByteArray} {nL d pc : Nat} {L : z_L} {st : List Value} {μ : z_M} (F : z_F E own cc nL d) {x y : Int64} (hdg : decode cc pc = .ok (.lor, 1))  (k : z_J E nL (pc + 1) L (.long (x ||| y) :: st) μ) : z_J E nL pc L (.long y :: .long x :: st) μ := by
  obtain ⟨⟨l, D, ad, dA, sh⟩, p, e, R, s, m, args, below, meth, c, Q, A, kc, ks⟩ := E
  obtain ⟨hx, hb, hml, hown, hts, hK, hD, hA, hX, hd1, hd2, hc1, hc2⟩ := F
  intro H locs ls hP hS hl
  exact lv_lor hx hb hdg  (k H locs ls hP hS hl)
theorem j_lshr {E : z_E} {own : String} {cc : ByteArray} {nL d pc : Nat} {L : z_L} {st : List Value} {μ : z_M} (F : z_F E own cc nL d) {x : Int64} {y : Int32} (hdg : decode cc pc = .ok (.lshr, 1))  (k : z_J E nL (pc + 1) L (.long (x >>> (y.toInt64 &&& 63)) :: st) μ) : z_J E nL pc L (.int y :: .long x :: st) μ := by
  obtain ⟨⟨l, D, ad, dA, sh⟩, p, e, R, s, m, args, below, meth, c, Q, A, kc, ks⟩ := E
  obtain ⟨hx, hb, hml, hown, hts, hK, hD, hA, hX, hd1, hd2, hc1, hc2⟩ := F
  intro H locs ls hP hS hl
  exact lv_lshr hx hb hdg rfl (k H locs ls hP hS hl)
theorem j_lshl {E : z_E} {own : String} {cc : ByteArray} {nL d pc : Nat} {L : z_L} {st : List Value} {μ : z_M} (F : z_F E own cc nL d) {x : Int64} {y : Int32} (hdg : decode cc pc = .ok (.lshl, 1))  (k : z_J E nL (pc + 1) L (.long (x <<< (y.toInt64 &&& 63)) :: st) μ) : z_J E nL pc L (.int y :: .long x :: st) μ := by
  obtain ⟨⟨l, D, ad, dA, sh⟩, p, e, R, s, m, args, below, meth, c, Q, A, kc, ks⟩ := E
  obtain ⟨hx, hb, hml, hown, hts, hK, hD, hA, hX, hd1, hd2, hc1, hc2⟩ := F
  intro H locs ls hP hS hl
  exact lv_lshl hx hb hdg rfl (k H locs ls hP hS hl)
theorem j_lushr {E : z_E} {own : String} {cc : ByteArray} {nL d pc : Nat} {L : z_L} {st : List Value} {μ : z_M} (F : z_F E own cc nL d) {x : Int64} {y : Int32} (hdg : decode cc pc = .ok (.lushr, 1))  (k : z_J E nL (pc + 1) L (.long (x.toUInt64 >>> (y.toInt64.toUInt64 &&& Int64.toUInt64 63)).toInt64 :: st) μ) : z_J E nL pc L (.int y :: .long x :: st) μ := by
  obtain ⟨⟨l, D, ad, dA, sh⟩, p, e, R, s, m, args, below, meth, c, Q, A, kc, ks⟩ := E
  obtain ⟨hx, hb, hml, hown, hts, hK, hD, hA, hX, hd1, hd2, hc1, hc2⟩ := F
  intro H locs ls hP hS hl
  exact lv_lushr hx hb hdg rfl (k H locs ls hP hS hl)
theorem j_i2l {E : z_E} {own : String} {cc : ByteArray} {nL d pc : Nat} {L : z_L} {st : List Value} {μ : z_M} (F : z_F E own cc nL d) {x : Int32} (hdg : decode cc pc = .ok (.i2l, 1))  (k : z_J E nL (pc + 1) L (.long x.toInt64 :: st) μ) : z_J E nL pc L (.int x :: st) μ := by
  obtain ⟨⟨l, D, ad, dA, sh⟩, p, e, R, s, m, args, below, meth, c, Q, A, kc, ks⟩ := E
  obtain ⟨hx, hb, hml, hown, hts, hK, hD, hA, hX, hd1, hd2, hc1, hc2⟩ := F
  intro H locs ls hP hS hl
  exact lv_i2l hx hb hdg rfl (k H locs ls hP hS hl)
theorem j_l2i {E : z_E} {own : String} {cc : ByteArray} {nL d pc : Nat} {L : z_L} {st : List Value} {μ : z_M} (F : z_F E own cc nL d) {x : Int64} (hdg : decode cc pc = .ok (.l2i, 1))  (k : z_J E nL (pc + 1) L (.int x.toInt32 :: st) μ) : z_J E nL pc L (.long x :: st) μ := by
  obtain ⟨⟨l, D, ad, dA, sh⟩, p, e, R, s, m, args, below, meth, c, Q, A, kc, ks⟩ := E
  obtain ⟨hx, hb, hml, hown, hts, hK, hD, hA, hX, hd1, hd2, hc1, hc2⟩ := F
  intro H locs ls hP hS hl
  exact lv_l2i hx hb hdg rfl (k H locs ls hP hS hl)
theorem j_lcmp {E : z_E} {own : String} {cc : ByteArray} {nL d pc : Nat} {L : z_L} {st : List Value} {μ : z_M} (F : z_F E own cc nL d) {x y : Int64} (hdg : decode cc pc = .ok (.lcmp, 1))  (k : z_J E nL (pc + 1) L (.int (lg_cmp x y) :: st) μ) : z_J E nL pc L (.long y :: .long x :: st) μ := by
  obtain ⟨⟨l, D, ad, dA, sh⟩, p, e, R, s, m, args, below, meth, c, Q, A, kc, ks⟩ := E
  obtain ⟨hx, hb, hml, hown, hts, hK, hD, hA, hX, hd1, hd2, hc1, hc2⟩ := F
  intro H locs ls hP hS hl
  exact W.lcmp hx hb hdg  (k H locs ls hP hS hl)
theorem j_dup {E : z_E} {own : String} {cc : ByteArray} {nL d pc : Nat} {L : z_L} {st : List Value} {μ : z_M} (F : z_F E own cc nL d) {v : Value} (hdg : decode cc pc = .ok (.dup, 1)) (hv : v.category = 1) (k : z_J E nL (pc + 1) L (v :: v :: st) μ) : z_J E nL pc L (v :: st) μ := by
  obtain ⟨⟨l, D, ad, dA, sh⟩, p, e, R, s, m, args, below, meth, c, Q, A, kc, ks⟩ := E
  obtain ⟨hx, hb, hml, hown, hts, hK, hD, hA, hX, hd1, hd2, hc1, hc2⟩ := F
  intro H locs ls hP hS hl
  exact lv_dup hx hb hdg (z_v_cat.trans hv) (k H locs ls hP hS hl)
theorem j_pop {E : z_E} {own : String} {cc : ByteArray} {nL d pc : Nat} {L : z_L} {st : List Value} {μ : z_M} (F : z_F E own cc nL d) {v : Value} (hdg : decode cc pc = .ok (.pop, 1)) (hv : v.category = 1) (k : z_J E nL (pc + 1) L st μ) : z_J E nL pc L (v :: st) μ := by
  obtain ⟨⟨l, D, ad, dA, sh⟩, p, e, R, s, m, args, below, meth, c, Q, A, kc, ks⟩ := E
  obtain ⟨hx, hb, hml, hown, hts, hK, hD, hA, hX, hd1, hd2, hc1, hc2⟩ := F
  intro H locs ls hP hS hl
  exact lv_pop hx hb hdg (z_v_cat.trans hv) (k H locs ls hP hS hl)
theorem j_dup2 {E : z_E} {own : String} {cc : ByteArray} {nL d pc : Nat} {L : z_L} {st : List Value} {μ : z_M} (F : z_F E own cc nL d) {v w : Value} (hdg : decode cc pc = .ok (.dup2, 1)) (hv : v.category = 1) (hw : w.category = 1) (k : z_J E nL (pc + 1) L (v :: w :: v :: w :: st) μ) : z_J E nL pc L (v :: w :: st) μ := by
  obtain ⟨⟨l, D, ad, dA, sh⟩, p, e, R, s, m, args, below, meth, c, Q, A, kc, ks⟩ := E
  obtain ⟨hx, hb, hml, hown, hts, hK, hD, hA, hX, hd1, hd2, hc1, hc2⟩ := F
  intro H locs ls hP hS hl
  exact lv_dup2_11 hx hb hdg (z_v_cat.trans hv) (z_v_cat.trans hw) (k H locs ls hP hS hl)
theorem j_iload {E : z_E} {own : String} {cc : ByteArray} {nL d pc : Nat} {L : z_L} {st : List Value} {μ : z_M} (F : z_F E own cc nL d) {i : Nat} {x : Int32} (hdg : decode cc pc = .ok (.iload i, 2)) (hi : L[i]? = some (some (.int x))) (k : z_J E nL (pc + 2) L (.int x :: st) μ) : z_J E nL pc L st μ := by
  obtain ⟨⟨l, D, ad, dA, sh⟩, p, e, R, s, m, args, below, meth, c, Q, A, kc, ks⟩ := E
  obtain ⟨hx, hb, hml, hown, hts, hK, hD, hA, hX, hd1, hd2, hc1, hc2⟩ := F
  intro H locs ls hP hS hl
  exact lv_iload hx hb hdg (hl.at hi) (k H locs ls hP hS hl)
theorem j_iload_n {E : z_E} {own : String} {cc : ByteArray} {nL d pc : Nat} {L : z_L} {st : List Value} {μ : z_M} (F : z_F E own cc nL d) {q : Fin 4} {x : Int32} (hdg : decode cc pc = .ok (.iload_n q, 1)) (hi : L[(q : Nat)]? = some (some (.int x))) (k : z_J E nL (pc + 1) L (.int x :: st) μ) : z_J E nL pc L st μ := by
  obtain ⟨⟨l, D, ad, dA, sh⟩, p, e, R, s, m, args, below, meth, c, Q, A, kc, ks⟩ := E
  obtain ⟨hx, hb, hml, hown, hts, hK, hD, hA, hX, hd1, hd2, hc1, hc2⟩ := F
  intro H locs ls hP hS hl
  exact lv_iload_n hx hb hdg rfl (hl.at hi) (k H locs ls hP hS hl)
theorem j_lload {E : z_E} {own : String} {cc : ByteArray} {nL d pc : Nat} {L : z_L} {st : List Value} {μ : z_M} (F : z_F E own cc nL d) {i : Nat} {x : Int64} (hdg : decode cc pc = .ok (.lload i, 2)) (hi : L[i]? = some (some (.long x))) (k : z_J E nL (pc + 2) L (.long x :: st) μ) : z_J E nL pc L st μ := by
  obtain ⟨⟨l, D, ad, dA, sh⟩, p, e, R, s, m, args, below, meth, c, Q, A, kc, ks⟩ := E
  obtain ⟨hx, hb, hml, hown, hts, hK, hD, hA, hX, hd1, hd2, hc1, hc2⟩ := F
  intro H locs ls hP hS hl
  exact lv_lload hx hb hdg (hl.at hi) (k H locs ls hP hS hl)
theorem j_lload_n {E : z_E} {own : String} {cc : ByteArray} {nL d pc : Nat} {L : z_L} {st : List Value} {μ : z_M} (F : z_F E own cc nL d) {q : Fin 4} {x : Int64} (hdg : decode cc pc = .ok (.lload_n q, 1)) (hi : L[(q : Nat)]? = some (some (.long x))) (k : z_J E nL (pc + 1) L (.long x :: st) μ) : z_J E nL pc L st μ := by
  obtain ⟨⟨l, D, ad, dA, sh⟩, p, e, R, s, m, args, below, meth, c, Q, A, kc, ks⟩ := E
  obtain ⟨hx, hb, hml, hown, hts, hK, hD, hA, hX, hd1, hd2, hc1, hc2⟩ := F
  intro H locs ls hP hS hl
  exact lv_lload_n hx hb hdg rfl (hl.at hi) (k H locs ls hP hS hl)
theorem j_aload {E : z_E} {own : String} {cc : ByteArray} {nL d pc : Nat} {L : z_L} {st : List Value} {μ : z_M} (F : z_F E own cc nL d) {i : Nat} {x : Nat} (hdg : decode cc pc = .ok (.aload i, 2)) (hi : L[i]? = some (some (.ref x))) (k : z_J E nL (pc + 2) L (.ref x :: st) μ) : z_J E nL pc L st μ := by
  obtain ⟨⟨l, D, ad, dA, sh⟩, p, e, R, s, m, args, below, meth, c, Q, A, kc, ks⟩ := E
  obtain ⟨hx, hb, hml, hown, hts, hK, hD, hA, hX, hd1, hd2, hc1, hc2⟩ := F
  intro H locs ls hP hS hl
  exact lv_aload hx hb hdg (hl.at hi) (k H locs ls hP hS hl)
theorem j_aload_n {E : z_E} {own : String} {cc : ByteArray} {nL d pc : Nat} {L : z_L} {st : List Value} {μ : z_M} (F : z_F E own cc nL d) {q : Fin 4} {x : Nat} (hdg : decode cc pc = .ok (.aload_n q, 1)) (hi : L[(q : Nat)]? = some (some (.ref x))) (k : z_J E nL (pc + 1) L (.ref x :: st) μ) : z_J E nL pc L st μ := by
  obtain ⟨⟨l, D, ad, dA, sh⟩, p, e, R, s, m, args, below, meth, c, Q, A, kc, ks⟩ := E
  obtain ⟨hx, hb, hml, hown, hts, hK, hD, hA, hX, hd1, hd2, hc1, hc2⟩ := F
  intro H locs ls hP hS hl
  exact lv_aload_n hx hb hdg rfl (hl.at hi) (k H locs ls hP hS hl)
theorem j_istore {E : z_E} {own : String} {cc : ByteArray} {nL d pc : Nat} {L : z_L} {st : List Value} {μ : z_M} (F : z_F E own cc nL d) {i : Nat} {x : Int32} {L' : z_L} (hdg : decode cc pc = .ok (.istore i, 2)) (hn : i < nL) (hz : z_nl L i = true) (hL : L.set i (some (.int x)) = L') (k : z_J E nL (pc + 2) L' st μ) : z_J E nL pc L (.int x :: st) μ := by
  obtain ⟨⟨l, D, ad, dA, sh⟩, p, e, R, s, m, args, below, meth, c, Q, A, kc, ks⟩ := E
  obtain ⟨hx, hb, hml, hown, hts, hK, hD, hA, hX, hd1, hd2, hc1, hc2⟩ := F
  intro H locs ls hP hS hl
  exact lv_istore hx hb hdg hl.has hn rfl (fun ls' h' => k H locs ls' hP hS (hL ▸ z_store1 (v := .int x) hz h'))
theorem j_istore_n {E : z_E} {own : String} {cc : ByteArray} {nL d pc : Nat} {L : z_L} {st : List Value} {μ : z_M} (F : z_F E own cc nL d) {q : Fin 4} {x : Int32} {L' : z_L} (hdg : decode cc pc = .ok (.istore_n q, 1)) (hn : (q : Nat) < nL) (hz : z_nl L (q : Nat) = true) (hL : L.set (q : Nat) (some (.int x)) = L') (k : z_J E nL (pc + 1) L' st μ) : z_J E nL pc L (.int x :: st) μ := by
  obtain ⟨⟨l, D, ad, dA, sh⟩, p, e, R, s, m, args, below, meth, c, Q, A, kc, ks⟩ := E
  obtain ⟨hx, hb, hml, hown, hts, hK, hD, hA, hX, hd1, hd2, hc1, hc2⟩ := F
  intro H locs ls hP hS hl
  exact lv_istore_n hx hb hdg rfl hl.has hn rfl (fun ls' h' => k H locs ls' hP hS (hL ▸ z_store1 (v := .int x) hz h'))
theorem j_astore {E : z_E} {own : String} {cc : ByteArray} {nL d pc : Nat} {L : z_L} {st : List Value} {μ : z_M} (F : z_F E own cc nL d) {i : Nat} {x : Nat} {L' : z_L} (hdg : decode cc pc = .ok (.astore i, 2)) (hn : i < nL) (hz : z_nl L i = true) (hL : L.set i (some (.ref x)) = L') (k : z_J E nL (pc + 2) L' st μ) : z_J E nL pc L (.ref x :: st) μ := by
  obtain ⟨⟨l, D, ad, dA, sh⟩, p, e, R, s, m, args, below, meth, c, Q, A, kc, ks⟩ := E
  obtain ⟨hx, hb, hml, hown, hts, hK, hD, hA, hX, hd1, hd2, hc1, hc2⟩ := F
  intro H locs ls hP hS hl
  exact lv_astore hx hb hdg hl.has hn rfl (fun ls' h' => k H locs ls' hP hS (hL ▸ z_store1 (v := .ref x) hz h'))
theorem j_astore_n {E : z_E} {own : String} {cc : ByteArray} {nL d pc : Nat} {L : z_L} {st : List Value} {μ : z_M} (F : z_F E own cc nL d) {q : Fin 4} {x : Nat} {L' : z_L} (hdg : decode cc pc = .ok (.astore_n q, 1)) (hn : (q : Nat) < nL) (hz : z_nl L (q : Nat) = true) (hL : L.set (q : Nat) (some (.ref x)) = L') (k : z_J E nL (pc + 1) L' st μ) : z_J E nL pc L (.ref x :: st) μ := by
  obtain ⟨⟨l, D, ad, dA, sh⟩, p, e, R, s, m, args, below, meth, c, Q, A, kc, ks⟩ := E
  obtain ⟨hx, hb, hml, hown, hts, hK, hD, hA, hX, hd1, hd2, hc1, hc2⟩ := F
  intro H locs ls hP hS hl
  exact lv_astore_n hx hb hdg rfl hl.has hn rfl (fun ls' h' => k H locs ls' hP hS (hL ▸ z_store1 (v := .ref x) hz h'))
theorem j_lstore_n {E : z_E} {own : String} {cc : ByteArray} {nL d pc : Nat} {L : z_L} {st : List Value} {μ : z_M} (F : z_F E own cc nL d) {q : Fin 4} {x : Int64} {L' : z_L} (hdg : decode cc pc = .ok (.lstore_n q, 1)) (hn : (q : Nat) + 1 < nL) (hz : z_nl L (q : Nat) = true) (hL : (L.set (q : Nat) (some (.long x))).set ((q : Nat) + 1) none = L') (k : z_J E nL (pc + 1) L' st μ) : z_J E nL pc L (.long x :: st) μ := by
  obtain ⟨⟨l, D, ad, dA, sh⟩, p, e, R, s, m, args, below, meth, c, Q, A, kc, ks⟩ := E
  obtain ⟨hx, hb, hml, hown, hts, hK, hD, hA, hX, hd1, hd2, hc1, hc2⟩ := F
  intro H locs ls hP hS hl
  exact lv_lstore_n hx hb hdg rfl hl.has hn rfl (fun ls' h' => k H locs ls' hP hS (hL ▸ z_store2 (v := .long x) hz h'))
theorem j_iinc {E : z_E} {own : String} {cc : ByteArray} {nL d pc : Nat} {L : z_L} {st : List Value} {μ : z_M} (F : z_F E own cc nL d) {i : Nat} {n : Int} {x v : Int32} {L' : z_L} (hdg : decode cc pc = .ok (.iinc i n, 3)) (hi : L[i]? = some (some (.int x))) (hv : Int32.ofInt n = v) (hn : i < nL) (hz : z_nl L i = true) (hL : L.set i (some (.int (x + v))) = L') (k : z_J E nL (pc + 3) L' st μ) : z_J E nL pc L st μ := by
  obtain ⟨⟨l, D, ad, dA, sh⟩, p, e, R, s, m, args, below, meth, c, Q, A, kc, ks⟩ := E
  obtain ⟨hx, hb, hml, hown, hts, hK, hD, hA, hX, hd1, hd2, hc1, hc2⟩ := F
  intro H locs ls hP hS hl
  obtain ⟨q, hq⟩ := List.getElem?_of_mem (z_lv_mem (ad := ad) hi)
  exact lv_iinc hx hb hdg hl.has hq (by rw [hv]) hn rfl (fun ls' h' => k H locs ls' hP hS (hL ▸ z_store1 (v := .int (x + v)) hz h'))
theorem j_if_eq {E : z_E} {own : String} {cc : ByteArray} {nL d pc : Nat} {L : z_L} {st : List Value} {μ : z_M} (F : z_F E own cc nL d) {x : Int32} {off : Int} {tgt : Nat} (hdg : decode cc pc = .ok (.ifCond .eq off, 3)) (ht : (pc : Int) + off = (tgt : Int)) (kt : x = 0 → z_J E nL tgt L st μ) (kf : ¬ x = 0 → z_J E nL (pc + 3) L st μ) : z_J E nL pc L (.int x :: st) μ := by
  obtain ⟨⟨l, D, ad, dA, sh⟩, p, e, R, s, m, args, below, meth, c, Q, A, kc, ks⟩ := E
  obtain ⟨hx, hb, hml, hown, hts, hK, hD, hA, hX, hd1, hd2, hc1, hc2⟩ := F
  intro H locs ls hP hS hl
  exact lv_if_eq hx hb hdg ht (fun q => kt q H locs ls hP hS hl) (fun q => kf q H locs ls hP hS hl)
theorem j_icmp_eq {E : z_E} {own : String} {cc : ByteArray} {nL d pc : Nat} {L : z_L} {st : List Value} {μ : z_M} (F : z_F E own cc nL d) {x y : Int32} {off : Int} {tgt : Nat} (hdg : decode cc pc = .ok (.if_icmp .eq off, 3)) (ht : (pc : Int) + off = (tgt : Int)) (kt : x = y → z_J E nL tgt L st μ) (kf : ¬ x = y → z_J E nL (pc + 3) L st μ) : z_J E nL pc L (.int y :: .int x :: st) μ := by
  obtain ⟨⟨l, D, ad, dA, sh⟩, p, e, R, s, m, args, below, meth, c, Q, A, kc, ks⟩ := E
  obtain ⟨hx, hb, hml, hown, hts, hK, hD, hA, hX, hd1, hd2, hc1, hc2⟩ := F
  intro H locs ls hP hS hl
  exact lv_icmp_eq hx hb hdg ht (fun q => kt q H locs ls hP hS hl) (fun q => kf q H locs ls hP hS hl)
theorem j_if_ne {E : z_E} {own : String} {cc : ByteArray} {nL d pc : Nat} {L : z_L} {st : List Value} {μ : z_M} (F : z_F E own cc nL d) {x : Int32} {off : Int} {tgt : Nat} (hdg : decode cc pc = .ok (.ifCond .ne off, 3)) (ht : (pc : Int) + off = (tgt : Int)) (kt : ¬ x = 0 → z_J E nL tgt L st μ) (kf : x = 0 → z_J E nL (pc + 3) L st μ) : z_J E nL pc L (.int x :: st) μ := by
  obtain ⟨⟨l, D, ad, dA, sh⟩, p, e, R, s, m, args, below, meth, c, Q, A, kc, ks⟩ := E
  obtain ⟨hx, hb, hml, hown, hts, hK, hD, hA, hX, hd1, hd2, hc1, hc2⟩ := F
  intro H locs ls hP hS hl
  exact lv_if_ne hx hb hdg ht (fun q => kt q H locs ls hP hS hl) (fun q => kf q H locs ls hP hS hl)
theorem j_icmp_ne {E : z_E} {own : String} {cc : ByteArray} {nL d pc : Nat} {L : z_L} {st : List Value} {μ : z_M} (F : z_F E own cc nL d) {x y : Int32} {off : Int} {tgt : Nat} (hdg : decode cc pc = .ok (.if_icmp .ne off, 3)) (ht : (pc : Int) + off = (tgt : Int)) (kt : ¬ x = y → z_J E nL tgt L st μ) (kf : x = y → z_J E nL (pc + 3) L st μ) : z_J E nL pc L (.int y :: .int x :: st) μ := by
  obtain ⟨⟨l, D, ad, dA, sh⟩, p, e, R, s, m, args, below, meth, c, Q, A, kc, ks⟩ := E
  obtain ⟨hx, hb, hml, hown, hts, hK, hD, hA, hX, hd1, hd2, hc1, hc2⟩ := F
  intro H locs ls hP hS hl
  exact lv_icmp_ne hx hb hdg ht (fun q => kt q H locs ls hP hS hl) (fun q => kf q H locs ls hP hS hl)
theorem j_if_lt {E : z_E} {own : String} {cc : ByteArray} {nL d pc : Nat} {L : z_L} {st : List Value} {μ : z_M} (F : z_F E own cc nL d) {x : Int32} {off : Int} {tgt : Nat} (hdg : decode cc pc = .ok (.ifCond .lt off, 3)) (ht : (pc : Int) + off = (tgt : Int)) (kt : x < 0 → z_J E nL tgt L st μ) (kf : ¬ x < 0 → z_J E nL (pc + 3) L st μ) : z_J E nL pc L (.int x :: st) μ := by
  obtain ⟨⟨l, D, ad, dA, sh⟩, p, e, R, s, m, args, below, meth, c, Q, A, kc, ks⟩ := E
  obtain ⟨hx, hb, hml, hown, hts, hK, hD, hA, hX, hd1, hd2, hc1, hc2⟩ := F
  intro H locs ls hP hS hl
  exact lv_if_lt hx hb hdg ht (fun q => kt q H locs ls hP hS hl) (fun q => kf q H locs ls hP hS hl)
theorem j_icmp_lt {E : z_E} {own : String} {cc : ByteArray} {nL d pc : Nat} {L : z_L} {st : List Value} {μ : z_M} (F : z_F E own cc nL d) {x y : Int32} {off : Int} {tgt : Nat} (hdg : decode cc pc = .ok (.if_icmp .lt off, 3)) (ht : (pc : Int) + off = (tgt : Int)) (kt : x < y → z_J E nL tgt L st μ) (kf : ¬ x < y → z_J E nL (pc + 3) L st μ) : z_J E nL pc L (.int y :: .int x :: st) μ := by
  obtain ⟨⟨l, D, ad, dA, sh⟩, p, e, R, s, m, args, below, meth, c, Q, A, kc, ks⟩ := E
  obtain ⟨hx, hb, hml, hown, hts, hK, hD, hA, hX, hd1, hd2, hc1, hc2⟩ := F
  intro H locs ls hP hS hl
  exact lv_icmp_lt hx hb hdg ht (fun q => kt q H locs ls hP hS hl) (fun q => kf q H locs ls hP hS hl)
theorem j_if_ge {E : z_E} {own : String} {cc : ByteArray} {nL d pc : Nat} {L : z_L} {st : List Value} {μ : z_M} (F : z_F E own cc nL d) {x : Int32} {off : Int} {tgt : Nat} (hdg : decode cc pc = .ok (.ifCond .ge off, 3)) (ht : (pc : Int) + off = (tgt : Int)) (kt : 0 ≤ x → z_J E nL tgt L st μ) (kf : ¬ 0 ≤ x → z_J E nL (pc + 3) L st μ) : z_J E nL pc L (.int x :: st) μ := by
  obtain ⟨⟨l, D, ad, dA, sh⟩, p, e, R, s, m, args, below, meth, c, Q, A, kc, ks⟩ := E
  obtain ⟨hx, hb, hml, hown, hts, hK, hD, hA, hX, hd1, hd2, hc1, hc2⟩ := F
  intro H locs ls hP hS hl
  exact lv_if_ge hx hb hdg ht (fun q => kt q H locs ls hP hS hl) (fun q => kf q H locs ls hP hS hl)
theorem j_icmp_ge {E : z_E} {own : String} {cc : ByteArray} {nL d pc : Nat} {L : z_L} {st : List Value} {μ : z_M} (F : z_F E own cc nL d) {x y : Int32} {off : Int} {tgt : Nat} (hdg : decode cc pc = .ok (.if_icmp .ge off, 3)) (ht : (pc : Int) + off = (tgt : Int)) (kt : y ≤ x → z_J E nL tgt L st μ) (kf : ¬ y ≤ x → z_J E nL (pc + 3) L st μ) : z_J E nL pc L (.int y :: .int x :: st) μ := by
  obtain ⟨⟨l, D, ad, dA, sh⟩, p, e, R, s, m, args, below, meth, c, Q, A, kc, ks⟩ := E
  obtain ⟨hx, hb, hml, hown, hts, hK, hD, hA, hX, hd1, hd2, hc1, hc2⟩ := F
  intro H locs ls hP hS hl
  exact lv_icmp_ge hx hb hdg ht (fun q => kt q H locs ls hP hS hl) (fun q => kf q H locs ls hP hS hl)
theorem j_if_gt {E : z_E} {own : String} {cc : ByteArray} {nL d pc : Nat} {L : z_L} {st : List Value} {μ : z_M} (F : z_F E own cc nL d) {x : Int32} {off : Int} {tgt : Nat} (hdg : decode cc pc = .ok (.ifCond .gt off, 3)) (ht : (pc : Int) + off = (tgt : Int)) (kt : 0 < x → z_J E nL tgt L st μ) (kf : ¬ 0 < x → z_J E nL (pc + 3) L st μ) : z_J E nL pc L (.int x :: st) μ := by
  obtain ⟨⟨l, D, ad, dA, sh⟩, p, e, R, s, m, args, below, meth, c, Q, A, kc, ks⟩ := E
  obtain ⟨hx, hb, hml, hown, hts, hK, hD, hA, hX, hd1, hd2, hc1, hc2⟩ := F
  intro H locs ls hP hS hl
  exact lv_if_gt hx hb hdg ht (fun q => kt q H locs ls hP hS hl) (fun q => kf q H locs ls hP hS hl)
theorem j_icmp_gt {E : z_E} {own : String} {cc : ByteArray} {nL d pc : Nat} {L : z_L} {st : List Value} {μ : z_M} (F : z_F E own cc nL d) {x y : Int32} {off : Int} {tgt : Nat} (hdg : decode cc pc = .ok (.if_icmp .gt off, 3)) (ht : (pc : Int) + off = (tgt : Int)) (kt : y < x → z_J E nL tgt L st μ) (kf : ¬ y < x → z_J E nL (pc + 3) L st μ) : z_J E nL pc L (.int y :: .int x :: st) μ := by
  obtain ⟨⟨l, D, ad, dA, sh⟩, p, e, R, s, m, args, below, meth, c, Q, A, kc, ks⟩ := E
  obtain ⟨hx, hb, hml, hown, hts, hK, hD, hA, hX, hd1, hd2, hc1, hc2⟩ := F
  intro H locs ls hP hS hl
  exact lv_icmp_gt hx hb hdg ht (fun q => kt q H locs ls hP hS hl) (fun q => kf q H locs ls hP hS hl)
theorem j_if_le {E : z_E} {own : String} {cc : ByteArray} {nL d pc : Nat} {L : z_L} {st : List Value} {μ : z_M} (F : z_F E own cc nL d) {x : Int32} {off : Int} {tgt : Nat} (hdg : decode cc pc = .ok (.ifCond .le off, 3)) (ht : (pc : Int) + off = (tgt : Int)) (kt : x ≤ 0 → z_J E nL tgt L st μ) (kf : ¬ x ≤ 0 → z_J E nL (pc + 3) L st μ) : z_J E nL pc L (.int x :: st) μ := by
  obtain ⟨⟨l, D, ad, dA, sh⟩, p, e, R, s, m, args, below, meth, c, Q, A, kc, ks⟩ := E
  obtain ⟨hx, hb, hml, hown, hts, hK, hD, hA, hX, hd1, hd2, hc1, hc2⟩ := F
  intro H locs ls hP hS hl
  exact lv_if_le hx hb hdg ht (fun q => kt q H locs ls hP hS hl) (fun q => kf q H locs ls hP hS hl)
theorem j_icmp_le {E : z_E} {own : String} {cc : ByteArray} {nL d pc : Nat} {L : z_L} {st : List Value} {μ : z_M} (F : z_F E own cc nL d) {x y : Int32} {off : Int} {tgt : Nat} (hdg : decode cc pc = .ok (.if_icmp .le off, 3)) (ht : (pc : Int) + off = (tgt : Int)) (kt : x ≤ y → z_J E nL tgt L st μ) (kf : ¬ x ≤ y → z_J E nL (pc + 3) L st μ) : z_J E nL pc L (.int y :: .int x :: st) μ := by
  obtain ⟨⟨l, D, ad, dA, sh⟩, p, e, R, s, m, args, below, meth, c, Q, A, kc, ks⟩ := E
  obtain ⟨hx, hb, hml, hown, hts, hK, hD, hA, hX, hd1, hd2, hc1, hc2⟩ := F
  intro H locs ls hP hS hl
  exact lv_icmp_le hx hb hdg ht (fun q => kt q H locs ls hP hS hl) (fun q => kf q H locs ls hP hS hl)
theorem j_goto {E : z_E} {own : String} {cc : ByteArray} {nL d pc : Nat} {L : z_L} {st : List Value} {μ : z_M} (F : z_F E own cc nL d) {off : Int} {tgt : Nat} (hdg : decode cc pc = .ok (.goto off, 3)) (ht : (pc : Int) + off = (tgt : Int)) (k : z_J E nL tgt L st μ) : z_J E nL pc L st μ := by
  obtain ⟨⟨l, D, ad, dA, sh⟩, p, e, R, s, m, args, below, meth, c, Q, A, kc, ks⟩ := E
  obtain ⟨hx, hb, hml, hown, hts, hK, hD, hA, hX, hd1, hd2, hc1, hc2⟩ := F
  intro H locs ls hP hS hl
  exact lv_goto hx hb hdg ht (k H locs ls hP hS hl)
theorem j_tableIn {E : z_E} {own : String} {cc : ByteArray} {nL d pc : Nat} {L : z_L} {st : List Value} {μ : z_M} (F : z_F E own cc nL d) {dflt lo hi : Int} {offs : Array Int} {len : Nat} {x : Int32} {off : Int} {tgt : Nat} (hdg : decode cc pc = .ok (.tableswitch dflt lo hi offs, len)) (h1 : ¬ x.toInt < lo) (h2 : ¬ hi < x.toInt) (ho : offs[(x.toInt - lo).toNat]? = some off) (ht : (pc : Int) + off = (tgt : Int)) (k : z_J E nL tgt L st μ) : z_J E nL pc L (.int x :: st) μ := by
  obtain ⟨⟨l, D, ad, dA, sh⟩, p, e, R, s, m, args, below, meth, c, Q, A, kc, ks⟩ := E
  obtain ⟨hx, hb, hml, hown, hts, hK, hD, hA, hX, hd1, hd2, hc1, hc2⟩ := F
  intro H locs ls hP hS hl
  exact lv_tableIn hx hb hdg h1 h2 ho ht (k H locs ls hP hS hl)
theorem j_tableOut {E : z_E} {own : String} {cc : ByteArray} {nL d pc : Nat} {L : z_L} {st : List Value} {μ : z_M} (F : z_F E own cc nL d) {dflt lo hi : Int} {offs : Array Int} {len : Nat} {x : Int32} {tgt : Nat} (hdg : decode cc pc = .ok (.tableswitch dflt lo hi offs, len)) (h : x.toInt < lo ∨ hi < x.toInt) (ht : (pc : Int) + dflt = (tgt : Int)) (k : z_J E nL tgt L st μ) : z_J E nL pc L (.int x :: st) μ := by
  obtain ⟨⟨l, D, ad, dA, sh⟩, p, e, R, s, m, args, below, meth, c, Q, A, kc, ks⟩ := E
  obtain ⟨hx, hb, hml, hown, hts, hK, hD, hA, hX, hd1, hd2, hc1, hc2⟩ := F
  intro H locs ls hP hS hl
  exact lv_tableOut hx hb hdg h ht (k H locs ls hP hS hl)
theorem j_mk {E : z_E} {own : String} {cc : ByteArray} {nL d pc : Nat} {L : z_L} {st : List Value} {μ : z_M} (F : z_F E own cc nL d) (b : List Bool) {L' : z_L} (hL : z_mk b L = L') (k : z_J E nL pc L' st μ) : z_J E nL pc L st μ := by
  obtain ⟨⟨l, D, ad, dA, sh⟩, p, e, R, s, m, args, below, meth, c, Q, A, kc, ks⟩ := E
  obtain ⟨hx, hb, hml, hown, hts, hK, hD, hA, hX, hd1, hd2, hc1, hc2⟩ := F
  intro H locs ls hP hS hl
  exact k H locs ls hP hS (hL ▸ hl.mk b)
theorem j_ldc2 {E : z_E} {own : String} {cc : ByteArray} {nL d pc : Nat} {L : z_L} {st : List Value} {μ : z_M} (F : z_F E own cc nL d) {index : Nat} {v : Int64} (hw : Cond.constantLong own index v ∈ z_T) (hdg : decode cc pc = .ok (.ldc2_w index, 3)) (k : z_J E nL (pc + 3) L (.long v :: st) μ) : z_J E nL pc L st μ := by
  obtain ⟨⟨l, D, ad, dA, sh⟩, p, e, R, s, m, args, below, meth, c, Q, A, kc, ks⟩ := E
  obtain ⟨hx, hb, hml, hown, hts, hK, hD, hA, hX, hd1, hd2, hc1, hc2⟩ := F
  intro H locs ls hP hS hl
  exact lv_ldc2 hx hb hown (hts _ hw) hdg (k H locs ls hP hS hl)
/-- field k of class ci, as own's pool spells it at idx -/
def z_fl (own : String) (idx ci k : Nat) : Prop := ∃ (C : String) (T : u_T) (N : Nat), z_cl[ci]? = some (C, T, N) ∧ k < N ∧ (∀ w ∈ u_ws C T N, w ∈ z_T) ∧ Cond.fieldLink own idx (T k).1 (T k).2.1 (T k).2.2.1 ∈ z_T
/-- it may be written; its type -/
def z_fp (ci k : Nat) (fin : Bool) (ty : FieldType) : Prop := ∃ (C : String) (T : u_T) (N : Nat) (tn : Nat → FieldType), z_cl[ci]? = some (C, T, N) ∧ (T k).2.2.2 = fin ∧ (T k).1 = C ∧ parseFieldDescriptor (T k).2.2.1 = some ty ∧ (∀ k, k < N → parseFieldDescriptor (T k).2.2.1 = some (tn k)) ∧ (∀ a, a < N → ∀ b, b < N → a ≠ b → (T a).2.1 ≠ (T b).2.1)
theorem z_fs_get {ad : Nat → Nat} {μ : z_M} {i k q : Nat} {ks : List Nat} (hk : ks[k]? = some q) : (ks.mapIdx (fun k q => z_f ad μ i k q))[k]? = some (z_f ad μ i k q) := by
  simp [List.getElem?_mapIdx, hk]
theorem j_getI {E : z_E} {own : String} {cc : ByteArray} {nL d pc : Nat} {L : z_L} {st : List Value} {μ : z_M} (F : z_F E own cc nL d) {o k ci idx : Nat} {fs : List Nat}  (hf : z_fl own idx ci k) (hs : (z_sh E.1)[o]? = some (.inr (ci, fs))) (hk : fs[k]? = some 0) (hdg : decode cc pc = .ok (.getfield idx, 3)) (kk : z_J E nL (pc + 3) L (.int (μ.1 o k) :: st) μ) : z_J E nL pc L (.ref o :: st) μ := by
  obtain ⟨⟨l, D, ad, dA, sh⟩, p, e, R, s, m, args, below, meth, c, Q, A, kc, ks⟩ := E
  obtain ⟨hx, hb, hml, hown, hts, hK, hD, hA, hX, hd1, hd2, hc1, hc2⟩ := F
  intro H locs ls hP hS hl
  obtain ⟨C, T, N, g1, g2, g3, g4⟩ := hf
  exact va_get (D := D) hx hb hts g3 hown hK hP o (z_w_get hs) g1 k g2 (hts _ g4) (fun _ h9 => h9) (z_fs_get hk) hdg (kk H locs ls hP hS hl)
theorem j_getL {E : z_E} {own : String} {cc : ByteArray} {nL d pc : Nat} {L : z_L} {st : List Value} {μ : z_M} (F : z_F E own cc nL d) {o k ci idx : Nat} {fs : List Nat}  (hf : z_fl own idx ci k) (hs : (z_sh E.1)[o]? = some (.inr (ci, fs))) (hk : fs[k]? = some 1) (hdg : decode cc pc = .ok (.getfield idx, 3)) (kk : z_J E nL (pc + 3) L (.long (μ.2.1 o k) :: st) μ) : z_J E nL pc L (.ref o :: st) μ := by
  obtain ⟨⟨l, D, ad, dA, sh⟩, p, e, R, s, m, args, below, meth, c, Q, A, kc, ks⟩ := E
  obtain ⟨hx, hb, hml, hown, hts, hK, hD, hA, hX, hd1, hd2, hc1, hc2⟩ := F
  intro H locs ls hP hS hl
  obtain ⟨C, T, N, g1, g2, g3, g4⟩ := hf
  exact va_get (D := D) hx hb hts g3 hown hK hP o (z_w_get hs) g1 k g2 (hts _ g4) (fun _ h9 => h9) (z_fs_get hk) hdg (kk H locs ls hP hS hl)
theorem j_getR {E : z_E} {own : String} {cc : ByteArray} {nL d pc : Nat} {L : z_L} {st : List Value} {μ : z_M} (F : z_F E own cc nL d) {o k ci idx : Nat} {fs : List Nat} {r : Nat} (hr : μ.2.2 o k = some r) (hf : z_fl own idx ci k) (hs : (z_sh E.1)[o]? = some (.inr (ci, fs))) (hk : fs[k]? = some 2) (hdg : decode cc pc = .ok (.getfield idx, 3)) (kk : z_J E nL (pc + 3) L (.ref r :: st) μ) : z_J E nL pc L (.ref o :: st) μ := by
  obtain ⟨⟨l, D, ad, dA, sh⟩, p, e, R, s, m, args, below, meth, c, Q, A, kc, ks⟩ := E
  obtain ⟨hx, hb, hml, hown, hts, hK, hD, hA, hX, hd1, hd2, hc1, hc2⟩ := F
  intro H locs ls hP hS hl
  obtain ⟨C, T, N, g1, g2, g3, g4⟩ := hf
  have hv : z_f ad μ o k 2 = .ref (ad r) := by simp [z_f, hr, va_rf]
  exact va_get (D := D) hx hb hts g3 hown hK hP o (z_w_get hs) g1 k g2 (hts _ g4) (fun _ h9 => h9) ((z_fs_get hk).trans (congrArg some hv)) hdg (kk H locs ls hP hS hl)
theorem j_putI {E : z_E} {own : String} {cc : ByteArray} {nL d pc : Nat} {L : z_L} {st : List Value} {μ : z_M} (F : z_F E own cc nL d) {o k ci idx : Nat} {fs : List Nat} {x : Int32}  (hf : z_fl own idx ci k) (hp : z_fp ci k false .int) (hs : (z_sh E.1)[o]? = some (.inr (ci, fs))) (hk : fs[k]? = some 0) (hdg : decode cc pc = .ok (.putfield idx, 3)) (kk : z_J E nL (pc + 3) L st (z_si μ o k x)) : z_J E nL pc L (.int x :: .ref o :: st) μ := by
  obtain ⟨⟨l, D, ad, dA, sh⟩, p, e, R, s, m, args, below, meth, c, Q, A, kc, ks⟩ := E
  obtain ⟨hx, hb, hml, hown, hts, hK, hD, hA, hX, hd1, hd2, hc1, hc2⟩ := F
  intro H locs ls hP hS hl
  obtain ⟨C, T, N, g1, g2, g3, g4⟩ := hf
  obtain ⟨C', T', N', tn, f1, f2, f3, f4, f5, f6⟩ := hp
  cases g1.symm.trans f1
  have hv : z_f ad (z_si μ o k x) o k 0 = z_v ad (.int x) := by simp [z_f, z_si, upd, z_v]
  refine va_put (D := D) hx hb hts g3 tn f5 f6 hown hK hP (hD μ) hS o (z_w_get hs) g1 k g2 (hts _ g4) (fun _ h9 => h9) f2 f4 rfl rfl (by have := (List.getElem?_eq_some_iff.mp hk).1; simpa using this) hdg (fun H1 locs1 hP1 hD1 hS1 => ?_)
  refine kk H1 locs1 ls ?_ hS1 hl
  rw [← z_w_set hs z_e_si]
  rw [← hv, z_fs_set hk z_f_si] at hP1
  exact hP1
theorem j_putZ {E : z_E} {own : String} {cc : ByteArray} {nL d pc : Nat} {L : z_L} {st : List Value} {μ : z_M} (F : z_F E own cc nL d) {o k ci idx : Nat} {fs : List Nat} {x : Int32} (hz : x = 0 ∨ x = 1)  (hf : z_fl own idx ci k) (hp : z_fp ci k false .boolean) (hs : (z_sh E.1)[o]? = some (.inr (ci, fs))) (hk : fs[k]? = some 0) (hdg : decode cc pc = .ok (.putfield idx, 3)) (kk : z_J E nL (pc + 3) L st (z_si μ o k x)) : z_J E nL pc L (.int x :: .ref o :: st) μ := by
  obtain ⟨⟨l, D, ad, dA, sh⟩, p, e, R, s, m, args, below, meth, c, Q, A, kc, ks⟩ := E
  obtain ⟨hx, hb, hml, hown, hts, hK, hD, hA, hX, hd1, hd2, hc1, hc2⟩ := F
  intro H locs ls hP hS hl
  obtain ⟨C, T, N, g1, g2, g3, g4⟩ := hf
  obtain ⟨C', T', N', tn, f1, f2, f3, f4, f5, f6⟩ := hp
  cases g1.symm.trans f1
  have hv : z_f ad (z_si μ o k x) o k 0 = z_v ad (.int x) := by simp [z_f, z_si, upd, z_v]
  refine va_put (D := D) hx hb hts g3 tn f5 f6 hown hK hP (hD μ) hS o (z_w_get hs) g1 k g2 (hts _ g4) (fun _ h9 => h9) f2 f4 (by rcases hz with rfl | rfl <;> rfl) (by rcases hz with rfl | rfl <;> rfl) (by have := (List.getElem?_eq_some_iff.mp hk).1; simpa using this) hdg (fun H1 locs1 hP1 hD1 hS1 => ?_)
  refine kk H1 locs1 ls ?_ hS1 hl
  rw [← z_w_set hs z_e_si]
  rw [← hv, z_fs_set hk z_f_si] at hP1
  exact hP1
theorem j_putL {E : z_E} {own : String} {cc : ByteArray} {nL d pc : Nat} {L : z_L} {st : List Value} {μ : z_M} (F : z_F E own cc nL d) {o k ci idx : Nat} {fs : List Nat} {x : Int64}  (hf : z_fl own idx ci k) (hp : z_fp ci k false .long) (hs : (z_sh E.1)[o]? = some (.inr (ci, fs))) (hk : fs[k]? = some 1) (hdg : decode cc pc = .ok (.putfield idx, 3)) (kk : z_J E nL (pc + 3) L st (z_sl μ o k x)) : z_J E nL pc L (.long x :: .ref o :: st) μ := by
  obtain ⟨⟨l, D, ad, dA, sh⟩, p, e, R, s, m, args, below, meth, c, Q, A, kc, ks⟩ := E
  obtain ⟨hx, hb, hml, hown, hts, hK, hD, hA, hX, hd1, hd2, hc1, hc2⟩ := F
  intro H locs ls hP hS hl
  obtain ⟨C, T, N, g1, g2, g3, g4⟩ := hf
  obtain ⟨C', T', N', tn, f1, f2, f3, f4, f5, f6⟩ := hp
  cases g1.symm.trans f1
  have hv : z_f ad (z_sl μ o k x) o k 1 = z_v ad (.long x) := by simp [z_f, z_sl, vp_updL, z_v]
  refine va_put (D := D) hx hb hts g3 tn f5 f6 hown hK hP (hD μ) hS o (z_w_get hs) g1 k g2 (hts _ g4) (fun _ h9 => h9) f2 f4 rfl rfl (by have := (List.getElem?_eq_some_iff.mp hk).1; simpa using this) hdg (fun H1 locs1 hP1 hD1 hS1 => ?_)
  refine kk H1 locs1 ls ?_ hS1 hl
  rw [← z_w_set hs z_e_sl]
  rw [← hv, z_fs_set hk z_f_sl] at hP1
  exact hP1
theorem j_putR {E : z_E} {own : String} {cc : ByteArray} {nL d pc : Nat} {L : z_L} {st : List Value} {μ : z_M} (F : z_F E own cc nL d) {o k ci idx : Nat} {fs : List Nat} {r : Nat} {tr : FieldType} (htr : (∃ C, tr = .object C) ∨ ∃ t, tr = .array t)  (hf : z_fl own idx ci k) (hp : z_fp ci k false tr) (hs : (z_sh E.1)[o]? = some (.inr (ci, fs))) (hk : fs[k]? = some 2) (hdg : decode cc pc = .ok (.putfield idx, 3)) (kk : z_J E nL (pc + 3) L st (z_sr μ o k (some r))) : z_J E nL pc L (.ref r :: .ref o :: st) μ := by
  obtain ⟨⟨l, D, ad, dA, sh⟩, p, e, R, s, m, args, below, meth, c, Q, A, kc, ks⟩ := E
  obtain ⟨hx, hb, hml, hown, hts, hK, hD, hA, hX, hd1, hd2, hc1, hc2⟩ := F
  intro H locs ls hP hS hl
  obtain ⟨C, T, N, g1, g2, g3, g4⟩ := hf
  obtain ⟨C', T', N', tn, f1, f2, f3, f4, f5, f6⟩ := hp
  cases g1.symm.trans f1
  have hv : z_f ad (z_sr μ o k (some r)) o k 2 = z_v ad (.ref r) := by simp [z_f, z_sr, va_up, va_rf, z_v]
  refine va_put (D := D) hx hb hts g3 tn f5 f6 hown hK hP (hD μ) hS o (z_w_get hs) g1 k g2 (hts _ g4) (fun _ h9 => h9) f2 f4 (by rcases htr with ⟨C, rfl⟩ | ⟨t, rfl⟩ <;> rfl) (by rcases htr with ⟨C, rfl⟩ | ⟨t, rfl⟩ <;> rfl) (by have := (List.getElem?_eq_some_iff.mp hk).1; simpa using this) hdg (fun H1 locs1 hP1 hD1 hS1 => ?_)
  refine kk H1 locs1 ls ?_ hS1 hl
  rw [← z_w_set hs z_e_sr]
  rw [← hv, z_fs_set hk z_f_sr] at hP1
  exact hP1
theorem j_putRF {E : z_E} {own : String} {cc : ByteArray} {nL d pc : Nat} {L : z_L} {st : List Value} {μ : z_M} (F : z_F E own cc nL d) {o k ci idx : Nat} {fs : List Nat} {r : Nat} {tr : FieldType} (htr : (∃ C, tr = .object C) ∨ ∃ t, tr = .array t) (hinit : E.2.2.2.2.2.2.2.2.1.name = "<init>") (hC : ∀ C T N, z_cl[ci]? = some (C, T, N) → C = own) (hf : z_fl own idx ci k) (hp : z_fp ci k true tr) (hs : (z_sh E.1)[o]? = some (.inr (ci, fs))) (hk : fs[k]? = some 2) (hdg : decode cc pc = .ok (.putfield idx, 3)) (kk : z_J E nL (pc + 3) L st (z_sr μ o k (some r))) : z_J E nL pc L (.ref r :: .ref o :: st) μ := by
  obtain ⟨⟨l, D, ad, dA, sh⟩, p, e, R, s, m, args, below, meth, c, Q, A, kc, ks⟩ := E
  obtain ⟨hx, hb, hml, hown, hts, hK, hD, hA, hX, hd1, hd2, hc1, hc2⟩ := F
  intro H locs ls hP hS hl
  obtain ⟨C, T, N, g1, g2, g3, g4⟩ := hf
  obtain ⟨C', T', N', tn, f1, f2, f3, f4, f5, f6⟩ := hp
  cases g1.symm.trans f1
  have hv : z_f ad (z_sr μ o k (some r)) o k 2 = z_v ad (.ref r) := by simp [z_f, z_sr, va_up, va_rf, z_v]
  refine va_putF (D := D) hx hb hts g3 tn f5 f6 hown hK hP (hD μ) hS o (z_w_get hs) g1 k g2 (hts _ g4) (fun _ h9 => h9) f2 hinit (f3.trans (hC _ _ _ g1)) f4 (by rcases htr with ⟨C, rfl⟩ | ⟨t, rfl⟩ <;> rfl) (by rcases htr with ⟨C, rfl⟩ | ⟨t, rfl⟩ <;> rfl) (by have := (List.getElem?_eq_some_iff.mp hk).1; simpa using this) hdg (fun H1 locs1 hP1 hD1 hS1 => ?_)
  refine kk H1 locs1 ls ?_ hS1 hl
  rw [← z_w_set hs z_e_sr]
  rw [← hv, z_fs_set hk z_f_sr] at hP1
  exact hP1
theorem j_iald {E : z_E} {own : String} {cc : ByteArray} {nL d pc : Nat} {L : z_L} {st : List Value} {μ : z_M} (F : z_F E own cc nL d) {a n : Nat} {i : Int32} (hs : (z_sh E.1)[a]? = some (.inl (0, n))) (hin : vp_in i n) (hdg : decode cc pc = .ok (.iaload, 1)) (kk : z_J E nL (pc + 1) L (.int (μ.1 a i.toNatClampNeg) :: st) μ) : z_J E nL pc L (.int i :: .ref a :: st) μ := by
  obtain ⟨⟨l, D, ad, dA, sh⟩, p, e, R, s, m, args, below, meth, c, Q, A, kc, ks⟩ := E
  obtain ⟨hx, hb, hml, hown, hts, hK, hD, hA, hX, hd1, hd2, hc1, hc2⟩ := F
  intro H locs ls hP hS hl
  exact va_iald (f := μ.1 a) hx hb hK hP a 0 (z_w_get hs) rfl hin hdg (kk H locs ls hP hS hl)
theorem j_zald {E : z_E} {own : String} {cc : ByteArray} {nL d pc : Nat} {L : z_L} {st : List Value} {μ : z_M} (F : z_F E own cc nL d) {a n : Nat} {i : Int32} (hs : (z_sh E.1)[a]? = some (.inl (1, n))) (hin : vp_in i n) (hdg : decode cc pc = .ok (.baload, 1)) (kk : z_J E nL (pc + 1) L (.int (μ.1 a i.toNatClampNeg) :: st) μ) : z_J E nL pc L (.int i :: .ref a :: st) μ := by
  obtain ⟨⟨l, D, ad, dA, sh⟩, p, e, R, s, m, args, below, meth, c, Q, A, kc, ks⟩ := E
  obtain ⟨hx, hb, hml, hown, hts, hK, hD, hA, hX, hd1, hd2, hc1, hc2⟩ := F
  intro H locs ls hP hS hl
  exact va_zald (f := μ.1 a) hx hb hK hP a 1 (z_w_get hs) rfl hin hdg (kk H locs ls hP hS hl)
theorem j_iast {E : z_E} {own : String} {cc : ByteArray} {nL d pc : Nat} {L : z_L} {st : List Value} {μ : z_M} (F : z_F E own cc nL d) {a n : Nat} {i x : Int32} (hs : (z_sh E.1)[a]? = some (.inl (0, n))) (hin : vp_in i n) (hdg : decode cc pc = .ok (.iastore, 1)) (kk : z_J E nL (pc + 1) L st (z_si μ a i.toNatClampNeg x)) : z_J E nL pc L (.int x :: .int i :: .ref a :: st) μ := by
  obtain ⟨⟨l, D, ad, dA, sh⟩, p, e, R, s, m, args, below, meth, c, Q, A, kc, ks⟩ := E
  obtain ⟨hx, hb, hml, hown, hts, hK, hD, hA, hX, hd1, hd2, hc1, hc2⟩ := F
  intro H locs ls hP hS hl
  refine va_iast (f := μ.1 a) hx hb hK hP (hD μ) hS a 0 (z_w_get hs) rfl hin hdg (fun H1 locs1 hP1 hD1 hS1 => ?_)
  refine kk H1 locs1 ls ?_ hS1 hl
  rw [← z_w_set hs z_e_si]
  have e : z_e ad dA (z_si μ a i.toNatClampNeg x) a (.inl (0, n)) = .inl (dA 0, n, .inl (upd (μ.1 a) i.toNatClampNeg x)) := by simp [z_e, z_si]
  rw [e]
  exact hP1
theorem j_zast {E : z_E} {own : String} {cc : ByteArray} {nL d pc : Nat} {L : z_L} {st : List Value} {μ : z_M} (F : z_F E own cc nL d) {a n : Nat} {i x : Int32} (hs : (z_sh E.1)[a]? = some (.inl (1, n))) (hin : vp_in i n) (hdg : decode cc pc = .ok (.bastore, 1)) (kk : z_J E nL (pc + 1) L st (z_si μ a i.toNatClampNeg (x &&& 1))) : z_J E nL pc L (.int x :: .int i :: .ref a :: st) μ := by
  obtain ⟨⟨l, D, ad, dA, sh⟩, p, e, R, s, m, args, below, meth, c, Q, A, kc, ks⟩ := E
  obtain ⟨hx, hb, hml, hown, hts, hK, hD, hA, hX, hd1, hd2, hc1, hc2⟩ := F
  intro H locs ls hP hS hl
  refine va_zast (f := μ.1 a) hx hb hK hP (hD μ) hS a 1 (z_w_get hs) rfl hin hdg (fun H1 locs1 hP1 hD1 hS1 => ?_)
  refine kk H1 locs1 ls ?_ hS1 hl
  rw [← z_w_set hs z_e_si]
  have e : z_e ad dA (z_si μ a i.toNatClampNeg (x &&& 1)) a (.inl (1, n)) = .inl (dA 1, n, .inl (upd (μ.1 a) i.toNatClampNeg (x &&& 1))) := by simp [z_e, z_si]
  rw [e]
  exact hP1
theorem j_alen {E : z_E} {own : String} {cc : ByteArray} {nL d pc : Nat} {L : z_L} {st : List Value} {μ : z_M} (F : z_F E own cc nL d) {a n t : Nat} {v : Int32} (hs : (z_sh E.1)[a]? = some (.inl (t, n))) (ht : t < 5) (hv : Int32.ofNat n = v) (hdg : decode cc pc = .ok (.arraylength, 1)) (kk : z_J E nL (pc + 1) L (.int v :: st) μ) : z_J E nL pc L (.ref a :: st) μ := by
  obtain ⟨⟨l, D, ad, dA, sh⟩, p, e, R, s, m, args, below, meth, c, Q, A, kc, ks⟩ := E
  obtain ⟨hx, hb, hml, hown, hts, hK, hD, hA, hX, hd1, hd2, hc1, hc2⟩ := F
  intro H locs ls hP hS hl
  have hq : ∃ ty, (z_tys dA)[t]? = some (dA t, ty) := by
    match t, ht with
    | 0, _ => exact ⟨_, rfl⟩
    | 1, _ => exact ⟨_, rfl⟩
    | 2, _ => exact ⟨_, rfl⟩
    | 3, _ => exact ⟨_, rfl⟩
    | 4, _ => exact ⟨_, rfl⟩
  obtain ⟨ty, hq⟩ := hq
  exact va_alen hx hb hK hP a t (z_w_get hs) hq hv hdg (kk H locs ls hP hS hl)
theorem j_aald {E : z_E} {own : String} {cc : ByteArray} {nL d pc : Nat} {L : z_L} {st : List Value} {μ : z_M} (F : z_F E own cc nL d) {a n t r : Nat} {i : Int32} (hs : (z_sh E.1)[a]? = some (.inl (t, n))) (ht : 2 ≤ t ∧ t < 5) (hin : vp_in i n) (hr : μ.2.2 a i.toNatClampNeg = some r) (hdg : decode cc pc = .ok (.aaload, 1)) (kk : z_J E nL (pc + 1) L (.ref r :: st) μ) : z_J E nL pc L (.int i :: .ref a :: st) μ := by
  obtain ⟨⟨l, D, ad, dA, sh⟩, p, e, R, s, m, args, below, meth, c, Q, A, kc, ks⟩ := E
  obtain ⟨hx, hb, hml, hown, hts, hK, hD, hA, hX, hd1, hd2, hc1, hc2⟩ := F
  intro H locs ls hP hS hl
  have hq : ∃ ty, (z_tys dA)[t]? = some (dA t, ty) ∧ ty.isReference = true := by
    match t, ht with
    | 2, _ => exact ⟨_, rfl, rfl⟩
    | 3, _ => exact ⟨_, rfl, rfl⟩
    | 4, _ => exact ⟨_, rfl, rfl⟩
  obtain ⟨ty, hq, hty⟩ := hq
  have hlt : i.toNatClampNeg < n := Nat.not_le.mp fun q => hin (Or.inr q)
  have e : z_e ad dA μ a (.inl (t, n)) = .inl (dA t, n, .inr (.inr (.inr (.inr (fun k => (μ.2.2 a k).map ad))))) := by
    simp only [z_e]
    rw [if_neg (by omega)]
  have hc := hP a _ (z_w_get hs)
  rw [e] at hc
  refine W.aald (v := .ref (ad r)) (ty := ty) hx hb hc ((hK.2 t _ hq).1 n (fun j => va_rf ((μ.2.2 a j).map ad))) hty (fun q => by cases q) (by show ¬ (i < 0 ∨ (arrV _ _ _).slots.size ≤ _); rw [arrV_size]; exact hin) (by show (arrV _ _ _).slots[_]? = _; rw [arrV_read _ _ hlt]; simp [hr, va_rf]) rfl rfl hdg (kk H locs ls hP hS hl)
theorem j_aast {E : z_E} {own : String} {cc : ByteArray} {nL d pc : Nat} {L : z_L} {st : List Value} {μ : z_M} (F : z_F E own cc nL d) {a n t r ci : Nat} {fs : List Nat} {i : Int32} (q0 : vw_C) (hs : (z_sh E.1)[a]? = some (.inl (t, n))) (ht : (t = 2 ∧ ci = 0) ∨ (t = 3 ∧ ci = 3)) (hin : vp_in i n) (hr : (z_sh E.1)[r]? = some (.inr (ci, fs))) (hdg : decode cc pc = .ok (.aastore, 1)) (kk : z_J E nL (pc + 1) L st (z_sr μ a i.toNatClampNeg (some r))) : z_J E nL pc L (.ref r :: .int i :: .ref a :: st) μ := by
  obtain ⟨⟨l, D, ad, dA, sh⟩, p, e, R, s, m, args, below, meth, c, Q, A, kc, ks⟩ := E
  obtain ⟨hx, hb, hml, hown, hts, hK, hD, hA, hX, hd1, hd2, hc1, hc2⟩ := F
  intro H locs ls hP hS hl
  have hq : ∃ q0 : vw_C, z_cl[ci]? = some q0 ∧ (z_tys dA)[t]? = some (dA t, .object q0.1) ∧ 2 ≤ t := by
    rcases ht with ⟨rfl, rfl⟩ | ⟨rfl, rfl⟩
    · exact ⟨_, rfl, rfl, by omega⟩
    · exact ⟨_, rfl, rfl, by omega⟩
  obtain ⟨q0, hq1, hq2, hq3⟩ := hq
  have e : ∀ ν : z_M, z_e ad dA ν a (.inl (t, n)) = .inl (dA t, n, .inr (.inr (.inr (.inr (fun k => (ν.2.2 a k).map ad))))) := by
    intro ν
    simp only [z_e]
    rw [if_neg (by omega)]
  refine va_astq (r := q0) hx hb hK hP (hD μ) hS a t r ci (by rw [z_w_get hs, e]) hq2 (z_w_get hr) hq1 hin hdg (fun H1 locs1 hP1 hD1 hS1 => ?_)
  refine kk H1 locs1 ls ?_ hS1 hl
  rw [← z_w_set hs z_e_sr, e]
  have e2 : (fun k => ((z_sr μ a i.toNatClampNeg (some r)).2.2 a k).map ad) = va_up (fun k => (μ.2.2 a k).map ad) i.toNatClampNeg (some (ad r)) := by
    funext k
    by_cases hk : k = i.toNatClampNeg
    · simp [z_sr, va_up, hk]
    · simp [z_sr, va_up, hk]
  rw [e2]
  exact hP1
theorem j_iret {E : z_E} {own : String} {cc : ByteArray} {nL d pc : Nat} {L : z_L} {st : List Value} {μ : z_M} (F : z_F E own cc nL d) {ret : FieldType} {P : Option Value → z_M → Prop} (Rt : z_R E (some ret) P) {x : Int32} (hn : narrow ret (.int x) = .int x) (hdg : decode cc pc = .ok (.ireturn, 1)) (h : P (some (.int x)) μ) : z_J E nL pc L [.int x] μ := by
  obtain ⟨⟨l, D, ad, dA, sh⟩, p, e, R, s, m, args, below, meth, c, Q, A, kc, ks⟩ := E
  obtain ⟨hx, hb, hml, hown, hts, hK, hD, hA, hX, hd1, hd2, hc1, hc2⟩ := F
  obtain ⟨hlocks, hr, rfl⟩ := Rt
  intro H locs ls hP hS hl
  exact W.zret hx hb hr hn (fun t ht hW => ⟨⟨some (.int x), μ, rfl, h, by rw [ht]; exact hP⟩, hS.F ht⟩) hS.2.2 hdg hlocks
theorem j_lret {E : z_E} {own : String} {cc : ByteArray} {nL d pc : Nat} {L : z_L} {st : List Value} {μ : z_M} (F : z_F E own cc nL d) {P : Option Value → z_M → Prop} (Rt : z_R E (some .long) P) {x : Int64} (hdg : decode cc pc = .ok (.lreturn, 1)) (h : P (some (.long x)) μ) : z_J E nL pc L [.long x] μ := by
  obtain ⟨⟨l, D, ad, dA, sh⟩, p, e, R, s, m, args, below, meth, c, Q, A, kc, ks⟩ := E
  obtain ⟨hx, hb, hml, hown, hts, hK, hD, hA, hX, hd1, hd2, hc1, hc2⟩ := F
  obtain ⟨hlocks, hr, rfl⟩ := Rt
  intro H locs ls hP hS hl
  exact W.lret hx hb hr (fun t ht hW => ⟨⟨some (.long x), μ, rfl, h, by rw [ht]; exact hP⟩, hS.F ht⟩) hS.2.2 hdg hlocks
theorem j_vret {E : z_E} {own : String} {cc : ByteArray} {nL d pc : Nat} {L : z_L} {st : List Value} {μ : z_M} (F : z_F E own cc nL d) {P : Option Value → z_M → Prop} (Rt : z_R E none P) (hdg : decode cc pc = .ok (.return_, 1)) (h : P none μ) : z_J E nL pc L [] μ := by
  obtain ⟨⟨l, D, ad, dA, sh⟩, p, e, R, s, m, args, below, meth, c, Q, A, kc, ks⟩ := E
  obtain ⟨hx, hb, hml, hown, hts, hK, hD, hA, hX, hd1, hd2, hc1, hc2⟩ := F
  obtain ⟨hlocks, hr, rfl⟩ := Rt
  intro H locs ls hP hS hl
  exact W.vret hx hb hr (fun t ht hW => ⟨⟨none, μ, rfl, h, by rw [ht]; exact hP⟩, hS.F ht⟩) hS.2.2 hdg hlocks
end
section
/-! THE ROWS OF CALLS -/
section ZGo
variable {p : Program} {l : Launch} {e : Env} {R : Room} {s : State} {m : MethodId} {args : Array Value} {below : List Frame} {meth : Method} {c : Code} {H : Heap} {locs : List Loc} {kc ks : Nat} {Q : State → Prop} {D : va_G} {ad : Nat → Nat} {dA : Nat → ClassId} {sh : List z_H} {A : Nat → Prop} {pc : Nat} {ls : Array Slot}
theorem z_go {rest st0 : List Value} {a : Array Value} {A1 : Nat → Prop} {free : Addr → Prop} {P : Option Value → z_M → Prop} (hr : va_Run p l e R s m args below meth c H locs kc ks 0 0 (F0 m pc ls st0) rest (z_Qc (l, D, ad, dA, sh) A1 P a) free) (hS : va_S A s.heap H locs) (hA : ∀ q, q < H.size → A1 q → A q) (hf : ∀ q, free q → A q)
    (kk : ∀ (v : Option Value) (μ' : z_M) (H1 : Heap) (locs1 : List Loc), P v μ' → va_P D z_cl (z_w ad dA sh μ') H1 → va_S A s.heap H1 locs1 → W p l e R s m args below meth c H1 locs1 kc ks Q (F0 m (pc + 3) ls ((v.map (z_v ad)).toList ++ rest))) : W p l e R s m args below meth c H locs kc ks Q (F0 m pc ls st0) := by
  intro T hT X
  obtain ⟨v, st₀, t, T', L, h0, X', hL, e1, e2, ⟨⟨w, μ', hv, hp, hb⟩, hz, hk⟩, st⟩ := hr T hT X
  cases hv
  rw [h0] at hz hk
  obtain ⟨t2, a1, b1⟩ := kk w μ' T'.heap (locs ++ L) hp (by rw [e1]; exact hb)
    ⟨Nat.le_trans hS.1 (by rw [e1]; exact hz), fun q h1 h2 => by rw [e1, hk q (Nat.lt_of_lt_of_le h1 hS.1) (fun z => h2 (hA q (Nat.lt_of_lt_of_le h1 hS.1) z))]; exact hS.2.1 q h1 h2, fun q hq => by
      rcases List.mem_append.mp hq with h | h
      · exact hS.2.2 q h
      · exact hf _ (hL q h)⟩ T' rfl X'
  exact ⟨t2, st t2 a1, b1⟩
end ZGo
theorem z_app {ad : Nat → Nat} (v : Option Value) (st : List Value) : (v.toList ++ st).map (z_v ad) = (v.map (z_v ad)).toList ++ st.map (z_v ad) := by
  cases v <;> simp
theorem z_cats {ad : Nat → Nat} (st : List Value) : ((st.map (z_v ad)).map fun v => v.category).sum = (st.map fun v => v.category).sum := by
  rw [List.map_map]
  congr 1
  apply List.map_congr_left
  intro v _
  exact z_v_cat
/-- the start of a contract doesn't look at frames -/
theorem z_blind {G : z_Gl} {av : List Value} {μ : z_M} {sz : Nat} : FrameBlind (va_Pc av (z_pre G μ sz)) := by
  obtain ⟨l, D, ad, dA, sh⟩ := G
  intro a U g mk h
  obtain ⟨q0, q1, qP, qK, qD, qX⟩ := h
  exact ⟨q0, q1, qP, va_K.moved (u := U) (U := U.calling g mk a) (Vm.Alike.refl U.vm) qK, qD, qX.same rfl⟩
theorem z_start {l : Launch} {D : va_G} {ad : Nat → Nat} {dA : Nat → ClassId} {sh : List z_H} {A : Nat → Prop} {s U : State} {H : Heap} {locs : List Loc} {av : List Value} {μ : z_M} (hK : va_K D z_cl (z_tys dA) s) (hD : va_D A (z_w ad dA sh μ)) (hA : ∀ q, s.heap.size ≤ q → A q) (hX : z_X ad A s s.heap) (hP : va_P D z_cl (z_w ad dA sh μ) H) (hS : va_S A s.heap H locs) (hU : U.heap = H) (hW : s.WarmedH U.vm) : va_Pc (av.map (z_v ad)) (z_pre (l, D, ad, dA, sh) μ H.size) (av.map (z_v ad)).toArray U := by
  refine ⟨rfl, by rw [hU], by rw [hU]; exact hP, va_K.moved hW.alike hK, hD.weaken (fun _ _ _ _ => trivial), ?_⟩
  rw [hU]
  refine hX.to hW hS.2.1 (fun q h => ?_)
  rcases h with ⟨k, e, h⟩ | h
  · exact hD.2 k _ h
  · exact hA q (Nat.le_trans hS.1 h)
theorem z_inA {ad : Nat → Nat} {dA : Nat → ClassId} {sh : List z_H} {A : Nat → Prop} {s : State} {H : Heap} {locs : List Loc} {μ : z_M} (hD : va_D A (z_w ad dA sh μ)) (hA : ∀ q, s.heap.size ≤ q → A q) (hS : va_S A s.heap H locs) : ∀ q, va_A (z_w ad dA sh μ) H.size q → A q := by
  intro q h
  rcases h with ⟨k, e, h⟩ | h
  · exact hD.2 k _ h
  · exact hA q (Nat.le_trans hS.1 h)
/-- what the tables say of a method -/
def z_Yc (y : MethodName) (cc : ByteArray) (nL : Nat) (ret : Option FieldType) (n : Nat) : Prop := Cond.code y cc nL ret ∈ z_T ∧ Cond.initialized y.cls ∈ z_T ∧ (y.cls ≠ "java/lang/invoke/MethodHandle" ∧ y.cls ≠ "java/lang/invoke/VarHandle" ∧ (parseMethodDescriptor y.desc).map (fun d => d.parameters.length) = some n) ∧ nL ≤ 17
def z_Yv (y : MethodName) : Prop := Cond.instanceMethod y ∈ z_T ∧ Cond.selects y.cls y y ∈ z_T
theorem z_code_good {y : MethodName} {cc : ByteArray} {nL : Nat} {ret : Option FieldType} (h : Cond.code y cc nL ret ∈ z_T) : GoodIn z_T (Cond.code y cc nL ret :: z_T) := by
  intro w hw
  rcases List.mem_cons.mp hw with rfl | hw
  · exact z_T_good _ h
  · exact z_T_good _ hw
section ZCall
variable {E : z_E} {own : String} {cc : ByteArray} {nL d pc : Nat} {L : z_L} {st st0 : List Value} {μ : z_M}
theorem j_callV (F : z_F E own cc nL d) {y : MethodName} {yc : ByteArray} {yL n yd o ci idx : Nat} {ret : Option FieldType} {As : List Value} {fs : List Nat} {P : Option Value → z_M → Prop} (hM : z_C0 E.1 y yc yL ret yd (.ref o :: As) μ P) (hc : z_Yc y yc yL ret n) (hv : z_Yv y) (hlk : Cond.methodLink own idx y ∈ z_T)
    (hs : (z_sh E.1)[o]? = some (.inr (ci, fs))) (hcl : (z_cl[ci]?).map (fun q => q.1) = some y.cls) (hn : As.length = n) (hd : yd + 1 ≤ d) (hst : (st.map fun v => v.category).sum ≤ 8) (h0 : st0 = As.reverse ++ .ref o :: st) (hdg : decode cc pc = .ok (.invokevirtual idx, 3))
    (k : ∀ (v : Option Value) (μ' : z_M), P v μ' → z_J E nL (pc + 3) L (v.toList ++ st) μ') : z_J E nL pc L st0 μ := by
  obtain ⟨⟨l, D, ad, dA, sh⟩, p, e, R, s, m, args, below, meth, c, Q, A, kc, ks⟩ := E
  obtain ⟨hx, hb, hml, hown, hts, hK, hD, hA, hX, hd1, hd2, hc1, hc2⟩ := F
  obtain ⟨y1, y2, y3, y4⟩ := hc
  obtain ⟨v1, v2⟩ := hv
  intro H locs ls hP hS hl
  subst h0
  cases hcq : z_cl[ci]? with
  | none => rw [hcq] at hcl; cases hcl
  | some q =>
    have hq1 : q.1 = y.cls := by rw [hcq] at hcl; exact Option.some.inj hcl
    have hrun := va_runV (l := l) (e := e) (below := below) (meth := meth) (locs := locs) (cells := kc) (slots := ks) (p := p) (R := R) (g := F0 m pc ls ((As.reverse ++ .ref o :: st).map (z_v ad))) (As := As.map (z_v ad)) (rest := st.map (z_v ad)) (b := ad o) (C := y.cls) (n := n) (Ts := z_T) (own := own) (cc := cc) (nL := nL) (index := idx) ⟨hx, hb, hml, hown, hts⟩ (hM H.size)
      ⟨callB_of n hts (z_code_good y1) rfl rfl rfl (hts _ y2) (hts _ hlk) y3 ⟨by show yd + 1 ≤ _; omega, by show 8 + (yL + 11) + 36 * yd ≤ _; omega⟩, hts _ v1, hts _ v2⟩
      ⟨z_blind, by rw [← hq1]; exact va_recv hK hP hcq (z_w_get hs), fun U hU hW => z_start (av := .ref o :: As) hK (hD μ) hA hX hP hS hU hW⟩ rfl (by simpa using hn) hl.1 (by simp [List.map_reverse, z_v]) (lv_room (by rw [z_cats]; exact hst)) hdg ⟨hc1, hc2⟩
    exact z_go hrun hS (fun q _ h => z_inA (hD μ) hA hS q h) (fun q h => z_inA (hD μ) hA hS q h) (fun v μ' H1 locs1 hp hP1 hS1 => by
      have := k v μ' hp H1 locs1 ls hP1 hS1 hl
      rw [z_app] at this
      exact this)
theorem j_callS (F : z_F E own cc nL d) {y : MethodName} {yc : ByteArray} {yL n yd idx : Nat} {ret : Option FieldType} {As : List Value} {P : Option Value → z_M → Prop} (hM : z_C0 E.1 y yc yL ret yd As μ P) (hc : z_Yc y yc yL ret n) (hv : Cond.static y ∈ z_T) (hlk : Cond.methodLink own idx y ∈ z_T)
    (hn : As.length = n) (hd : yd + 1 ≤ d) (hst : (st.map fun v => v.category).sum ≤ 8) (h0 : st0 = As.reverse ++ st) (hdg : decode cc pc = .ok (.invokestatic idx, 3))
    (k : ∀ (v : Option Value) (μ' : z_M), P v μ' → z_J E nL (pc + 3) L (v.toList ++ st) μ') : z_J E nL pc L st0 μ := by
  obtain ⟨⟨l, D, ad, dA, sh⟩, p, e, R, s, m, args, below, meth, c, Q, A, kc, ks⟩ := E
  obtain ⟨hx, hb, hml, hown, hts, hK, hD, hA, hX, hd1, hd2, hc1, hc2⟩ := F
  obtain ⟨y1, y2, y3, y4⟩ := hc
  intro H locs ls hP hS hl
  subst h0
  have hrun := va_runS (l := l) (e := e) (below := below) (meth := meth) (locs := locs) (cells := kc) (slots := ks) (p := p) (R := R) (g := F0 m pc ls ((As.reverse ++ st).map (z_v ad))) (As := As.map (z_v ad)) (rest := st.map (z_v ad)) (n := n) (Ts := z_T) (own := own) (cc := cc) (nL := nL) (index := idx) ⟨hx, hb, hml, hown, hts⟩ (hM H.size)
    ⟨callB_of n hts (z_code_good y1) rfl rfl rfl (hts _ y2) (hts _ hlk) y3 ⟨by show yd + 1 ≤ _; omega, by show 8 + (yL + 11) + 36 * yd ≤ _; omega⟩, hts _ hv⟩
    ⟨z_blind, fun U hU hW => z_start (av := As) hK (hD μ) hA hX hP hS hU hW⟩ rfl (by simpa using hn) hl.1 (by simp [List.map_reverse]) (lv_room (by rw [z_cats]; exact hst)) hdg ⟨hc1, hc2⟩
  exact z_go hrun hS (fun q _ h => z_inA (hD μ) hA hS q h) (fun q h => z_inA (hD μ) hA hS q h) (fun v μ' H1 locs1 hp hP1 hS1 => by
    have := k v μ' hp H1 locs1 ls hP1 hS1 hl
    rw [z_app] at this
    exact this)
theorem j_callSN (F : z_F E own cc nL d) {y : MethodName} {yc : ByteArray} {yL n yd idx : Nat} {ret : Option FieldType} {As : List Value} {P : Option Value → z_M → Prop} (hM : z_C0 E.1 y yc yL ret yd As μ P) (hc : z_Yc y yc yL ret n) (hv : Cond.static y ∈ z_T) (hlk : (own, idx, y) ∈ z_NW)
    (hn : As.length = n) (hd : yd + 1 ≤ d) (hst : (st.map fun v => v.category).sum ≤ 8) (h0 : st0 = As.reverse ++ st) (hdg : decode cc pc = .ok (.invokestatic idx, 3))
    (k : ∀ (v : Option Value) (μ' : z_M), P v μ' → z_J E nL (pc + 3) L (v.toList ++ st) μ') : z_J E nL pc L st0 μ := by
  obtain ⟨⟨l, D, ad, dA, sh⟩, p, e, R, s, m, args, below, meth, c, Q, A, kc, ks⟩ := E
  obtain ⟨hx, hb, hml, hown, hts, hK, hD, hA, hX, hd1, hd2, hc1, hc2⟩ := F
  obtain ⟨y1, y2, y3, y4⟩ := hc
  intro H locs ls hP hS hl
  subst h0
  have hrun := va_runSN (l := l) (e := e) (below := below) (meth := meth) (locs := locs) (cells := kc) (slots := ks) (p := p) (R := R) (g := F0 m pc ls ((As.reverse ++ st).map (z_v ad))) (As := As.map (z_v ad)) (rest := st.map (z_v ad)) (n := n) (Ts := z_T) (own := own) (cc := cc) (nL := nL) (index := idx) ⟨hx, hb, hml, hown, hts⟩ (hM H.size)
    ⟨va_cnB n hts (z_code_good y1) rfl rfl rfl (hX.1 _ hlk) (hts _ y2) y3 ⟨by show yd + 1 ≤ _; omega, by show 8 + (yL + 11) + 36 * yd ≤ _; omega⟩, hts _ hv, trivial⟩
    ⟨z_blind, fun U hU hW => z_start (av := As) hK (hD μ) hA hX hP hS hU hW⟩ rfl (by simpa using hn) hl.1 (by simp [List.map_reverse]) (lv_room (by rw [z_cats]; exact hst)) hdg ⟨hc1, hc2⟩
  exact z_go hrun hS (fun q _ h => z_inA (hD μ) hA hS q h) (fun q h => z_inA (hD μ) hA hS q h) (fun v μ' H1 locs1 hp hP1 hS1 => by
    have := k v μ' hp H1 locs1 ls hP1 hS1 hl
    rw [z_app] at this
    exact this)
/-! the same, by kind of answer -/
theorem j_callVi (F : z_F E own cc nL d) {y : MethodName} {yc : ByteArray} {yL n yd o ci idx : Nat} {ret : Option FieldType} {As : List Value} {fs : List Nat} {P : Int32 → z_M → Prop} (hM : z_Ci E.1 y yc yL ret yd (.ref o :: As) μ P) (hc : z_Yc y yc yL ret n) (hv : z_Yv y) (hlk : Cond.methodLink own idx y ∈ z_T)
    (hs : (z_sh E.1)[o]? = some (.inr (ci, fs))) (hcl : (z_cl[ci]?).map (fun q => q.1) = some y.cls) (hn : As.length = n) (hd : yd + 1 ≤ d) (hst : (st.map fun v => v.category).sum ≤ 8) (h0 : st0 = As.reverse ++ .ref o :: st) (hdg : decode cc pc = .ok (.invokevirtual idx, 3))
    (k : ∀ (r : Int32) (μ' : z_M), μ'.2.2 = μ.2.2 → P r μ' → z_J E nL (pc + 3) L (.int r :: st) μ') : z_J E nL pc L st0 μ :=
  j_callV F hM hc hv hlk hs hcl hn hd hst h0 hdg (fun v μ' hp => by obtain ⟨h1, r, rfl, h2⟩ := hp; exact k r μ' h1 h2)
theorem j_callVv (F : z_F E own cc nL d) {y : MethodName} {yc : ByteArray} {yL n yd o ci idx : Nat} {ret : Option FieldType} {As : List Value} {fs : List Nat} {P : z_M → Prop} (hM : z_Cv E.1 y yc yL ret yd (.ref o :: As) μ P) (hc : z_Yc y yc yL ret n) (hv : z_Yv y) (hlk : Cond.methodLink own idx y ∈ z_T)
    (hs : (z_sh E.1)[o]? = some (.inr (ci, fs))) (hcl : (z_cl[ci]?).map (fun q => q.1) = some y.cls) (hn : As.length = n) (hd : yd + 1 ≤ d) (hst : (st.map fun v => v.category).sum ≤ 8) (h0 : st0 = As.reverse ++ .ref o :: st) (hdg : decode cc pc = .ok (.invokevirtual idx, 3))
    (k : ∀ (μ' : z_M), μ'.2.2 = μ.2.2 → P μ' → z_J E nL (pc + 3) L st μ') : z_J E nL pc L st0 μ :=
  j_callV F hM hc hv hlk hs hcl hn hd hst h0 hdg (fun v μ' hp => by obtain ⟨h1, rfl, h2⟩ := hp; exact k μ' h1 h2)
theorem j_callSi (F : z_F E own cc nL d) {y : MethodName} {yc : ByteArray} {yL n yd idx : Nat} {ret : Option FieldType} {As : List Value} {P : Int32 → z_M → Prop} (hM : z_Ci E.1 y yc yL ret yd As μ P) (hc : z_Yc y yc yL ret n) (hv : Cond.static y ∈ z_T) (hlk : Cond.methodLink own idx y ∈ z_T)
    (hn : As.length = n) (hd : yd + 1 ≤ d) (hst : (st.map fun v => v.category).sum ≤ 8) (h0 : st0 = As.reverse ++ st) (hdg : decode cc pc = .ok (.invokestatic idx, 3))
    (k : ∀ (r : Int32) (μ' : z_M), μ'.2.2 = μ.2.2 → P r μ' → z_J E nL (pc + 3) L (.int r :: st) μ') : z_J E nL pc L st0 μ :=
  j_callS F hM hc hv hlk hn hd hst h0 hdg (fun v μ' hp => by obtain ⟨h1, r, rfl, h2⟩ := hp; exact k r μ' h1 h2)
theorem j_callSl (F : z_F E own cc nL d) {y : MethodName} {yc : ByteArray} {yL n yd idx : Nat} {ret : Option FieldType} {As : List Value} {P : Int64 → z_M → Prop} (hM : z_Cl E.1 y yc yL ret yd As μ P) (hc : z_Yc y yc yL ret n) (hv : Cond.static y ∈ z_T) (hlk : Cond.methodLink own idx y ∈ z_T)
    (hn : As.length = n) (hd : yd + 1 ≤ d) (hst : (st.map fun v => v.category).sum ≤ 8) (h0 : st0 = As.reverse ++ st) (hdg : decode cc pc = .ok (.invokestatic idx, 3))
    (k : ∀ (r : Int64) (μ' : z_M), μ'.2.2 = μ.2.2 → P r μ' → z_J E nL (pc + 3) L (.long r :: st) μ') : z_J E nL pc L st0 μ :=
  j_callS F hM hc hv hlk hn hd hst h0 hdg (fun v μ' hp => by obtain ⟨h1, r, rfl, h2⟩ := hp; exact k r μ' h1 h2)
theorem j_callSv (F : z_F E own cc nL d) {y : MethodName} {yc : ByteArray} {yL n yd idx : Nat} {ret : Option FieldType} {As : List Value} {P : z_M → Prop} (hM : z_Cv E.1 y yc yL ret yd As μ P) (hc : z_Yc y yc yL ret n) (hv : Cond.static y ∈ z_T) (hlk : Cond.methodLink own idx y ∈ z_T)
    (hn : As.length = n) (hd : yd + 1 ≤ d) (hst : (st.map fun v => v.category).sum ≤ 8) (h0 : st0 = As.reverse ++ st) (hdg : decode cc pc = .ok (.invokestatic idx, 3))
    (k : ∀ (μ' : z_M), μ'.2.2 = μ.2.2 → P μ' → z_J E nL (pc + 3) L st μ') : z_J E nL pc L st0 μ :=
  j_callS F hM hc hv hlk hn hd hst h0 hdg (fun v μ' hp => by obtain ⟨h1, rfl, h2⟩ := hp; exact k μ' h1 h2)
theorem j_callNi (F : z_F E own cc nL d) {y : MethodName} {yc : ByteArray} {yL n yd idx : Nat} {ret : Option FieldType} {As : List Value} {P : Int32 → z_M → Prop} (hM : z_Ci E.1 y yc yL ret yd As μ P) (hc : z_Yc y yc yL ret n) (hv : Cond.static y ∈ z_T) (hlk : (own, idx, y) ∈ z_NW)
    (hn : As.length = n) (hd : yd + 1 ≤ d) (hst : (st.map fun v => v.category).sum ≤ 8) (h0 : st0 = As.reverse ++ st) (hdg : decode cc pc = .ok (.invokestatic idx, 3))
    (k : ∀ (r : Int32) (μ' : z_M), μ'.2.2 = μ.2.2 → P r μ' → z_J E nL (pc + 3) L (.int r :: st) μ') : z_J E nL pc L st0 μ :=
  j_callSN F hM hc hv hlk hn hd hst h0 hdg (fun v μ' hp => by obtain ⟨h1, r, rfl, h2⟩ := hp; exact k r μ' h1 h2)
theorem j_callNv (F : z_F E own cc nL d) {y : MethodName} {yc : ByteArray} {yL n yd idx : Nat} {ret : Option FieldType} {As : List Value} {P : z_M → Prop} (hM : z_Cv E.1 y yc yL ret yd As μ P) (hc : z_Yc y yc yL ret n) (hv : Cond.static y ∈ z_T) (hlk : (own, idx, y) ∈ z_NW)
    (hn : As.length = n) (hd : yd + 1 ≤ d) (hst : (st.map fun v => v.category).sum ≤ 8) (h0 : st0 = As.reverse ++ st) (hdg : decode cc pc = .ok (.invokestatic idx, 3))
    (k : ∀ (μ' : z_M), μ'.2.2 = μ.2.2 → P μ' → z_J E nL (pc + 3) L st μ') : z_J E nL pc L st0 μ :=
  j_callSN F hM hc hv hlk hn hd hst h0 hdg (fun v μ' hp => by obtain ⟨h1, rfl, h2⟩ := hp; exact k μ' h1 h2)
/-! Math.max, min, abs; System.arraycopy of ints -/
theorem j_mmax (F : z_F E own cc nL d) {idx : Nat} {x y : Int32} (hw : Cond.methodLink own idx Lib.Math.max.name ∈ z_T ∧ Cond.static Lib.Math.max.name ∈ z_T ∧ Cond.initialized "java/lang/Math" ∈ z_T ∧ Cond.code Lib.Math.max.name Lib.Math.max.code 2 (some .int) ∈ z_T) (hd : 1 ≤ d) (hst : (st.map fun v => v.category).sum ≤ 8) (hdg : decode cc pc = .ok (.invokestatic idx, 3)) (k : z_J E nL (pc + 3) L (.int (if x < y then y else x) :: st) μ) : z_J E nL pc L (.int y :: .int x :: st) μ := by
  obtain ⟨⟨l, D, ad, dA, sh⟩, p, e, R, s, m, args, below, meth, c, Q, A, kc, ks⟩ := E
  obtain ⟨hx, hb, hml, hown, hts, hK, hD, hA, hX, hd1, hd2, hc1, hc2⟩ := F
  intro H locs ls hP hS hl
  exact va_mmax hx hb (hml.trans hl.1.symm) hown (hts _ hw.1) (hts _ hw.2.1) (hts _ hw.2.2.1) (hts _ hw.2.2.2) (by omega) (by rw [z_cats]; omega) hc1 hc2 hdg (k H locs ls hP hS hl)
theorem j_mmin (F : z_F E own cc nL d) {idx : Nat} {x y : Int32} (hw : Cond.methodLink own idx Lib.Math.min.name ∈ z_T ∧ Cond.static Lib.Math.min.name ∈ z_T ∧ Cond.initialized "java/lang/Math" ∈ z_T ∧ Cond.code Lib.Math.min.name Lib.Math.min.code 2 (some .int) ∈ z_T) (hd : 1 ≤ d) (hst : (st.map fun v => v.category).sum ≤ 8) (hdg : decode cc pc = .ok (.invokestatic idx, 3)) (k : z_J E nL (pc + 3) L (.int (if y < x then y else x) :: st) μ) : z_J E nL pc L (.int y :: .int x :: st) μ := by
  obtain ⟨⟨l, D, ad, dA, sh⟩, p, e, R, s, m, args, below, meth, c, Q, A, kc, ks⟩ := E
  obtain ⟨hx, hb, hml, hown, hts, hK, hD, hA, hX, hd1, hd2, hc1, hc2⟩ := F
  intro H locs ls hP hS hl
  exact va_mmin hx hb (hml.trans hl.1.symm) hown (hts _ hw.1) (hts _ hw.2.1) (hts _ hw.2.2.1) (hts _ hw.2.2.2) (by omega) (by rw [z_cats]; omega) hc1 hc2 hdg (k H locs ls hP hS hl)
theorem j_mabs (F : z_F E own cc nL d) {idx : Nat} {x : Int32} (hw : Cond.methodLink own idx Lib.Math.abs.name ∈ z_T ∧ Cond.static Lib.Math.abs.name ∈ z_T ∧ Cond.initialized "java/lang/Math" ∈ z_T ∧ Cond.code Lib.Math.abs.name Lib.Math.abs.code 1 (some .int) ∈ z_T) (hd : 1 ≤ d) (hst : (st.map fun v => v.category).sum ≤ 8) (hdg : decode cc pc = .ok (.invokestatic idx, 3)) (k : z_J E nL (pc + 3) L (.int (if 0 ≤ x then x else 0 - x) :: st) μ) : z_J E nL pc L (.int x :: st) μ := by
  obtain ⟨⟨l, D, ad, dA, sh⟩, p, e, R, s, m, args, below, meth, c, Q, A, kc, ks⟩ := E
  obtain ⟨hx, hb, hml, hown, hts, hK, hD, hA, hX, hd1, hd2, hc1, hc2⟩ := F
  intro H locs ls hP hS hl
  exact va_mabs hx hb (hml.trans hl.1.symm) hown (hts _ hw.1) (hts _ hw.2.1) (hts _ hw.2.2.1) (hts _ hw.2.2.2) (by omega) (by rw [z_cats]; omega) hc1 hc2 hdg (k H locs ls hP hS hl)
theorem j_acopy (F : z_F E own cc nL d) {idx a b n0 n1 : Nat} {sp dp n : Int32} (hw : Cond.methodLink own idx arraycopyName ∈ z_T ∧ Cond.native arraycopyName ∈ z_T ∧ Cond.static arraycopyName ∈ z_T ∧ Cond.initialized "java/lang/System" ∈ z_T) (hd : 1 ≤ d) (hst : (st.map fun v => v.category).sum ≤ 8) (ha : (z_sh E.1)[a]? = some (.inl (0, n0))) (hb0 : (z_sh E.1)[b]? = some (.inl (0, n1)))
    (h1 : ¬ sp < 0) (h2 : ¬ dp < 0) (h3 : ¬ n < 0) (h4 : sp.toNatClampNeg + n.toNatClampNeg ≤ n0) (h5 : dp.toNatClampNeg + n.toNatClampNeg ≤ n1) (hdg : decode cc pc = .ok (.invokestatic idx, 3)) (k : z_J E nL (pc + 3) L st (z_sw μ b (va_cpy (μ.1 a) (μ.1 b) sp.toNatClampNeg dp.toNatClampNeg n.toNatClampNeg))) : z_J E nL pc L (.int n :: .int dp :: .ref b :: .int sp :: .ref a :: st) μ := by
  obtain ⟨⟨l, D, ad, dA, sh⟩, p, e, R, s, m, args, below, meth, c, Q, A, kc, ks⟩ := E
  obtain ⟨hx, hb, hml, hown, hts, hK, hD, hA, hX, hd1, hd2, hc1, hc2⟩ := F
  intro H locs ls hP hS hl
  have hnw : nativeFrameWords "java/lang/System" "arraycopy" 5 ≤ 12 := by decide +kernel
  have hlo : ((st.map (z_v ad)).map fun v => v.category).sum + (nativeFrameWords "java/lang/System" "arraycopy" 5 + 11) ≤ R.locals := by
    rw [z_cats (ad := ad)]
    omega
  refine va_copyi (f := μ.1 a) (g := μ.1 b) (ty := .int) hx hb (hml.trans hl.1.symm) hown (hts _ hw.1) (hts _ hw.2.1) (hts _ hw.2.2.1) (hts _ hw.2.2.2) hK hP (hD μ) hS a b 0 0 (z_w_get ha) (z_w_get hb0) rfl rfl rfl h1 h2 h3 h4 h5 (fun _ _ => rfl) (by omega) hlo hdg (fun H1 locs1 hP1 hD1 hS1 => ?_)
  refine k H1 locs1 ls ?_ hS1 hl
  rw [← z_w_set hb0 z_e_sw]
  have e1 : z_e ad dA (z_sw μ b (va_cpy (μ.1 a) (μ.1 b) sp.toNatClampNeg dp.toNatClampNeg n.toNatClampNeg)) b (.inl (0, n1)) = .inl (dA 0, n1, .inl (va_cpy (μ.1 a) (μ.1 b) sp.toNatClampNeg dp.toNatClampNeg n.toNatClampNeg)) := by simp [z_e, z_sw]
  rw [e1]
  exact hP1
end ZCall
end
