-- ===== PART A: goes FIRST, ahead of the names: the tables' words, and 'selects' of the private methods out of them =====
/-- a private method of a class that the tables say can be made, by its rows of tables_1 -/
def lw_okq (q : MethodName × Nat) : Prop := (q.1.cls ≠ "java/lang/invoke/MethodHandle" ∧ q.1.cls ≠ "java/lang/invoke/VarHandle") ∧ Cond.instantiable q.1.cls q.2 ∈ tables_1 ∧ Cond.privateMethod q.1 ∈ tables_1 ∧ Cond.instanceMethod q.1 ∈ tables_1
theorem lw_p0 : lw_okq (⟨"DayOpeners", "tapeNumber", "(I)V"⟩, 14) := ⟨⟨by decide +kernel, by decide +kernel⟩, List.mem_of_getElem? (i := 26) (by decide +kernel), List.mem_of_getElem? (i := 608) (by decide +kernel), List.mem_of_getElem? (i := 609) (by decide +kernel)⟩
theorem lw_p1 : lw_okq (⟨"DayOpeners$Tokens", "nextWord", "()V"⟩, 7) := ⟨⟨by decide +kernel, by decide +kernel⟩, List.mem_of_getElem? (i := 54) (by decide +kernel), List.mem_of_getElem? (i := 651) (by decide +kernel), List.mem_of_getElem? (i := 652) (by decide +kernel)⟩
theorem lw_p2 : lw_okq (⟨"DayOpeners$Tokens", "nextNumber", "()V"⟩, 7) := ⟨⟨by decide +kernel, by decide +kernel⟩, List.mem_of_getElem? (i := 54) (by decide +kernel), List.mem_of_getElem? (i := 658) (by decide +kernel), List.mem_of_getElem? (i := 659) (by decide +kernel)⟩
theorem lw_p3 : lw_okq (⟨"DayOpeners$Tokens", "nextSign", "(I)V"⟩, 7) := ⟨⟨by decide +kernel, by decide +kernel⟩, List.mem_of_getElem? (i := 54) (by decide +kernel), List.mem_of_getElem? (i := 666) (by decide +kernel), List.mem_of_getElem? (i := 667) (by decide +kernel)⟩
theorem lw_p4 : lw_okq (⟨"DayOpeners$Parser", "line", "()Z"⟩, 10) := ⟨⟨by decide +kernel, by decide +kernel⟩, List.mem_of_getElem? (i := 48) (by decide +kernel), List.mem_of_getElem? (i := 670) (by decide +kernel), List.mem_of_getElem? (i := 671) (by decide +kernel)⟩
theorem lw_p5 : lw_okq (⟨"DayOpeners$Parser", "fails", "(I)Z"⟩, 10) := ⟨⟨by decide +kernel, by decide +kernel⟩, List.mem_of_getElem? (i := 48) (by decide +kernel), List.mem_of_getElem? (i := 674) (by decide +kernel), List.mem_of_getElem? (i := 675) (by decide +kernel)⟩
theorem lw_p6 : lw_okq (⟨"DayOpeners$Parser", "trades", "()Z"⟩, 10) := ⟨⟨by decide +kernel, by decide +kernel⟩, List.mem_of_getElem? (i := 48) (by decide +kernel), List.mem_of_getElem? (i := 678) (by decide +kernel), List.mem_of_getElem? (i := 679) (by decide +kernel)⟩
theorem lw_p7 : lw_okq (⟨"DayOpeners$Parser", "isNewName", "(I)Z"⟩, 10) := ⟨⟨by decide +kernel, by decide +kernel⟩, List.mem_of_getElem? (i := 48) (by decide +kernel), List.mem_of_getElem? (i := 683) (by decide +kernel), List.mem_of_getElem? (i := 684) (by decide +kernel)⟩
theorem lw_p8 : lw_okq (⟨"DayOpeners$Parser", "taken", "()I"⟩, 10) := ⟨⟨by decide +kernel, by decide +kernel⟩, List.mem_of_getElem? (i := 48) (by decide +kernel), List.mem_of_getElem? (i := 699) (by decide +kernel), List.mem_of_getElem? (i := 700) (by decide +kernel)⟩
theorem lw_p9 : lw_okq (⟨"DayOpeners$Parser", "isNumber", "(II)Z"⟩, 10) := ⟨⟨by decide +kernel, by decide +kernel⟩, List.mem_of_getElem? (i := 48) (by decide +kernel), List.mem_of_getElem? (i := 704) (by decide +kernel), List.mem_of_getElem? (i := 705) (by decide +kernel)⟩
theorem lw_p10 : lw_okq (⟨"DayOpeners$Parser", "ends", "()Z"⟩, 10) := ⟨⟨by decide +kernel, by decide +kernel⟩, List.mem_of_getElem? (i := 48) (by decide +kernel), List.mem_of_getElem? (i := 708) (by decide +kernel), List.mem_of_getElem? (i := 709) (by decide +kernel)⟩
theorem lw_p11 : lw_okq (⟨"DayOpeners$Parser", "turns", "()Z"⟩, 10) := ⟨⟨by decide +kernel, by decide +kernel⟩, List.mem_of_getElem? (i := 48) (by decide +kernel), List.mem_of_getElem? (i := 712) (by decide +kernel), List.mem_of_getElem? (i := 713) (by decide +kernel)⟩
theorem lw_p12 : lw_okq (⟨"DayOpeners$Parser", "isTrade", "()Z"⟩, 10) := ⟨⟨by decide +kernel, by decide +kernel⟩, List.mem_of_getElem? (i := 48) (by decide +kernel), List.mem_of_getElem? (i := 716) (by decide +kernel), List.mem_of_getElem? (i := 717) (by decide +kernel)⟩
theorem lw_p13 : lw_okq (⟨"DayOpeners$Parser", "claims", "()Z"⟩, 10) := ⟨⟨by decide +kernel, by decide +kernel⟩, List.mem_of_getElem? (i := 48) (by decide +kernel), List.mem_of_getElem? (i := 720) (by decide +kernel), List.mem_of_getElem? (i := 721) (by decide +kernel)⟩
theorem lw_p14 : lw_okq (⟨"DayOpeners$Parser", "works", "()Z"⟩, 10) := ⟨⟨by decide +kernel, by decide +kernel⟩, List.mem_of_getElem? (i := 48) (by decide +kernel), List.mem_of_getElem? (i := 728) (by decide +kernel), List.mem_of_getElem? (i := 729) (by decide +kernel)⟩
theorem lw_p15 : lw_okq (⟨"DayOpeners$Parser", "slips", "()Z"⟩, 10) := ⟨⟨by decide +kernel, by decide +kernel⟩, List.mem_of_getElem? (i := 48) (by decide +kernel), List.mem_of_getElem? (i := 732) (by decide +kernel), List.mem_of_getElem? (i := 733) (by decide +kernel)⟩
def lw_privs_1 : List (MethodName × Nat) := [(⟨"DayOpeners", "tapeNumber", "(I)V"⟩, 14), (⟨"DayOpeners$Tokens", "nextWord", "()V"⟩, 7), (⟨"DayOpeners$Tokens", "nextNumber", "()V"⟩, 7), (⟨"DayOpeners$Tokens", "nextSign", "(I)V"⟩, 7), (⟨"DayOpeners$Parser", "line", "()Z"⟩, 10), (⟨"DayOpeners$Parser", "fails", "(I)Z"⟩, 10), (⟨"DayOpeners$Parser", "trades", "()Z"⟩, 10), (⟨"DayOpeners$Parser", "isNewName", "(I)Z"⟩, 10), (⟨"DayOpeners$Parser", "taken", "()I"⟩, 10), (⟨"DayOpeners$Parser", "isNumber", "(II)Z"⟩, 10), (⟨"DayOpeners$Parser", "ends", "()Z"⟩, 10), (⟨"DayOpeners$Parser", "turns", "()Z"⟩, 10), (⟨"DayOpeners$Parser", "isTrade", "()Z"⟩, 10), (⟨"DayOpeners$Parser", "claims", "()Z"⟩, 10), (⟨"DayOpeners$Parser", "works", "()Z"⟩, 10), (⟨"DayOpeners$Parser", "slips", "()Z"⟩, 10)]
theorem lw_r1 : ∀ q ∈ lw_privs_1, lw_okq q := List.forall_mem_cons.mpr ⟨lw_p0, List.forall_mem_cons.mpr ⟨lw_p1, List.forall_mem_cons.mpr ⟨lw_p2, List.forall_mem_cons.mpr ⟨lw_p3, List.forall_mem_cons.mpr ⟨lw_p4, List.forall_mem_cons.mpr ⟨lw_p5, List.forall_mem_cons.mpr ⟨lw_p6, List.forall_mem_cons.mpr ⟨lw_p7, List.forall_mem_cons.mpr ⟨lw_p8, List.forall_mem_cons.mpr ⟨lw_p9, List.forall_mem_cons.mpr ⟨lw_p10, List.forall_mem_cons.mpr ⟨lw_p11, List.forall_mem_cons.mpr ⟨lw_p12, List.forall_mem_cons.mpr ⟨lw_p13, List.forall_mem_cons.mpr ⟨lw_p14, List.forall_mem_cons.mpr ⟨lw_p15, fun _ h => absurd h List.not_mem_nil⟩⟩⟩⟩⟩⟩⟩⟩⟩⟩⟩⟩⟩⟩⟩⟩
theorem lw_p16 : lw_okq (⟨"DayOpeners$Parser", "seeds", "()Z"⟩, 10) := ⟨⟨by decide +kernel, by decide +kernel⟩, List.mem_of_getElem? (i := 48) (by decide +kernel), List.mem_of_getElem? (i := 736) (by decide +kernel), List.mem_of_getElem? (i := 737) (by decide +kernel)⟩
theorem lw_p17 : lw_okq (⟨"DayOpeners$Parser", "laws", "()Z"⟩, 10) := ⟨⟨by decide +kernel, by decide +kernel⟩, List.mem_of_getElem? (i := 48) (by decide +kernel), List.mem_of_getElem? (i := 741) (by decide +kernel), List.mem_of_getElem? (i := 742) (by decide +kernel)⟩
theorem lw_p18 : lw_okq (⟨"DayOpeners$Parser", "beginsPart", "()Z"⟩, 10) := ⟨⟨by decide +kernel, by decide +kernel⟩, List.mem_of_getElem? (i := 48) (by decide +kernel), List.mem_of_getElem? (i := 755) (by decide +kernel), List.mem_of_getElem? (i := 756) (by decide +kernel)⟩
theorem lw_p19 : lw_okq (⟨"DayOpeners$Parser", "counts", "()Z"⟩, 10) := ⟨⟨by decide +kernel, by decide +kernel⟩, List.mem_of_getElem? (i := 48) (by decide +kernel), List.mem_of_getElem? (i := 759) (by decide +kernel), List.mem_of_getElem? (i := 760) (by decide +kernel)⟩
theorem lw_p20 : lw_okq (⟨"DayOpeners$Parser", "tells", "(II)Z"⟩, 10) := ⟨⟨by decide +kernel, by decide +kernel⟩, List.mem_of_getElem? (i := 48) (by decide +kernel), List.mem_of_getElem? (i := 763) (by decide +kernel), List.mem_of_getElem? (i := 764) (by decide +kernel)⟩
theorem lw_p21 : lw_okq (⟨"DayOpeners$Parser", "hold", "(I)Z"⟩, 10) := ⟨⟨by decide +kernel, by decide +kernel⟩, List.mem_of_getElem? (i := 48) (by decide +kernel), List.mem_of_getElem? (i := 771) (by decide +kernel), List.mem_of_getElem? (i := 772) (by decide +kernel)⟩
theorem lw_p22 : lw_okq (⟨"DayOpeners$Parser", "topWaiting", "()I"⟩, 10) := ⟨⟨by decide +kernel, by decide +kernel⟩, List.mem_of_getElem? (i := 48) (by decide +kernel), List.mem_of_getElem? (i := 775) (by decide +kernel), List.mem_of_getElem? (i := 776) (by decide +kernel)⟩
theorem lw_p23 : lw_okq (⟨"DayOpeners$Parser", "endsPart", "()Z"⟩, 10) := ⟨⟨by decide +kernel, by decide +kernel⟩, List.mem_of_getElem? (i := 48) (by decide +kernel), List.mem_of_getElem? (i := 783) (by decide +kernel), List.mem_of_getElem? (i := 784) (by decide +kernel)⟩
theorem lw_p24 : lw_okq (⟨"DayOpeners$Parser", "unwind", "(I)V"⟩, 10) := ⟨⟨by decide +kernel, by decide +kernel⟩, List.mem_of_getElem? (i := 48) (by decide +kernel), List.mem_of_getElem? (i := 787) (by decide +kernel), List.mem_of_getElem? (i := 788) (by decide +kernel)⟩
theorem lw_p25 : lw_okq (⟨"DayOpeners$Laws", "nameWorth", "(I)J"⟩, 7) := ⟨⟨by decide +kernel, by decide +kernel⟩, List.mem_of_getElem? (i := 149) (by decide +kernel), List.mem_of_getElem? (i := 873) (by decide +kernel), List.mem_of_getElem? (i := 874) (by decide +kernel)⟩
theorem lw_p26 : lw_okq (⟨"DayOpeners$Course", "byTurns", "(LDayOpeners$State;)I"⟩, 6) := ⟨⟨by decide +kernel, by decide +kernel⟩, List.mem_of_getElem? (i := 408) (by decide +kernel), List.mem_of_getElem? (i := 937) (by decide +kernel), List.mem_of_getElem? (i := 938) (by decide +kernel)⟩
theorem lw_p27 : lw_okq (⟨"DayOpeners$Course", "isMistake", "(LDayOpeners$State;)Z"⟩, 6) := ⟨⟨by decide +kernel, by decide +kernel⟩, List.mem_of_getElem? (i := 408) (by decide +kernel), List.mem_of_getElem? (i := 941) (by decide +kernel), List.mem_of_getElem? (i := 942) (by decide +kernel)⟩
theorem lw_p28 : lw_okq (⟨"DayOpeners", "tryDays", "(I)V"⟩, 14) := ⟨⟨by decide +kernel, by decide +kernel⟩, List.mem_of_getElem? (i := 26) (by decide +kernel), List.mem_of_getElem? (i := 973) (by decide +kernel), List.mem_of_getElem? (i := 974) (by decide +kernel)⟩
theorem lw_p29 : lw_okq (⟨"DayOpeners$Plans", "allDone", "()Z"⟩, 9) := ⟨⟨by decide +kernel, by decide +kernel⟩, List.mem_of_getElem? (i := 517) (by decide +kernel), List.mem_of_getElem? (i := 1021) (by decide +kernel), List.mem_of_getElem? (i := 1022) (by decide +kernel)⟩
theorem lw_p30 : lw_okq (⟨"DayOpeners$Plans", "stateBehind", "(I)LDayOpeners$State;"⟩, 9) := ⟨⟨by decide +kernel, by decide +kernel⟩, List.mem_of_getElem? (i := 517) (by decide +kernel), List.mem_of_getElem? (i := 1033) (by decide +kernel), List.mem_of_getElem? (i := 1034) (by decide +kernel)⟩
theorem lw_p31 : lw_okq (⟨"DayOpeners$Plans", "hopes", "(LDayOpeners$State;I)I"⟩, 9) := ⟨⟨by decide +kernel, by decide +kernel⟩, List.mem_of_getElem? (i := 517) (by decide +kernel), List.mem_of_getElem? (i := 1041) (by decide +kernel), List.mem_of_getElem? (i := 1042) (by decide +kernel)⟩
def lw_privs_2 : List (MethodName × Nat) := [(⟨"DayOpeners$Parser", "seeds", "()Z"⟩, 10), (⟨"DayOpeners$Parser", "laws", "()Z"⟩, 10), (⟨"DayOpeners$Parser", "beginsPart", "()Z"⟩, 10), (⟨"DayOpeners$Parser", "counts", "()Z"⟩, 10), (⟨"DayOpeners$Parser", "tells", "(II)Z"⟩, 10), (⟨"DayOpeners$Parser", "hold", "(I)Z"⟩, 10), (⟨"DayOpeners$Parser", "topWaiting", "()I"⟩, 10), (⟨"DayOpeners$Parser", "endsPart", "()Z"⟩, 10), (⟨"DayOpeners$Parser", "unwind", "(I)V"⟩, 10), (⟨"DayOpeners$Laws", "nameWorth", "(I)J"⟩, 7), (⟨"DayOpeners$Course", "byTurns", "(LDayOpeners$State;)I"⟩, 6), (⟨"DayOpeners$Course", "isMistake", "(LDayOpeners$State;)Z"⟩, 6), (⟨"DayOpeners", "tryDays", "(I)V"⟩, 14), (⟨"DayOpeners$Plans", "allDone", "()Z"⟩, 9), (⟨"DayOpeners$Plans", "stateBehind", "(I)LDayOpeners$State;"⟩, 9), (⟨"DayOpeners$Plans", "hopes", "(LDayOpeners$State;I)I"⟩, 9)]
theorem lw_r2 : ∀ q ∈ lw_privs_2, lw_okq q := List.forall_mem_cons.mpr ⟨lw_p16, List.forall_mem_cons.mpr ⟨lw_p17, List.forall_mem_cons.mpr ⟨lw_p18, List.forall_mem_cons.mpr ⟨lw_p19, List.forall_mem_cons.mpr ⟨lw_p20, List.forall_mem_cons.mpr ⟨lw_p21, List.forall_mem_cons.mpr ⟨lw_p22, List.forall_mem_cons.mpr ⟨lw_p23, List.forall_mem_cons.mpr ⟨lw_p24, List.forall_mem_cons.mpr ⟨lw_p25, List.forall_mem_cons.mpr ⟨lw_p26, List.forall_mem_cons.mpr ⟨lw_p27, List.forall_mem_cons.mpr ⟨lw_p28, List.forall_mem_cons.mpr ⟨lw_p29, List.forall_mem_cons.mpr ⟨lw_p30, List.forall_mem_cons.mpr ⟨lw_p31, fun _ h => absurd h List.not_mem_nil⟩⟩⟩⟩⟩⟩⟩⟩⟩⟩⟩⟩⟩⟩⟩⟩
theorem lw_p32 : lw_okq (⟨"DayOpeners$Seats", "firstLeft", "(I)I"⟩, 3) := ⟨⟨by decide +kernel, by decide +kernel⟩, List.mem_of_getElem? (i := 498) (by decide +kernel), List.mem_of_getElem? (i := 1057) (by decide +kernel), List.mem_of_getElem? (i := 1058) (by decide +kernel)⟩
theorem lw_p33 : lw_okq (⟨"DayOpeners$Seats", "wish", "(LDayOpeners$Told;LDayOpeners$State;)V"⟩, 3) := ⟨⟨by decide +kernel, by decide +kernel⟩, List.mem_of_getElem? (i := 498) (by decide +kernel), List.mem_of_getElem? (i := 1062) (by decide +kernel), List.mem_of_getElem? (i := 1063) (by decide +kernel)⟩
theorem lw_p34 : lw_okq (⟨"DayOpeners$Seats", "closeRing", "(LDayOpeners$State;I)V"⟩, 3) := ⟨⟨by decide +kernel, by decide +kernel⟩, List.mem_of_getElem? (i := 498) (by decide +kernel), List.mem_of_getElem? (i := 1073) (by decide +kernel), List.mem_of_getElem? (i := 1074) (by decide +kernel)⟩
theorem lw_p35 : lw_okq (⟨"DayOpeners$Seats", "weightOf", "(I)I"⟩, 3) := ⟨⟨by decide +kernel, by decide +kernel⟩, List.mem_of_getElem? (i := 498) (by decide +kernel), List.mem_of_getElem? (i := 1101) (by decide +kernel), List.mem_of_getElem? (i := 1102) (by decide +kernel)⟩
theorem lw_p36 : lw_okq (⟨"DayOpeners", "isRest", "(III)Z"⟩, 14) := ⟨⟨by decide +kernel, by decide +kernel⟩, List.mem_of_getElem? (i := 26) (by decide +kernel), List.mem_of_getElem? (i := 1122) (by decide +kernel), List.mem_of_getElem? (i := 1123) (by decide +kernel)⟩
theorem lw_p37 : lw_okq (⟨"DayOpeners", "gain", "(IIII)I"⟩, 14) := ⟨⟨by decide +kernel, by decide +kernel⟩, List.mem_of_getElem? (i := 26) (by decide +kernel), List.mem_of_getElem? (i := 1126) (by decide +kernel), List.mem_of_getElem? (i := 1127) (by decide +kernel)⟩
theorem lw_p38 : lw_okq (⟨"DayOpeners", "watchHours", "(II)V"⟩, 14) := ⟨⟨by decide +kernel, by decide +kernel⟩, List.mem_of_getElem? (i := 26) (by decide +kernel), List.mem_of_getElem? (i := 1161) (by decide +kernel), List.mem_of_getElem? (i := 1162) (by decide +kernel)⟩
theorem lw_p39 : lw_okq (⟨"DayOpeners$Notes", "tells", "(I)Z"⟩, 10) := ⟨⟨by decide +kernel, by decide +kernel⟩, List.mem_of_getElem? (i := 439) (by decide +kernel), List.mem_of_getElem? (i := 1179) (by decide +kernel), List.mem_of_getElem? (i := 1180) (by decide +kernel)⟩
theorem lw_p40 : lw_okq (⟨"DayOpeners$Notes", "fits", "(II)Z"⟩, 10) := ⟨⟨by decide +kernel, by decide +kernel⟩, List.mem_of_getElem? (i := 439) (by decide +kernel), List.mem_of_getElem? (i := 1193) (by decide +kernel), List.mem_of_getElem? (i := 1194) (by decide +kernel)⟩
theorem lw_p41 : lw_okq (⟨"DayOpeners$Notes", "lastBehind", "(II)I"⟩, 10) := ⟨⟨by decide +kernel, by decide +kernel⟩, List.mem_of_getElem? (i := 439) (by decide +kernel), List.mem_of_getElem? (i := 1197) (by decide +kernel), List.mem_of_getElem? (i := 1198) (by decide +kernel)⟩
theorem lw_p42 : lw_okq (⟨"DayOpeners$Notes", "worstOf", "(II)I"⟩, 10) := ⟨⟨by decide +kernel, by decide +kernel⟩, List.mem_of_getElem? (i := 439) (by decide +kernel), List.mem_of_getElem? (i := 1209) (by decide +kernel), List.mem_of_getElem? (i := 1210) (by decide +kernel)⟩
theorem lw_p43 : lw_okq (⟨"java/lang/Throwable", "fillInStackTrace", "(I)Ljava/lang/Throwable;"⟩, 6) := ⟨⟨by decide +kernel, by decide +kernel⟩, List.mem_of_getElem? (i := 1297) (by decide +kernel), List.mem_of_getElem? (i := 1295) (by decide +kernel), List.mem_of_getElem? (i := 1296) (by decide +kernel)⟩
theorem lw_p44 : lw_okq (⟨"DayOpenersModel", "begins", "()V"⟩, 66) := ⟨⟨by decide +kernel, by decide +kernel⟩, List.mem_of_getElem? (i := 1337) (by decide +kernel), List.mem_of_getElem? (i := 1343) (by decide +kernel), List.mem_of_getElem? (i := 1344) (by decide +kernel)⟩
theorem lw_p45 : lw_okq (⟨"DayOpenersModel", "starts", "(I)V"⟩, 66) := ⟨⟨by decide +kernel, by decide +kernel⟩, List.mem_of_getElem? (i := 1337) (by decide +kernel), List.mem_of_getElem? (i := 1347) (by decide +kernel), List.mem_of_getElem? (i := 1348) (by decide +kernel)⟩
theorem lw_p46 : lw_okq (⟨"DayOpenersModel", "reads", "(II)V"⟩, 66) := ⟨⟨by decide +kernel, by decide +kernel⟩, List.mem_of_getElem? (i := 1337) (by decide +kernel), List.mem_of_getElem? (i := 1563) (by decide +kernel), List.mem_of_getElem? (i := 1564) (by decide +kernel)⟩
theorem lw_p47 : lw_okq (⟨"DayOpenersModel", "token", "()V"⟩, 66) := ⟨⟨by decide +kernel, by decide +kernel⟩, List.mem_of_getElem? (i := 1337) (by decide +kernel), List.mem_of_getElem? (i := 1567) (by decide +kernel), List.mem_of_getElem? (i := 1568) (by decide +kernel)⟩
def lw_privs_3 : List (MethodName × Nat) := [(⟨"DayOpeners$Seats", "firstLeft", "(I)I"⟩, 3), (⟨"DayOpeners$Seats", "wish", "(LDayOpeners$Told;LDayOpeners$State;)V"⟩, 3), (⟨"DayOpeners$Seats", "closeRing", "(LDayOpeners$State;I)V"⟩, 3), (⟨"DayOpeners$Seats", "weightOf", "(I)I"⟩, 3), (⟨"DayOpeners", "isRest", "(III)Z"⟩, 14), (⟨"DayOpeners", "gain", "(IIII)I"⟩, 14), (⟨"DayOpeners", "watchHours", "(II)V"⟩, 14), (⟨"DayOpeners$Notes", "tells", "(I)Z"⟩, 10), (⟨"DayOpeners$Notes", "fits", "(II)Z"⟩, 10), (⟨"DayOpeners$Notes", "lastBehind", "(II)I"⟩, 10), (⟨"DayOpeners$Notes", "worstOf", "(II)I"⟩, 10), (⟨"java/lang/Throwable", "fillInStackTrace", "(I)Ljava/lang/Throwable;"⟩, 6), (⟨"DayOpenersModel", "begins", "()V"⟩, 66), (⟨"DayOpenersModel", "starts", "(I)V"⟩, 66), (⟨"DayOpenersModel", "reads", "(II)V"⟩, 66), (⟨"DayOpenersModel", "token", "()V"⟩, 66)]
theorem lw_r3 : ∀ q ∈ lw_privs_3, lw_okq q := List.forall_mem_cons.mpr ⟨lw_p32, List.forall_mem_cons.mpr ⟨lw_p33, List.forall_mem_cons.mpr ⟨lw_p34, List.forall_mem_cons.mpr ⟨lw_p35, List.forall_mem_cons.mpr ⟨lw_p36, List.forall_mem_cons.mpr ⟨lw_p37, List.forall_mem_cons.mpr ⟨lw_p38, List.forall_mem_cons.mpr ⟨lw_p39, List.forall_mem_cons.mpr ⟨lw_p40, List.forall_mem_cons.mpr ⟨lw_p41, List.forall_mem_cons.mpr ⟨lw_p42, List.forall_mem_cons.mpr ⟨lw_p43, List.forall_mem_cons.mpr ⟨lw_p44, List.forall_mem_cons.mpr ⟨lw_p45, List.forall_mem_cons.mpr ⟨lw_p46, List.forall_mem_cons.mpr ⟨lw_p47, fun _ h => absurd h List.not_mem_nil⟩⟩⟩⟩⟩⟩⟩⟩⟩⟩⟩⟩⟩⟩⟩⟩
theorem lw_p48 : lw_okq (⟨"DayOpenersModel", "here", "()I"⟩, 66) := ⟨⟨by decide +kernel, by decide +kernel⟩, List.mem_of_getElem? (i := 1337) (by decide +kernel), List.mem_of_getElem? (i := 1571) (by decide +kernel), List.mem_of_getElem? (i := 1572) (by decide +kernel)⟩
theorem lw_p49 : lw_okq (⟨"DayOpenersModel", "word", "()I"⟩, 66) := ⟨⟨by decide +kernel, by decide +kernel⟩, List.mem_of_getElem? (i := 1337) (by decide +kernel), List.mem_of_getElem? (i := 1578) (by decide +kernel), List.mem_of_getElem? (i := 1579) (by decide +kernel)⟩
theorem lw_p50 : lw_okq (⟨"DayOpenersModel", "name", "()V"⟩, 66) := ⟨⟨by decide +kernel, by decide +kernel⟩, List.mem_of_getElem? (i := 1337) (by decide +kernel), List.mem_of_getElem? (i := 1585) (by decide +kernel), List.mem_of_getElem? (i := 1586) (by decide +kernel)⟩
theorem lw_p51 : lw_okq (⟨"DayOpenersModel", "sign", "(I)V"⟩, 66) := ⟨⟨by decide +kernel, by decide +kernel⟩, List.mem_of_getElem? (i := 1337) (by decide +kernel), List.mem_of_getElem? (i := 1593) (by decide +kernel), List.mem_of_getElem? (i := 1594) (by decide +kernel)⟩
theorem lw_p52 : lw_okq (⟨"DayOpenersModel", "line", "()V"⟩, 66) := ⟨⟨by decide +kernel, by decide +kernel⟩, List.mem_of_getElem? (i := 1337) (by decide +kernel), List.mem_of_getElem? (i := 1597) (by decide +kernel), List.mem_of_getElem? (i := 1598) (by decide +kernel)⟩
theorem lw_p53 : lw_okq (⟨"DayOpenersModel", "wrong", "(I)V"⟩, 66) := ⟨⟨by decide +kernel, by decide +kernel⟩, List.mem_of_getElem? (i := 1337) (by decide +kernel), List.mem_of_getElem? (i := 1601) (by decide +kernel), List.mem_of_getElem? (i := 1602) (by decide +kernel)⟩
theorem lw_p54 : lw_okq (⟨"DayOpenersModel", "isFull", "(I)Z"⟩, 66) := ⟨⟨by decide +kernel, by decide +kernel⟩, List.mem_of_getElem? (i := 1337) (by decide +kernel), List.mem_of_getElem? (i := 1605) (by decide +kernel), List.mem_of_getElem? (i := 1606) (by decide +kernel)⟩
theorem lw_p55 : lw_okq (⟨"DayOpenersModel", "fresher", "(I)I"⟩, 66) := ⟨⟨by decide +kernel, by decide +kernel⟩, List.mem_of_getElem? (i := 1337) (by decide +kernel), List.mem_of_getElem? (i := 1609) (by decide +kernel), List.mem_of_getElem? (i := 1610) (by decide +kernel)⟩
theorem lw_p56 : lw_okq (⟨"DayOpenersModel", "fresh", "([III)I"⟩, 66) := ⟨⟨by decide +kernel, by decide +kernel⟩, List.mem_of_getElem? (i := 1337) (by decide +kernel), List.mem_of_getElem? (i := 1613) (by decide +kernel), List.mem_of_getElem? (i := 1614) (by decide +kernel)⟩
theorem lw_p57 : lw_okq (⟨"DayOpenersModel", "numeral", "(II)I"⟩, 66) := ⟨⟨by decide +kernel, by decide +kernel⟩, List.mem_of_getElem? (i := 1337) (by decide +kernel), List.mem_of_getElem? (i := 1620) (by decide +kernel), List.mem_of_getElem? (i := 1621) (by decide +kernel)⟩
theorem lw_p58 : lw_okq (⟨"DayOpenersModel", "tradeAhead", "()I"⟩, 66) := ⟨⟨by decide +kernel, by decide +kernel⟩, List.mem_of_getElem? (i := 1337) (by decide +kernel), List.mem_of_getElem? (i := 1624) (by decide +kernel), List.mem_of_getElem? (i := 1625) (by decide +kernel)⟩
theorem lw_p59 : lw_okq (⟨"DayOpenersModel", "goOn", "()V"⟩, 66) := ⟨⟨by decide +kernel, by decide +kernel⟩, List.mem_of_getElem? (i := 1337) (by decide +kernel), List.mem_of_getElem? (i := 1628) (by decide +kernel), List.mem_of_getElem? (i := 1629) (by decide +kernel)⟩
theorem lw_p60 : lw_okq (⟨"DayOpenersModel", "claimLine", "()V"⟩, 66) := ⟨⟨by decide +kernel, by decide +kernel⟩, List.mem_of_getElem? (i := 1337) (by decide +kernel), List.mem_of_getElem? (i := 1632) (by decide +kernel), List.mem_of_getElem? (i := 1633) (by decide +kernel)⟩
theorem lw_p61 : lw_okq (⟨"DayOpenersModel", "lawLine", "()V"⟩, 66) := ⟨⟨by decide +kernel, by decide +kernel⟩, List.mem_of_getElem? (i := 1337) (by decide +kernel), List.mem_of_getElem? (i := 1636) (by decide +kernel), List.mem_of_getElem? (i := 1637) (by decide +kernel)⟩
theorem lw_p62 : lw_okq (⟨"DayOpenersModel", "expression", "()V"⟩, 66) := ⟨⟨by decide +kernel, by decide +kernel⟩, List.mem_of_getElem? (i := 1337) (by decide +kernel), List.mem_of_getElem? (i := 1640) (by decide +kernel), List.mem_of_getElem? (i := 1641) (by decide +kernel)⟩
theorem lw_p63 : lw_okq (⟨"DayOpenersModel", "conjunction", "()V"⟩, 66) := ⟨⟨by decide +kernel, by decide +kernel⟩, List.mem_of_getElem? (i := 1337) (by decide +kernel), List.mem_of_getElem? (i := 1644) (by decide +kernel), List.mem_of_getElem? (i := 1645) (by decide +kernel)⟩
def lw_privs_4 : List (MethodName × Nat) := [(⟨"DayOpenersModel", "here", "()I"⟩, 66), (⟨"DayOpenersModel", "word", "()I"⟩, 66), (⟨"DayOpenersModel", "name", "()V"⟩, 66), (⟨"DayOpenersModel", "sign", "(I)V"⟩, 66), (⟨"DayOpenersModel", "line", "()V"⟩, 66), (⟨"DayOpenersModel", "wrong", "(I)V"⟩, 66), (⟨"DayOpenersModel", "isFull", "(I)Z"⟩, 66), (⟨"DayOpenersModel", "fresher", "(I)I"⟩, 66), (⟨"DayOpenersModel", "fresh", "([III)I"⟩, 66), (⟨"DayOpenersModel", "numeral", "(II)I"⟩, 66), (⟨"DayOpenersModel", "tradeAhead", "()I"⟩, 66), (⟨"DayOpenersModel", "goOn", "()V"⟩, 66), (⟨"DayOpenersModel", "claimLine", "()V"⟩, 66), (⟨"DayOpenersModel", "lawLine", "()V"⟩, 66), (⟨"DayOpenersModel", "expression", "()V"⟩, 66), (⟨"DayOpenersModel", "conjunction", "()V"⟩, 66)]
theorem lw_r4 : ∀ q ∈ lw_privs_4, lw_okq q := List.forall_mem_cons.mpr ⟨lw_p48, List.forall_mem_cons.mpr ⟨lw_p49, List.forall_mem_cons.mpr ⟨lw_p50, List.forall_mem_cons.mpr ⟨lw_p51, List.forall_mem_cons.mpr ⟨lw_p52, List.forall_mem_cons.mpr ⟨lw_p53, List.forall_mem_cons.mpr ⟨lw_p54, List.forall_mem_cons.mpr ⟨lw_p55, List.forall_mem_cons.mpr ⟨lw_p56, List.forall_mem_cons.mpr ⟨lw_p57, List.forall_mem_cons.mpr ⟨lw_p58, List.forall_mem_cons.mpr ⟨lw_p59, List.forall_mem_cons.mpr ⟨lw_p60, List.forall_mem_cons.mpr ⟨lw_p61, List.forall_mem_cons.mpr ⟨lw_p62, List.forall_mem_cons.mpr ⟨lw_p63, fun _ h => absurd h List.not_mem_nil⟩⟩⟩⟩⟩⟩⟩⟩⟩⟩⟩⟩⟩⟩⟩⟩
theorem lw_p64 : lw_okq (⟨"DayOpenersModel", "negation", "()V"⟩, 66) := ⟨⟨by decide +kernel, by decide +kernel⟩, List.mem_of_getElem? (i := 1337) (by decide +kernel), List.mem_of_getElem? (i := 1648) (by decide +kernel), List.mem_of_getElem? (i := 1649) (by decide +kernel)⟩
theorem lw_p65 : lw_okq (⟨"DayOpenersModel", "isWord", "(I)Z"⟩, 66) := ⟨⟨by decide +kernel, by decide +kernel⟩, List.mem_of_getElem? (i := 1337) (by decide +kernel), List.mem_of_getElem? (i := 1652) (by decide +kernel), List.mem_of_getElem? (i := 1653) (by decide +kernel)⟩
theorem lw_p66 : lw_okq (⟨"DayOpenersModel", "knot", "()V"⟩, 66) := ⟨⟨by decide +kernel, by decide +kernel⟩, List.mem_of_getElem? (i := 1337) (by decide +kernel), List.mem_of_getElem? (i := 1656) (by decide +kernel), List.mem_of_getElem? (i := 1657) (by decide +kernel)⟩
theorem lw_p67 : lw_okq (⟨"DayOpenersModel", "puts", "(II)V"⟩, 66) := ⟨⟨by decide +kernel, by decide +kernel⟩, List.mem_of_getElem? (i := 1337) (by decide +kernel), List.mem_of_getElem? (i := 1660) (by decide +kernel), List.mem_of_getElem? (i := 1661) (by decide +kernel)⟩
theorem lw_p68 : lw_okq (⟨"DayOpenersModel", "sum", "()V"⟩, 66) := ⟨⟨by decide +kernel, by decide +kernel⟩, List.mem_of_getElem? (i := 1337) (by decide +kernel), List.mem_of_getElem? (i := 1664) (by decide +kernel), List.mem_of_getElem? (i := 1665) (by decide +kernel)⟩
theorem lw_p69 : lw_okq (⟨"DayOpenersModel", "product", "()V"⟩, 66) := ⟨⟨by decide +kernel, by decide +kernel⟩, List.mem_of_getElem? (i := 1337) (by decide +kernel), List.mem_of_getElem? (i := 1668) (by decide +kernel), List.mem_of_getElem? (i := 1669) (by decide +kernel)⟩
theorem lw_p70 : lw_okq (⟨"DayOpenersModel", "primary", "()V"⟩, 66) := ⟨⟨by decide +kernel, by decide +kernel⟩, List.mem_of_getElem? (i := 1337) (by decide +kernel), List.mem_of_getElem? (i := 1672) (by decide +kernel), List.mem_of_getElem? (i := 1673) (by decide +kernel)⟩
theorem lw_p71 : lw_okq (⟨"DayOpenersModel", "isSign", "(I)Z"⟩, 66) := ⟨⟨by decide +kernel, by decide +kernel⟩, List.mem_of_getElem? (i := 1337) (by decide +kernel), List.mem_of_getElem? (i := 1676) (by decide +kernel), List.mem_of_getElem? (i := 1677) (by decide +kernel)⟩
theorem lw_p72 : lw_okq (⟨"DayOpenersModel", "isTrade", "(I)Z"⟩, 66) := ⟨⟨by decide +kernel, by decide +kernel⟩, List.mem_of_getElem? (i := 1337) (by decide +kernel), List.mem_of_getElem? (i := 1695) (by decide +kernel), List.mem_of_getElem? (i := 1696) (by decide +kernel)⟩
theorem lw_p73 : lw_okq (⟨"DayOpenersModel", "placesOf", "(I)I"⟩, 66) := ⟨⟨by decide +kernel, by decide +kernel⟩, List.mem_of_getElem? (i := 1337) (by decide +kernel), List.mem_of_getElem? (i := 1699) (by decide +kernel), List.mem_of_getElem? (i := 1700) (by decide +kernel)⟩
theorem lw_p74 : lw_okq (⟨"DayOpenersModel", "isPlace", "(I)Z"⟩, 66) := ⟨⟨by decide +kernel, by decide +kernel⟩, List.mem_of_getElem? (i := 1337) (by decide +kernel), List.mem_of_getElem? (i := 1707) (by decide +kernel), List.mem_of_getElem? (i := 1708) (by decide +kernel)⟩
theorem lw_p75 : lw_okq (⟨"DayOpenersModel", "isWork", "(I)Z"⟩, 66) := ⟨⟨by decide +kernel, by decide +kernel⟩, List.mem_of_getElem? (i := 1337) (by decide +kernel), List.mem_of_getElem? (i := 1715) (by decide +kernel), List.mem_of_getElem? (i := 1716) (by decide +kernel)⟩
theorem lw_p76 : lw_okq (⟨"DayOpenersModel", "hasLaw", "(I)Z"⟩, 66) := ⟨⟨by decide +kernel, by decide +kernel⟩, List.mem_of_getElem? (i := 1337) (by decide +kernel), List.mem_of_getElem? (i := 1723) (by decide +kernel), List.mem_of_getElem? (i := 1724) (by decide +kernel)⟩
theorem lw_p77 : lw_okq (⟨"DayOpenersModel", "calls", "(II)V"⟩, 66) := ⟨⟨by decide +kernel, by decide +kernel⟩, List.mem_of_getElem? (i := 1337) (by decide +kernel), List.mem_of_getElem? (i := 1728) (by decide +kernel), List.mem_of_getElem? (i := 1729) (by decide +kernel)⟩
theorem lw_p78 : lw_okq (⟨"DayOpenersModel", "hourOf", "(I)I"⟩, 66) := ⟨⟨by decide +kernel, by decide +kernel⟩, List.mem_of_getElem? (i := 1337) (by decide +kernel), List.mem_of_getElem? (i := 1732) (by decide +kernel), List.mem_of_getElem? (i := 1733) (by decide +kernel)⟩
theorem lw_p79 : lw_okq (⟨"DayOpenersModel", "doneMany", "(I)I"⟩, 66) := ⟨⟨by decide +kernel, by decide +kernel⟩, List.mem_of_getElem? (i := 1337) (by decide +kernel), List.mem_of_getElem? (i := 1736) (by decide +kernel), List.mem_of_getElem? (i := 1737) (by decide +kernel)⟩
def lw_privs_5 : List (MethodName × Nat) := [(⟨"DayOpenersModel", "negation", "()V"⟩, 66), (⟨"DayOpenersModel", "isWord", "(I)Z"⟩, 66), (⟨"DayOpenersModel", "knot", "()V"⟩, 66), (⟨"DayOpenersModel", "puts", "(II)V"⟩, 66), (⟨"DayOpenersModel", "sum", "()V"⟩, 66), (⟨"DayOpenersModel", "product", "()V"⟩, 66), (⟨"DayOpenersModel", "primary", "()V"⟩, 66), (⟨"DayOpenersModel", "isSign", "(I)Z"⟩, 66), (⟨"DayOpenersModel", "isTrade", "(I)Z"⟩, 66), (⟨"DayOpenersModel", "placesOf", "(I)I"⟩, 66), (⟨"DayOpenersModel", "isPlace", "(I)Z"⟩, 66), (⟨"DayOpenersModel", "isWork", "(I)Z"⟩, 66), (⟨"DayOpenersModel", "hasLaw", "(I)Z"⟩, 66), (⟨"DayOpenersModel", "calls", "(II)V"⟩, 66), (⟨"DayOpenersModel", "hourOf", "(I)I"⟩, 66), (⟨"DayOpenersModel", "doneMany", "(I)I"⟩, 66)]
theorem lw_r5 : ∀ q ∈ lw_privs_5, lw_okq q := List.forall_mem_cons.mpr ⟨lw_p64, List.forall_mem_cons.mpr ⟨lw_p65, List.forall_mem_cons.mpr ⟨lw_p66, List.forall_mem_cons.mpr ⟨lw_p67, List.forall_mem_cons.mpr ⟨lw_p68, List.forall_mem_cons.mpr ⟨lw_p69, List.forall_mem_cons.mpr ⟨lw_p70, List.forall_mem_cons.mpr ⟨lw_p71, List.forall_mem_cons.mpr ⟨lw_p72, List.forall_mem_cons.mpr ⟨lw_p73, List.forall_mem_cons.mpr ⟨lw_p74, List.forall_mem_cons.mpr ⟨lw_p75, List.forall_mem_cons.mpr ⟨lw_p76, List.forall_mem_cons.mpr ⟨lw_p77, List.forall_mem_cons.mpr ⟨lw_p78, List.forall_mem_cons.mpr ⟨lw_p79, fun _ h => absurd h List.not_mem_nil⟩⟩⟩⟩⟩⟩⟩⟩⟩⟩⟩⟩⟩⟩⟩⟩
theorem lw_p80 : lw_okq (⟨"DayOpenersModel", "isDone", "(II)Z"⟩, 66) := ⟨⟨by decide +kernel, by decide +kernel⟩, List.mem_of_getElem? (i := 1337) (by decide +kernel), List.mem_of_getElem? (i := 1740) (by decide +kernel), List.mem_of_getElem? (i := 1741) (by decide +kernel)⟩
theorem lw_p81 : lw_okq (⟨"DayOpenersModel", "goes", "(I)Z"⟩, 66) := ⟨⟨by decide +kernel, by decide +kernel⟩, List.mem_of_getElem? (i := 1337) (by decide +kernel), List.mem_of_getElem? (i := 1744) (by decide +kernel), List.mem_of_getElem? (i := 1745) (by decide +kernel)⟩
theorem lw_p82 : lw_okq (⟨"DayOpenersModel", "works", "(I)Z"⟩, 66) := ⟨⟨by decide +kernel, by decide +kernel⟩, List.mem_of_getElem? (i := 1337) (by decide +kernel), List.mem_of_getElem? (i := 1748) (by decide +kernel), List.mem_of_getElem? (i := 1749) (by decide +kernel)⟩
theorem lw_p83 : lw_okq (⟨"DayOpenersModel", "lengthOf", "(II)I"⟩, 66) := ⟨⟨by decide +kernel, by decide +kernel⟩, List.mem_of_getElem? (i := 1337) (by decide +kernel), List.mem_of_getElem? (i := 1762) (by decide +kernel), List.mem_of_getElem? (i := 1763) (by decide +kernel)⟩
theorem lw_p84 : lw_okq (⟨"DayOpenersModel", "within", "(IIII)I"⟩, 66) := ⟨⟨by decide +kernel, by decide +kernel⟩, List.mem_of_getElem? (i := 1337) (by decide +kernel), List.mem_of_getElem? (i := 1766) (by decide +kernel), List.mem_of_getElem? (i := 1767) (by decide +kernel)⟩
theorem lw_p85 : lw_okq (⟨"DayOpenersModel", "keepNow", "()V"⟩, 66) := ⟨⟨by decide +kernel, by decide +kernel⟩, List.mem_of_getElem? (i := 1337) (by decide +kernel), List.mem_of_getElem? (i := 1776) (by decide +kernel), List.mem_of_getElem? (i := 1777) (by decide +kernel)⟩
theorem lw_p86 : lw_okq (⟨"DayOpenersModel", "copies", "(II)V"⟩, 66) := ⟨⟨by decide +kernel, by decide +kernel⟩, List.mem_of_getElem? (i := 1337) (by decide +kernel), List.mem_of_getElem? (i := 1780) (by decide +kernel), List.mem_of_getElem? (i := 1781) (by decide +kernel)⟩
theorem lw_p87 : lw_okq (⟨"DayOpenersModel", "passes", "(IZ)V"⟩, 66) := ⟨⟨by decide +kernel, by decide +kernel⟩, List.mem_of_getElem? (i := 1337) (by decide +kernel), List.mem_of_getElem? (i := 1796) (by decide +kernel), List.mem_of_getElem? (i := 1797) (by decide +kernel)⟩
theorem lw_p88 : lw_okq (⟨"DayOpenersModel", "whoOpens", "(IZ)I"⟩, 66) := ⟨⟨by decide +kernel, by decide +kernel⟩, List.mem_of_getElem? (i := 1337) (by decide +kernel), List.mem_of_getElem? (i := 1800) (by decide +kernel), List.mem_of_getElem? (i := 1801) (by decide +kernel)⟩
theorem lw_p89 : lw_okq (⟨"DayOpenersModel", "byTurn", "(IZ)I"⟩, 66) := ⟨⟨by decide +kernel, by decide +kernel⟩, List.mem_of_getElem? (i := 1337) (by decide +kernel), List.mem_of_getElem? (i := 1804) (by decide +kernel), List.mem_of_getElem? (i := 1805) (by decide +kernel)⟩
theorem lw_p90 : lw_okq (⟨"DayOpenersModel", "isMistake", "(IZ)Z"⟩, 66) := ⟨⟨by decide +kernel, by decide +kernel⟩, List.mem_of_getElem? (i := 1337) (by decide +kernel), List.mem_of_getElem? (i := 1808) (by decide +kernel), List.mem_of_getElem? (i := 1809) (by decide +kernel)⟩
theorem lw_p91 : lw_okq (⟨"DayOpenersModel", "wills", "(II)Z"⟩, 66) := ⟨⟨by decide +kernel, by decide +kernel⟩, List.mem_of_getElem? (i := 1337) (by decide +kernel), List.mem_of_getElem? (i := 1814) (by decide +kernel), List.mem_of_getElem? (i := 1815) (by decide +kernel)⟩
theorem lw_p92 : lw_okq (⟨"DayOpenersModel", "opens", "(II)V"⟩, 66) := ⟨⟨by decide +kernel, by decide +kernel⟩, List.mem_of_getElem? (i := 1337) (by decide +kernel), List.mem_of_getElem? (i := 1818) (by decide +kernel), List.mem_of_getElem? (i := 1819) (by decide +kernel)⟩
theorem lw_p93 : lw_okq (⟨"DayOpenersModel", "lengthsIn", "(I)I"⟩, 66) := ⟨⟨by decide +kernel, by decide +kernel⟩, List.mem_of_getElem? (i := 1337) (by decide +kernel), List.mem_of_getElem? (i := 1831) (by decide +kernel), List.mem_of_getElem? (i := 1832) (by decide +kernel)⟩
theorem lw_p94 : lw_okq (⟨"DayOpenersModel", "goesOn", "(I)V"⟩, 66) := ⟨⟨by decide +kernel, by decide +kernel⟩, List.mem_of_getElem? (i := 1337) (by decide +kernel), List.mem_of_getElem? (i := 1839) (by decide +kernel), List.mem_of_getElem? (i := 1840) (by decide +kernel)⟩
theorem lw_p95 : lw_okq (⟨"DayOpenersModel", "planned", "()I"⟩, 66) := ⟨⟨by decide +kernel, by decide +kernel⟩, List.mem_of_getElem? (i := 1337) (by decide +kernel), List.mem_of_getElem? (i := 1867) (by decide +kernel), List.mem_of_getElem? (i := 1868) (by decide +kernel)⟩
def lw_privs_6 : List (MethodName × Nat) := [(⟨"DayOpenersModel", "isDone", "(II)Z"⟩, 66), (⟨"DayOpenersModel", "goes", "(I)Z"⟩, 66), (⟨"DayOpenersModel", "works", "(I)Z"⟩, 66), (⟨"DayOpenersModel", "lengthOf", "(II)I"⟩, 66), (⟨"DayOpenersModel", "within", "(IIII)I"⟩, 66), (⟨"DayOpenersModel", "keepNow", "()V"⟩, 66), (⟨"DayOpenersModel", "copies", "(II)V"⟩, 66), (⟨"DayOpenersModel", "passes", "(IZ)V"⟩, 66), (⟨"DayOpenersModel", "whoOpens", "(IZ)I"⟩, 66), (⟨"DayOpenersModel", "byTurn", "(IZ)I"⟩, 66), (⟨"DayOpenersModel", "isMistake", "(IZ)Z"⟩, 66), (⟨"DayOpenersModel", "wills", "(II)Z"⟩, 66), (⟨"DayOpenersModel", "opens", "(II)V"⟩, 66), (⟨"DayOpenersModel", "lengthsIn", "(I)I"⟩, 66), (⟨"DayOpenersModel", "goesOn", "(I)V"⟩, 66), (⟨"DayOpenersModel", "planned", "()I"⟩, 66)]
theorem lw_r6 : ∀ q ∈ lw_privs_6, lw_okq q := List.forall_mem_cons.mpr ⟨lw_p80, List.forall_mem_cons.mpr ⟨lw_p81, List.forall_mem_cons.mpr ⟨lw_p82, List.forall_mem_cons.mpr ⟨lw_p83, List.forall_mem_cons.mpr ⟨lw_p84, List.forall_mem_cons.mpr ⟨lw_p85, List.forall_mem_cons.mpr ⟨lw_p86, List.forall_mem_cons.mpr ⟨lw_p87, List.forall_mem_cons.mpr ⟨lw_p88, List.forall_mem_cons.mpr ⟨lw_p89, List.forall_mem_cons.mpr ⟨lw_p90, List.forall_mem_cons.mpr ⟨lw_p91, List.forall_mem_cons.mpr ⟨lw_p92, List.forall_mem_cons.mpr ⟨lw_p93, List.forall_mem_cons.mpr ⟨lw_p94, List.forall_mem_cons.mpr ⟨lw_p95, fun _ h => absurd h List.not_mem_nil⟩⟩⟩⟩⟩⟩⟩⟩⟩⟩⟩⟩⟩⟩⟩⟩
theorem lw_p96 : lw_okq (⟨"DayOpenersModel", "gives", "(II)Z"⟩, 66) := ⟨⟨by decide +kernel, by decide +kernel⟩, List.mem_of_getElem? (i := 1337) (by decide +kernel), List.mem_of_getElem? (i := 1871) (by decide +kernel), List.mem_of_getElem? (i := 1872) (by decide +kernel)⟩
theorem lw_p97 : lw_okq (⟨"DayOpenersModel", "doesAll", "()Z"⟩, 66) := ⟨⟨by decide +kernel, by decide +kernel⟩, List.mem_of_getElem? (i := 1337) (by decide +kernel), List.mem_of_getElem? (i := 1875) (by decide +kernel), List.mem_of_getElem? (i := 1876) (by decide +kernel)⟩
theorem lw_p98 : lw_okq (⟨"DayOpenersModel", "lays", "(II)V"⟩, 66) := ⟨⟨by decide +kernel, by decide +kernel⟩, List.mem_of_getElem? (i := 1337) (by decide +kernel), List.mem_of_getElem? (i := 1883) (by decide +kernel), List.mem_of_getElem? (i := 1884) (by decide +kernel)⟩
theorem lw_p99 : lw_okq (⟨"DayOpenersModel", "closes", "(I)V"⟩, 66) := ⟨⟨by decide +kernel, by decide +kernel⟩, List.mem_of_getElem? (i := 1337) (by decide +kernel), List.mem_of_getElem? (i := 1891) (by decide +kernel), List.mem_of_getElem? (i := 1892) (by decide +kernel)⟩
theorem lw_p100 : lw_okq (⟨"DayOpenersModel", "wantAt", "(I)I"⟩, 66) := ⟨⟨by decide +kernel, by decide +kernel⟩, List.mem_of_getElem? (i := 1337) (by decide +kernel), List.mem_of_getElem? (i := 1895) (by decide +kernel), List.mem_of_getElem? (i := 1896) (by decide +kernel)⟩
theorem lw_p101 : lw_okq (⟨"DayOpenersModel", "mannerAt", "(I)I"⟩, 66) := ⟨⟨by decide +kernel, by decide +kernel⟩, List.mem_of_getElem? (i := 1337) (by decide +kernel), List.mem_of_getElem? (i := 1899) (by decide +kernel), List.mem_of_getElem? (i := 1900) (by decide +kernel)⟩
theorem lw_p102 : lw_okq (⟨"DayOpenersModel", "placesIn", "(I)I"⟩, 66) := ⟨⟨by decide +kernel, by decide +kernel⟩, List.mem_of_getElem? (i := 1337) (by decide +kernel), List.mem_of_getElem? (i := 1914) (by decide +kernel), List.mem_of_getElem? (i := 1915) (by decide +kernel)⟩
theorem lw_p103 : lw_okq (⟨"DayOpenersModel", "areTwo", "(II)Z"⟩, 66) := ⟨⟨by decide +kernel, by decide +kernel⟩, List.mem_of_getElem? (i := 1337) (by decide +kernel), List.mem_of_getElem? (i := 1930) (by decide +kernel), List.mem_of_getElem? (i := 1931) (by decide +kernel)⟩
theorem lw_p104 : lw_okq (⟨"DayOpenersModel", "restOf", "(III)I"⟩, 66) := ⟨⟨by decide +kernel, by decide +kernel⟩, List.mem_of_getElem? (i := 1337) (by decide +kernel), List.mem_of_getElem? (i := 1934) (by decide +kernel), List.mem_of_getElem? (i := 1935) (by decide +kernel)⟩
theorem lw_p105 : lw_okq (⟨"DayOpenersModel", "isRest", "(III)Z"⟩, 66) := ⟨⟨by decide +kernel, by decide +kernel⟩, List.mem_of_getElem? (i := 1337) (by decide +kernel), List.mem_of_getElem? (i := 1938) (by decide +kernel), List.mem_of_getElem? (i := 1939) (by decide +kernel)⟩
theorem lw_p106 : lw_okq (⟨"DayOpenersModel", "hasOf", "(IIII)I"⟩, 66) := ⟨⟨by decide +kernel, by decide +kernel⟩, List.mem_of_getElem? (i := 1337) (by decide +kernel), List.mem_of_getElem? (i := 1942) (by decide +kernel), List.mem_of_getElem? (i := 1943) (by decide +kernel)⟩
theorem lw_p107 : lw_okq (⟨"DayOpenersModel", "hoursOf", "(I)I"⟩, 66) := ⟨⟨by decide +kernel, by decide +kernel⟩, List.mem_of_getElem? (i := 1337) (by decide +kernel), List.mem_of_getElem? (i := 1972) (by decide +kernel), List.mem_of_getElem? (i := 1973) (by decide +kernel)⟩
theorem lw_p108 : lw_okq (⟨"DayOpenersModel", "knownMany", "()I"⟩, 66) := ⟨⟨by decide +kernel, by decide +kernel⟩, List.mem_of_getElem? (i := 1337) (by decide +kernel), List.mem_of_getElem? (i := 1976) (by decide +kernel), List.mem_of_getElem? (i := 1977) (by decide +kernel)⟩
theorem lw_p109 : lw_okq (⟨"DayOpenersModel", "fitsHour", "(I)Z"⟩, 66) := ⟨⟨by decide +kernel, by decide +kernel⟩, List.mem_of_getElem? (i := 1337) (by decide +kernel), List.mem_of_getElem? (i := 1980) (by decide +kernel), List.mem_of_getElem? (i := 1981) (by decide +kernel)⟩
theorem lw_p110 : lw_okq (⟨"DayOpenersModel", "isSo", "(I)Z"⟩, 66) := ⟨⟨by decide +kernel, by decide +kernel⟩, List.mem_of_getElem? (i := 1337) (by decide +kernel), List.mem_of_getElem? (i := 1984) (by decide +kernel), List.mem_of_getElem? (i := 1985) (by decide +kernel)⟩
theorem lw_p111 : lw_okq (⟨"DayOpenersModel", "worstAt", "(II)I"⟩, 66) := ⟨⟨by decide +kernel, by decide +kernel⟩, List.mem_of_getElem? (i := 1337) (by decide +kernel), List.mem_of_getElem? (i := 1992) (by decide +kernel), List.mem_of_getElem? (i := 1993) (by decide +kernel)⟩
def lw_privs_7 : List (MethodName × Nat) := [(⟨"DayOpenersModel", "gives", "(II)Z"⟩, 66), (⟨"DayOpenersModel", "doesAll", "()Z"⟩, 66), (⟨"DayOpenersModel", "lays", "(II)V"⟩, 66), (⟨"DayOpenersModel", "closes", "(I)V"⟩, 66), (⟨"DayOpenersModel", "wantAt", "(I)I"⟩, 66), (⟨"DayOpenersModel", "mannerAt", "(I)I"⟩, 66), (⟨"DayOpenersModel", "placesIn", "(I)I"⟩, 66), (⟨"DayOpenersModel", "areTwo", "(II)Z"⟩, 66), (⟨"DayOpenersModel", "restOf", "(III)I"⟩, 66), (⟨"DayOpenersModel", "isRest", "(III)Z"⟩, 66), (⟨"DayOpenersModel", "hasOf", "(IIII)I"⟩, 66), (⟨"DayOpenersModel", "hoursOf", "(I)I"⟩, 66), (⟨"DayOpenersModel", "knownMany", "()I"⟩, 66), (⟨"DayOpenersModel", "fitsHour", "(I)Z"⟩, 66), (⟨"DayOpenersModel", "isSo", "(I)Z"⟩, 66), (⟨"DayOpenersModel", "worstAt", "(II)I"⟩, 66)]
theorem lw_r7 : ∀ q ∈ lw_privs_7, lw_okq q := List.forall_mem_cons.mpr ⟨lw_p96, List.forall_mem_cons.mpr ⟨lw_p97, List.forall_mem_cons.mpr ⟨lw_p98, List.forall_mem_cons.mpr ⟨lw_p99, List.forall_mem_cons.mpr ⟨lw_p100, List.forall_mem_cons.mpr ⟨lw_p101, List.forall_mem_cons.mpr ⟨lw_p102, List.forall_mem_cons.mpr ⟨lw_p103, List.forall_mem_cons.mpr ⟨lw_p104, List.forall_mem_cons.mpr ⟨lw_p105, List.forall_mem_cons.mpr ⟨lw_p106, List.forall_mem_cons.mpr ⟨lw_p107, List.forall_mem_cons.mpr ⟨lw_p108, List.forall_mem_cons.mpr ⟨lw_p109, List.forall_mem_cons.mpr ⟨lw_p110, List.forall_mem_cons.mpr ⟨lw_p111, fun _ h => absurd h List.not_mem_nil⟩⟩⟩⟩⟩⟩⟩⟩⟩⟩⟩⟩⟩⟩⟩⟩
theorem lw_p112 : lw_okq (⟨"DayOpenersModel", "knownAll", "()I"⟩, 66) := ⟨⟨by decide +kernel, by decide +kernel⟩, List.mem_of_getElem? (i := 1337) (by decide +kernel), List.mem_of_getElem? (i := 2020) (by decide +kernel), List.mem_of_getElem? (i := 2021) (by decide +kernel)⟩
def lw_privs_8 : List (MethodName × Nat) := [(⟨"DayOpenersModel", "knownAll", "()I"⟩, 66)]
theorem lw_r8 : ∀ q ∈ lw_privs_8, lw_okq q := List.forall_mem_cons.mpr ⟨lw_p112, fun _ h => absurd h List.not_mem_nil⟩
def lw_privs : List (MethodName × Nat) := lw_privs_1 ++ (lw_privs_2 ++ (lw_privs_3 ++ (lw_privs_4 ++ (lw_privs_5 ++ (lw_privs_6 ++ (lw_privs_7 ++ (lw_privs_8)))))))
def lw_tbl : List Cond := k2_sels lw_privs ++ tables_1
theorem lw_privs_ok : ∀ q ∈ lw_privs, lw_okq q := by
  show ∀ q ∈ lw_privs_1 ++ (lw_privs_2 ++ (lw_privs_3 ++ (lw_privs_4 ++ (lw_privs_5 ++ (lw_privs_6 ++ (lw_privs_7 ++ (lw_privs_8))))))), lw_okq q
  exact List.forall_mem_append.mpr ⟨lw_r1, List.forall_mem_append.mpr ⟨lw_r2, List.forall_mem_append.mpr ⟨lw_r3, List.forall_mem_append.mpr ⟨lw_r4, List.forall_mem_append.mpr ⟨lw_r5, List.forall_mem_append.mpr ⟨lw_r6, List.forall_mem_append.mpr ⟨lw_r7, lw_r8⟩⟩⟩⟩⟩⟩⟩
def RX0 : String := "DayOpeners$Course"
def TX0 : u_T := fun k => match k with
  | 0 => ("DayOpeners$Course", "told", "LDayOpeners$Told;", false)
  | 1 => ("DayOpeners$Course", "hours", "LDayOpeners$Row;", true)
  | 2 => ("DayOpeners$Course", "drawing", "Z", false)
  | 3 => ("DayOpeners$Course", "claimsHold", "Z", false)
  | 4 => ("DayOpeners$Course", "slip", "I", false)
  | _ => ("DayOpeners$Course", "unwilling", "I", false)
def tyX0 : Nat → FieldType := fun k => match k with
  | 0 => .object "DayOpeners$Told"
  | 1 => .object "DayOpeners$Row"
  | 2 => .boolean
  | 3 => .boolean
  | 4 => .int
  | _ => .int
theorem nmX0 : ∀ a, a < 6 → ∀ b, b < 6 → a ≠ b → (TX0 a).2.1 ≠ (TX0 b).2.1 := by decide +kernel
theorem tyX0_ok : ∀ k, k < 6 → parseFieldDescriptor (TX0 k).2.2.1 = some (tyX0 k) := by decide +kernel
abbrev cX0_init : ByteArray := prog_2_method_1_code
def yX0_init : MethodName := ⟨RX0, "<init>", "()V"⟩
abbrev cX0_goesOf : ByteArray := prog_2_method_2_code
def yX0_goesOf : MethodName := ⟨RX0, "goesOf", "(LDayOpeners$Told;)V"⟩
abbrev cX0_differs : ByteArray := prog_2_method_3_code
def yX0_differs : MethodName := ⟨RX0, "differs", "(II)V"⟩
abbrev cX0_daysGo : ByteArray := prog_2_method_4_code
def yX0_daysGo : MethodName := ⟨RX0, "daysGo", "(LDayOpeners$State;I)V"⟩
abbrev cX0_dayGoes : ByteArray := prog_2_method_5_code
def yX0_dayGoes : MethodName := ⟨RX0, "dayGoes", "(LDayOpeners$State;)V"⟩
abbrev cX0_byTurns : ByteArray := prog_2_method_6_code
def yX0_byTurns : MethodName := ⟨RX0, "byTurns", "(LDayOpeners$State;)I"⟩
abbrev cX0_isMistake : ByteArray := prog_2_method_7_code
def yX0_isMistake : MethodName := ⟨RX0, "isMistake", "(LDayOpeners$State;)Z"⟩
abbrev cX0_lengthBy : ByteArray := prog_2_method_8_code
def yX0_lengthBy : MethodName := ⟨RX0, "lengthBy", "(LDayOpeners$State;I)I"⟩
abbrev cX0_bounded : ByteArray := prog_2_method_9_code
def yX0_bounded : MethodName := ⟨RX0, "bounded", "(JIII)I"⟩
abbrev cX0_worth : ByteArray := prog_2_method_10_code
def yX0_worth : MethodName := ⟨RX0, "worth", "(LDayOpeners$State;II)J"⟩
def RX1 : String := "DayOpeners$Laws"
def TX1 : u_T := fun k => match k with
  | 0 => ("DayOpeners$Laws", "kinds", "LDayOpeners$Row;", true)
  | 1 => ("DayOpeners$Laws", "values", "LDayOpeners$Row;", true)
  | 2 => ("DayOpeners$Laws", "begins", "LDayOpeners$Row;", true)
  | 3 => ("DayOpeners$Laws", "ends", "LDayOpeners$Row;", true)
  | 4 => ("DayOpeners$Laws", "names", "[J", true)
  | 5 => ("DayOpeners$Laws", "stack", "[J", true)
  | _ => ("DayOpeners$Laws", "knots", "I", false)
def tyX1 : Nat → FieldType := fun k => match k with
  | 0 => .object "DayOpeners$Row"
  | 1 => .object "DayOpeners$Row"
  | 2 => .object "DayOpeners$Row"
  | 3 => .object "DayOpeners$Row"
  | 4 => .array .long
  | 5 => .array .long
  | _ => .int
theorem nmX1 : ∀ a, a < 7 → ∀ b, b < 7 → a ≠ b → (TX1 a).2.1 ≠ (TX1 b).2.1 := by decide +kernel
theorem tyX1_ok : ∀ k, k < 7 → parseFieldDescriptor (TX1 k).2.2.1 = some (tyX1 k) := by decide +kernel
abbrev cX1_init : ByteArray := prog_3_method_1_code
def yX1_init : MethodName := ⟨RX1, "<init>", "()V"⟩
abbrev cX1_clear : ByteArray := prog_3_method_2_code
def yX1_clear : MethodName := ⟨RX1, "clear", "()V"⟩
abbrev cX1_begin : ByteArray := prog_3_method_3_code
def yX1_begin : MethodName := ⟨RX1, "begin", "(I)V"⟩
abbrev cX1_add : ByteArray := prog_3_method_4_code
def yX1_add : MethodName := ⟨RX1, "add", "(II)V"⟩
abbrev cX1_end : ByteArray := prog_3_method_5_code
def yX1_end : MethodName := ⟨RX1, "end", "(I)V"⟩
abbrev cX1_has : ByteArray := prog_3_method_6_code
def yX1_has : MethodName := ⟨RX1, "has", "(I)Z"⟩
abbrev cX1_setName : ByteArray := prog_3_method_7_code
def yX1_setName : MethodName := ⟨RX1, "setName", "(IJ)V"⟩
abbrev cX1_nameWorth : ByteArray := prog_3_method_8_code
def yX1_nameWorth : MethodName := ⟨RX1, "nameWorth", "(I)J"⟩
abbrev cX1_worth : ByteArray := prog_3_method_9_code
def yX1_worth : MethodName := ⟨RX1, "worth", "(I)J"⟩
abbrev cX1_joined : ByteArray := prog_3_method_10_code
def yX1_joined : MethodName := ⟨RX1, "joined", "(IJJ)J"⟩
def RX2 : String := "DayOpeners$Notes"
def TX2 : u_T := fun k => match k with
  | 0 => ("DayOpeners$Notes", "kinds", "LDayOpeners$Row;", true)
  | 1 => ("DayOpeners$Notes", "abouts", "LDayOpeners$Row;", true)
  | 2 => ("DayOpeners$Notes", "lengths", "LDayOpeners$Row;", true)
  | 3 => ("DayOpeners$Notes", "struck", "LDayOpeners$Row;", true)
  | 4 => ("DayOpeners$Notes", "lasts", "LDayOpeners$Row;", true)
  | 5 => ("DayOpeners$Notes", "answers", "LDayOpeners$Row;", true)
  | 6 => ("DayOpeners$Notes", "size", "I", false)
  | 7 => ("DayOpeners$Notes", "by", "I", false)
  | 8 => ("DayOpeners$Notes", "askedBehind", "I", false)
  | _ => ("DayOpeners$Notes", "leftAtWorst", "I", false)
def tyX2 : Nat → FieldType := fun k => match k with
  | 0 => .object "DayOpeners$Row"
  | 1 => .object "DayOpeners$Row"
  | 2 => .object "DayOpeners$Row"
  | 3 => .object "DayOpeners$Row"
  | 4 => .object "DayOpeners$Row"
  | 5 => .object "DayOpeners$Row"
  | 6 => .int
  | 7 => .int
  | 8 => .int
  | _ => .int
theorem nmX2 : ∀ a, a < 10 → ∀ b, b < 10 → a ≠ b → (TX2 a).2.1 ≠ (TX2 b).2.1 := by decide +kernel
theorem tyX2_ok : ∀ k, k < 10 → parseFieldDescriptor (TX2 k).2.2.1 = some (tyX2 k) := by decide +kernel
abbrev cX2_init : ByteArray := prog_4_method_1_code
def yX2_init : MethodName := ⟨RX2, "<init>", "()V"⟩
abbrev cX2_clear : ByteArray := prog_4_method_2_code
def yX2_clear : MethodName := ⟨RX2, "clear", "()V"⟩
abbrev cX2_add : ByteArray := prog_4_method_3_code
def yX2_add : MethodName := ⟨RX2, "add", "(III)I"⟩
abbrev cX2_byHowMany : ByteArray := prog_4_method_4_code
def yX2_byHowMany : MethodName := ⟨RX2, "byHowMany", "()I"⟩
abbrev cX2_strikeOut : ByteArray := prog_4_method_5_code
def yX2_strikeOut : MethodName := ⟨RX2, "strikeOut", "()V"⟩
abbrev cX2_tells : ByteArray := prog_4_method_6_code
def yX2_tells : MethodName := ⟨RX2, "tells", "(I)Z"⟩
abbrev cX2_longest : ByteArray := prog_4_method_7_code
def yX2_longest : MethodName := ⟨RX2, "longest", "()I"⟩
abbrev cX2_sees : ByteArray := prog_4_method_8_code
def yX2_sees : MethodName := ⟨RX2, "sees", "(III)V"⟩
abbrev cX2_lastBehind : ByteArray := prog_4_method_9_code
def yX2_lastBehind : MethodName := ⟨RX2, "lastBehind", "(II)I"⟩
abbrev cX2_fits : ByteArray := prog_4_method_10_code
def yX2_fits : MethodName := ⟨RX2, "fits", "(II)Z"⟩
abbrev cX2_fitting : ByteArray := prog_4_method_11_code
def yX2_fitting : MethodName := ⟨RX2, "fitting", "()I"⟩
abbrev cX2_seekQuestion : ByteArray := prog_4_method_12_code
def yX2_seekQuestion : MethodName := ⟨RX2, "seekQuestion", "(I)V"⟩
abbrev cX2_worstOf : ByteArray := prog_4_method_13_code
def yX2_worstOf : MethodName := ⟨RX2, "worstOf", "(II)I"⟩
def RX3 : String := "DayOpeners$Parser"
def TX3 : u_T := fun k => match k with
  | 0 => ("DayOpeners$Parser", "tokens", "LDayOpeners$Tokens;", true)
  | 1 => ("DayOpeners$Parser", "told", "LDayOpeners$Told;", false)
  | 2 => ("DayOpeners$Parser", "fault", "I", false)
  | 3 => ("DayOpeners$Parser", "place", "I", false)
  | 4 => ("DayOpeners$Parser", "slipTold", "Z", false)
  | 5 => ("DayOpeners$Parser", "seedTold", "Z", false)
  | 6 => ("DayOpeners$Parser", "waiting", "LDayOpeners$Row;", true)
  | 7 => ("DayOpeners$Parser", "waits", "I", false)
  | 8 => ("DayOpeners$Parser", "open", "I", false)
  | _ => ("DayOpeners$Parser", "counted", "I", false)
def tyX3 : Nat → FieldType := fun k => match k with
  | 0 => .object "DayOpeners$Tokens"
  | 1 => .object "DayOpeners$Told"
  | 2 => .int
  | 3 => .int
  | 4 => .boolean
  | 5 => .boolean
  | 6 => .object "DayOpeners$Row"
  | 7 => .int
  | 8 => .int
  | _ => .int
theorem nmX3 : ∀ a, a < 10 → ∀ b, b < 10 → a ≠ b → (TX3 a).2.1 ≠ (TX3 b).2.1 := by decide +kernel
theorem tyX3_ok : ∀ k, k < 10 → parseFieldDescriptor (TX3 k).2.2.1 = some (tyX3 k) := by decide +kernel
abbrev cX3_init : ByteArray := prog_5_method_1_code
def yX3_init : MethodName := ⟨RX3, "<init>", "()V"⟩
abbrev cX3_reads : ByteArray := prog_5_method_2_code
def yX3_reads : MethodName := ⟨RX3, "reads", "(LDayOpeners$Row;ILDayOpeners$Told;)Z"⟩
abbrev cX3_fails : ByteArray := prog_5_method_3_code
def yX3_fails : MethodName := ⟨RX3, "fails", "(I)Z"⟩
abbrev cX3_line : ByteArray := prog_5_method_4_code
def yX3_line : MethodName := ⟨RX3, "line", "()Z"⟩
abbrev cX3_ends : ByteArray := prog_5_method_5_code
def yX3_ends : MethodName := ⟨RX3, "ends", "()Z"⟩
abbrev cX3_isNewName : ByteArray := prog_5_method_6_code
def yX3_isNewName : MethodName := ⟨RX3, "isNewName", "(I)Z"⟩
abbrev cX3_isTrade : ByteArray := prog_5_method_7_code
def yX3_isTrade : MethodName := ⟨RX3, "isTrade", "()Z"⟩
abbrev cX3_isNumber : ByteArray := prog_5_method_8_code
def yX3_isNumber : MethodName := ⟨RX3, "isNumber", "(II)Z"⟩
abbrev cX3_taken : ByteArray := prog_5_method_9_code
def yX3_taken : MethodName := ⟨RX3, "taken", "()I"⟩
abbrev cX3_trades : ByteArray := prog_5_method_10_code
def yX3_trades : MethodName := ⟨RX3, "trades", "()Z"⟩
abbrev cX3_turns : ByteArray := prog_5_method_11_code
def yX3_turns : MethodName := ⟨RX3, "turns", "()Z"⟩
abbrev cX3_claims : ByteArray := prog_5_method_12_code
def yX3_claims : MethodName := ⟨RX3, "claims", "()Z"⟩
abbrev cX3_works : ByteArray := prog_5_method_13_code
def yX3_works : MethodName := ⟨RX3, "works", "()Z"⟩
abbrev cX3_slips : ByteArray := prog_5_method_14_code
def yX3_slips : MethodName := ⟨RX3, "slips", "()Z"⟩
abbrev cX3_seeds : ByteArray := prog_5_method_15_code
def yX3_seeds : MethodName := ⟨RX3, "seeds", "()Z"⟩
abbrev cX3_laws : ByteArray := prog_5_method_16_code
def yX3_laws : MethodName := ⟨RX3, "laws", "()Z"⟩
abbrev cX3_beginsPart : ByteArray := prog_5_method_17_code
def yX3_beginsPart : MethodName := ⟨RX3, "beginsPart", "()Z"⟩
abbrev cX3_endsPart : ByteArray := prog_5_method_18_code
def yX3_endsPart : MethodName := ⟨RX3, "endsPart", "()Z"⟩
abbrev cX3_counts : ByteArray := prog_5_method_19_code
def yX3_counts : MethodName := ⟨RX3, "counts", "()Z"⟩
abbrev cX3_tells : ByteArray := prog_5_method_20_code
def yX3_tells : MethodName := ⟨RX3, "tells", "(II)Z"⟩
abbrev cX3_hold : ByteArray := prog_5_method_21_code
def yX3_hold : MethodName := ⟨RX3, "hold", "(I)Z"⟩
abbrev cX3_topWaiting : ByteArray := prog_5_method_22_code
def yX3_topWaiting : MethodName := ⟨RX3, "topWaiting", "()I"⟩
abbrev cX3_unwind : ByteArray := prog_5_method_23_code
def yX3_unwind : MethodName := ⟨RX3, "unwind", "(I)V"⟩
abbrev cX3_rank : ByteArray := prog_5_method_24_code
def yX3_rank : MethodName := ⟨RX3, "rank", "(I)I"⟩
def RX4 : String := "DayOpeners$Plans"
def TX4 : u_T := fun k => match k with
  | 0 => ("DayOpeners$Plans", "shares", "LDayOpeners$Row;", true)
  | 1 => ("DayOpeners$Plans", "suits", "LDayOpeners$Row;", true)
  | 2 => ("DayOpeners$Plans", "bestRow", "LDayOpeners$Row;", true)
  | 3 => ("DayOpeners$Plans", "row", "LDayOpeners$Row;", true)
  | 4 => ("DayOpeners$Plans", "states", "[LDayOpeners$State;", true)
  | 5 => ("DayOpeners$Plans", "days", "I", false)
  | 6 => ("DayOpeners$Plans", "most", "I", false)
  | 7 => ("DayOpeners$Plans", "told", "LDayOpeners$Told;", false)
  | _ => ("DayOpeners$Plans", "begun", "LDayOpeners$State;", false)
def tyX4 : Nat → FieldType := fun k => match k with
  | 0 => .object "DayOpeners$Row"
  | 1 => .object "DayOpeners$Row"
  | 2 => .object "DayOpeners$Row"
  | 3 => .object "DayOpeners$Row"
  | 4 => .array (.object "DayOpeners$State")
  | 5 => .int
  | 6 => .int
  | 7 => .object "DayOpeners$Told"
  | _ => .object "DayOpeners$State"
theorem nmX4 : ∀ a, a < 9 → ∀ b, b < 9 → a ≠ b → (TX4 a).2.1 ≠ (TX4 b).2.1 := by decide +kernel
theorem tyX4_ok : ∀ k, k < 9 → parseFieldDescriptor (TX4 k).2.2.1 = some (tyX4 k) := by decide +kernel
abbrev cX4_init : ByteArray := prog_6_method_1_code
def yX4_init : MethodName := ⟨RX4, "<init>", "()V"⟩
abbrev cX4_fewest : ByteArray := prog_6_method_2_code
def yX4_fewest : MethodName := ⟨RX4, "fewest", "(LDayOpeners$Told;LDayOpeners$State;LDayOpeners$Course;)I"⟩
abbrev cX4_spreads : ByteArray := prog_6_method_3_code
def yX4_spreads : MethodName := ⟨RX4, "spreads", "(LDayOpeners$Plans;II)Z"⟩
abbrev cX4_allDone : ByteArray := prog_6_method_4_code
def yX4_allDone : MethodName := ⟨RX4, "allDone", "()Z"⟩
abbrev cX4_begin : ByteArray := prog_6_method_5_code
def yX4_begin : MethodName := ⟨RX4, "begin", "(LDayOpeners$Told;LDayOpeners$State;I)V"⟩
abbrev cX4_stateBehind : ByteArray := prog_6_method_6_code
def yX4_stateBehind : MethodName := ⟨RX4, "stateBehind", "(I)LDayOpeners$State;"⟩
abbrev cX4_seek : ByteArray := prog_6_method_7_code
def yX4_seek : MethodName := ⟨RX4, "seek", "(LDayOpeners$Plans;ILDayOpeners$Course;)V"⟩
abbrev cX4_hopes : ByteArray := prog_6_method_8_code
def yX4_hopes : MethodName := ⟨RX4, "hopes", "(LDayOpeners$State;I)I"⟩
def RX5 : String := "DayOpeners$Row"
def TX5 : u_T := fun k => match k with
  | _ => ("DayOpeners$Row", "cells", "[I", true)
def tyX5 : Nat → FieldType := fun k => match k with
  | _ => .array .int
theorem nmX5 : ∀ a, a < 1 → ∀ b, b < 1 → a ≠ b → (TX5 a).2.1 ≠ (TX5 b).2.1 := by decide +kernel
theorem tyX5_ok : ∀ k, k < 1 → parseFieldDescriptor (TX5 k).2.2.1 = some (tyX5 k) := by decide +kernel
abbrev cX5_init : ByteArray := prog_7_method_1_code
def yX5_init : MethodName := ⟨RX5, "<init>", "(I)V"⟩
abbrev cX5_get : ByteArray := prog_7_method_2_code
def yX5_get : MethodName := ⟨RX5, "get", "(I)I"⟩
abbrev cX5_set : ByteArray := prog_7_method_3_code
def yX5_set : MethodName := ⟨RX5, "set", "(II)V"⟩
abbrev cX5_fill : ByteArray := prog_7_method_4_code
def yX5_fill : MethodName := ⟨RX5, "fill", "(I)V"⟩
abbrev cX5_copy : ByteArray := prog_7_method_5_code
def yX5_copy : MethodName := ⟨RX5, "copy", "(LDayOpeners$Row;)V"⟩
abbrev cX5_sum : ByteArray := prog_7_method_6_code
def yX5_sum : MethodName := ⟨RX5, "sum", "()I"⟩
def RX6 : String := "DayOpeners$Seats"
def TX6 : u_T := fun k => match k with
  | 0 => ("DayOpeners$Seats", "gets", "LDayOpeners$Row;", true)
  | 1 => ("DayOpeners$Seats", "wants", "LDayOpeners$Row;", true)
  | _ => ("DayOpeners$Seats", "weights", "LDayOpeners$Row;", true)
def tyX6 : Nat → FieldType := fun k => match k with
  | 0 => .object "DayOpeners$Row"
  | 1 => .object "DayOpeners$Row"
  | _ => .object "DayOpeners$Row"
theorem nmX6 : ∀ a, a < 3 → ∀ b, b < 3 → a ≠ b → (TX6 a).2.1 ≠ (TX6 b).2.1 := by decide +kernel
theorem tyX6_ok : ∀ k, k < 3 → parseFieldDescriptor (TX6 k).2.2.1 = some (tyX6 k) := by decide +kernel
abbrev cX6_init : ByteArray := prog_8_method_1_code
def yX6_init : MethodName := ⟨RX6, "<init>", "()V"⟩
abbrev cX6_apart : ByteArray := prog_8_method_2_code
def yX6_apart : MethodName := ⟨RX6, "apart", "(LDayOpeners$Told;LDayOpeners$State;II)I"⟩
abbrev cX6_share : ByteArray := prog_8_method_3_code
def yX6_share : MethodName := ⟨RX6, "share", "(LDayOpeners$Told;LDayOpeners$State;)V"⟩
abbrev cX6_firstLeft : ByteArray := prog_8_method_4_code
def yX6_firstLeft : MethodName := ⟨RX6, "firstLeft", "(I)I"⟩
abbrev cX6_wish : ByteArray := prog_8_method_5_code
def yX6_wish : MethodName := ⟨RX6, "wish", "(LDayOpeners$Told;LDayOpeners$State;)V"⟩
abbrev cX6_closeRing : ByteArray := prog_8_method_6_code
def yX6_closeRing : MethodName := ⟨RX6, "closeRing", "(LDayOpeners$State;I)V"⟩
abbrev cX6_changers : ByteArray := prog_8_method_7_code
def yX6_changers : MethodName := ⟨RX6, "changers", "(LDayOpeners$Told;LDayOpeners$State;)I"⟩
abbrev cX6_weigh : ByteArray := prog_8_method_8_code
def yX6_weigh : MethodName := ⟨RX6, "weigh", "(LDayOpeners$Told;LDayOpeners$State;)V"⟩
abbrev cX6_weightOf : ByteArray := prog_8_method_9_code
def yX6_weightOf : MethodName := ⟨RX6, "weightOf", "(I)I"⟩
abbrev cX6_decides : ByteArray := prog_8_method_10_code
def yX6_decides : MethodName := ⟨RX6, "decides", "(III)I"⟩
abbrev cX6_canHalve : ByteArray := prog_8_method_11_code
def yX6_canHalve : MethodName := ⟨RX6, "canHalve", "(I)Z"⟩
def RX7 : String := "DayOpeners$State"
def TX7 : u_T := fun k => match k with
  | 0 => ("DayOpeners$State", "day", "I", false)
  | 1 => ("DayOpeners$State", "next", "I", false)
  | 2 => ("DayOpeners$State", "number", "I", false)
  | 3 => ("DayOpeners$State", "appointed", "I", false)
  | 4 => ("DayOpeners$State", "last", "I", false)
  | 5 => ("DayOpeners$State", "left", "I", false)
  | 6 => ("DayOpeners$State", "mistakes", "I", false)
  | 7 => ("DayOpeners$State", "dark", "I", false)
  | 8 => ("DayOpeners$State", "lengths", "I", false)
  | 9 => ("DayOpeners$State", "by", "I", false)
  | 10 => ("DayOpeners$State", "places", "I", false)
  | 11 => ("DayOpeners$State", "list", "LDayOpeners$Row;", true)
  | 12 => ("DayOpeners$State", "known", "LDayOpeners$Row;", true)
  | 13 => ("DayOpeners$State", "opened", "LDayOpeners$Row;", true)
  | _ => ("DayOpeners$State", "went", "LDayOpeners$Row;", true)
def tyX7 : Nat → FieldType := fun k => match k with
  | 0 => .int
  | 1 => .int
  | 2 => .int
  | 3 => .int
  | 4 => .int
  | 5 => .int
  | 6 => .int
  | 7 => .int
  | 8 => .int
  | 9 => .int
  | 10 => .int
  | 11 => .object "DayOpeners$Row"
  | 12 => .object "DayOpeners$Row"
  | 13 => .object "DayOpeners$Row"
  | _ => .object "DayOpeners$Row"
theorem nmX7 : ∀ a, a < 15 → ∀ b, b < 15 → a ≠ b → (TX7 a).2.1 ≠ (TX7 b).2.1 := by decide +kernel
theorem tyX7_ok : ∀ k, k < 15 → parseFieldDescriptor (TX7 k).2.2.1 = some (tyX7 k) := by decide +kernel
abbrev cX7_init : ByteArray := prog_9_method_1_code
def yX7_init : MethodName := ⟨RX7, "<init>", "()V"⟩
abbrev cX7_starts : ByteArray := prog_9_method_2_code
def yX7_starts : MethodName := ⟨RX7, "starts", "(LDayOpeners$Told;)V"⟩
abbrev cX7_copy : ByteArray := prog_9_method_3_code
def yX7_copy : MethodName := ⟨RX7, "copy", "(LDayOpeners$State;)V"⟩
abbrev cX7_hasPlace : ByteArray := prog_9_method_4_code
def yX7_hasPlace : MethodName := ⟨RX7, "hasPlace", "(I)Z"⟩
abbrev cX7_placesOf : ByteArray := prog_9_method_5_code
def yX7_placesOf : MethodName := ⟨RX7, "placesOf", "(I)I"⟩
abbrev cX7_behind : ByteArray := prog_9_method_6_code
def yX7_behind : MethodName := ⟨RX7, "behind", "(I)I"⟩
abbrev cX7_draw : ByteArray := prog_9_method_7_code
def yX7_draw : MethodName := ⟨RX7, "draw", "()I"⟩
abbrev cX7_opens : ByteArray := prog_9_method_8_code
def yX7_opens : MethodName := ⟨RX7, "opens", "(III)V"⟩
abbrev cX7_bringOn : ByteArray := prog_9_method_9_code
def yX7_bringOn : MethodName := ⟨RX7, "bringOn", "(LDayOpeners$Told;I)V"⟩
def RX8 : String := "DayOpeners$Steps"
def TX8 : u_T := fun k => match k with
  | 0 => ("DayOpeners$Steps", "saved", "LDayOpeners$Row;", true)
  | _ => ("DayOpeners$Steps", "size", "I", false)
def tyX8 : Nat → FieldType := fun k => match k with
  | 0 => .object "DayOpeners$Row"
  | _ => .int
theorem nmX8 : ∀ a, a < 2 → ∀ b, b < 2 → a ≠ b → (TX8 a).2.1 ≠ (TX8 b).2.1 := by decide +kernel
theorem tyX8_ok : ∀ k, k < 2 → parseFieldDescriptor (TX8 k).2.2.1 = some (tyX8 k) := by decide +kernel
abbrev cX8_init : ByteArray := prog_10_method_1_code
def yX8_init : MethodName := ⟨RX8, "<init>", "()V"⟩
abbrev cX8_clear : ByteArray := prog_10_method_2_code
def yX8_clear : MethodName := ⟨RX8, "clear", "()V"⟩
abbrev cX8_add : ByteArray := prog_10_method_3_code
def yX8_add : MethodName := ⟨RX8, "add", "(LDayOpeners$State;)V"⟩
abbrev cX8_takeBack : ByteArray := prog_10_method_4_code
def yX8_takeBack : MethodName := ⟨RX8, "takeBack", "(LDayOpeners$State;)I"⟩
def RX9 : String := "DayOpeners$Tokens"
def TX9 : u_T := fun k => match k with
  | 0 => ("DayOpeners$Tokens", "words", "LDayOpeners$Row;", true)
  | 1 => ("DayOpeners$Tokens", "bytes", "LDayOpeners$Row;", false)
  | 2 => ("DayOpeners$Tokens", "size", "I", false)
  | 3 => ("DayOpeners$Tokens", "at", "I", false)
  | 4 => ("DayOpeners$Tokens", "place", "I", false)
  | 5 => ("DayOpeners$Tokens", "kind", "I", false)
  | _ => ("DayOpeners$Tokens", "value", "I", false)
def tyX9 : Nat → FieldType := fun k => match k with
  | 0 => .object "DayOpeners$Row"
  | 1 => .object "DayOpeners$Row"
  | 2 => .int
  | 3 => .int
  | 4 => .int
  | 5 => .int
  | _ => .int
theorem nmX9 : ∀ a, a < 7 → ∀ b, b < 7 → a ≠ b → (TX9 a).2.1 ≠ (TX9 b).2.1 := by decide +kernel
theorem tyX9_ok : ∀ k, k < 7 → parseFieldDescriptor (TX9 k).2.2.1 = some (tyX9 k) := by decide +kernel
abbrev cX9_init : ByteArray := prog_11_method_1_code
def yX9_init : MethodName := ⟨RX9, "<init>", "()V"⟩
abbrev cX9_begin : ByteArray := prog_11_method_2_code
def yX9_begin : MethodName := ⟨RX9, "begin", "(LDayOpeners$Row;I)V"⟩
abbrev cX9_next : ByteArray := prog_11_method_3_code
def yX9_next : MethodName := ⟨RX9, "next", "()V"⟩
abbrev cX9_isBlank : ByteArray := prog_11_method_4_code
def yX9_isBlank : MethodName := ⟨RX9, "isBlank", "(I)Z"⟩
abbrev cX9_isLetter : ByteArray := prog_11_method_5_code
def yX9_isLetter : MethodName := ⟨RX9, "isLetter", "(I)Z"⟩
abbrev cX9_isDigit : ByteArray := prog_11_method_6_code
def yX9_isDigit : MethodName := ⟨RX9, "isDigit", "(I)Z"⟩
abbrev cX9_nextWord : ByteArray := prog_11_method_7_code
def yX9_nextWord : MethodName := ⟨RX9, "nextWord", "()V"⟩
abbrev cX9_nextNumber : ByteArray := prog_11_method_8_code
def yX9_nextNumber : MethodName := ⟨RX9, "nextNumber", "()V"⟩
abbrev cX9_nextSign : ByteArray := prog_11_method_9_code
def yX9_nextSign : MethodName := ⟨RX9, "nextSign", "(I)V"⟩
def RX10 : String := "DayOpeners$Told"
def TX10 : u_T := fun k => match k with
  | 0 => ("DayOpeners$Told", "lines", "I", false)
  | 1 => ("DayOpeners$Told", "trades", "I", false)
  | 2 => ("DayOpeners$Told", "tradeNames", "LDayOpeners$Row;", true)
  | 3 => ("DayOpeners$Told", "hours", "LDayOpeners$Row;", true)
  | 4 => ("DayOpeners$Told", "manners", "LDayOpeners$Row;", true)
  | 5 => ("DayOpeners$Told", "turns", "I", false)
  | 6 => ("DayOpeners$Told", "list", "LDayOpeners$Row;", true)
  | 7 => ("DayOpeners$Told", "claims", "I", false)
  | 8 => ("DayOpeners$Told", "claimants", "LDayOpeners$Row;", true)
  | 9 => ("DayOpeners$Told", "dates", "LDayOpeners$Row;", true)
  | 10 => ("DayOpeners$Told", "works", "I", false)
  | 11 => ("DayOpeners$Told", "workNames", "LDayOpeners$Row;", true)
  | 12 => ("DayOpeners$Told", "lows", "LDayOpeners$Row;", true)
  | 13 => ("DayOpeners$Told", "highs", "LDayOpeners$Row;", true)
  | 14 => ("DayOpeners$Told", "needs", "LDayOpeners$Row;", true)
  | 15 => ("DayOpeners$Told", "slip", "I", false)
  | 16 => ("DayOpeners$Told", "seed", "I", false)
  | _ => ("DayOpeners$Told", "laws", "LDayOpeners$Laws;", true)
def tyX10 : Nat → FieldType := fun k => match k with
  | 0 => .int
  | 1 => .int
  | 2 => .object "DayOpeners$Row"
  | 3 => .object "DayOpeners$Row"
  | 4 => .object "DayOpeners$Row"
  | 5 => .int
  | 6 => .object "DayOpeners$Row"
  | 7 => .int
  | 8 => .object "DayOpeners$Row"
  | 9 => .object "DayOpeners$Row"
  | 10 => .int
  | 11 => .object "DayOpeners$Row"
  | 12 => .object "DayOpeners$Row"
  | 13 => .object "DayOpeners$Row"
  | 14 => .object "DayOpeners$Row"
  | 15 => .int
  | 16 => .int
  | _ => .object "DayOpeners$Laws"
theorem nmX10 : ∀ a, a < 18 → ∀ b, b < 18 → a ≠ b → (TX10 a).2.1 ≠ (TX10 b).2.1 := by decide +kernel
theorem tyX10_ok : ∀ k, k < 18 → parseFieldDescriptor (TX10 k).2.2.1 = some (tyX10 k) := by decide +kernel
abbrev cX10_init : ByteArray := prog_12_method_1_code
def yX10_init : MethodName := ⟨RX10, "<init>", "()V"⟩
abbrev cX10_clear : ByteArray := prog_12_method_2_code
def yX10_clear : MethodName := ⟨RX10, "clear", "()V"⟩
abbrev cX10_hasTrade : ByteArray := prog_12_method_3_code
def yX10_hasTrade : MethodName := ⟨RX10, "hasTrade", "(I)Z"⟩
abbrev cX10_hasWork : ByteArray := prog_12_method_4_code
def yX10_hasWork : MethodName := ⟨RX10, "hasWork", "(I)Z"⟩
abbrev cX10_tradeNamed : ByteArray := prog_12_method_5_code
def yX10_tradeNamed : MethodName := ⟨RX10, "tradeNamed", "(I)I"⟩
abbrev cX10_workNamed : ByteArray := prog_12_method_6_code
def yX10_workNamed : MethodName := ⟨RX10, "workNamed", "(I)I"⟩
abbrev cX10_claimant : ByteArray := prog_12_method_7_code
def yX10_claimant : MethodName := ⟨RX10, "claimant", "(I)I"⟩
abbrev cX10_find : ByteArray := prog_12_method_8_code
def yX10_find : MethodName := ⟨RX10, "find", "(LDayOpeners$Row;II)I"⟩
def RX11 : String := "DayOpeners"
def TX11 : u_T := fun k => match k with
  | 0 => ("DayOpeners", "tape", "LDayOpeners$Row;", true)
  | 1 => ("DayOpeners", "taped", "I", false)
  | 2 => ("DayOpeners", "parser", "LDayOpeners$Parser;", true)
  | 3 => ("DayOpeners", "told", "LDayOpeners$Told;", false)
  | 4 => ("DayOpeners", "spare", "LDayOpeners$Told;", false)
  | 5 => ("DayOpeners", "now", "LDayOpeners$State;", true)
  | 6 => ("DayOpeners", "trial", "LDayOpeners$State;", true)
  | 7 => ("DayOpeners", "image", "LDayOpeners$State;", true)
  | 8 => ("DayOpeners", "imaged", "Z", false)
  | 9 => ("DayOpeners", "course", "LDayOpeners$Course;", true)
  | 10 => ("DayOpeners", "notes", "LDayOpeners$Notes;", true)
  | 11 => ("DayOpeners", "steps", "LDayOpeners$Steps;", true)
  | 12 => ("DayOpeners", "seats", "LDayOpeners$Seats;", true)
  | _ => ("DayOpeners", "plans", "LDayOpeners$Plans;", true)
def tyX11 : Nat → FieldType := fun k => match k with
  | 0 => .object "DayOpeners$Row"
  | 1 => .int
  | 2 => .object "DayOpeners$Parser"
  | 3 => .object "DayOpeners$Told"
  | 4 => .object "DayOpeners$Told"
  | 5 => .object "DayOpeners$State"
  | 6 => .object "DayOpeners$State"
  | 7 => .object "DayOpeners$State"
  | 8 => .boolean
  | 9 => .object "DayOpeners$Course"
  | 10 => .object "DayOpeners$Notes"
  | 11 => .object "DayOpeners$Steps"
  | 12 => .object "DayOpeners$Seats"
  | _ => .object "DayOpeners$Plans"
theorem nmX11 : ∀ a, a < 14 → ∀ b, b < 14 → a ≠ b → (TX11 a).2.1 ≠ (TX11 b).2.1 := by decide +kernel
theorem tyX11_ok : ∀ k, k < 14 → parseFieldDescriptor (TX11 k).2.2.1 = some (tyX11 k) := by decide +kernel
abbrev cX11_init : ByteArray := prog_1_method_1_code
def yX11_init : MethodName := ⟨RX11, "<init>", "()V"⟩
abbrev cX11_feed : ByteArray := prog_1_method_2_code
def yX11_feed : MethodName := ⟨RX11, "feed", "(IIIII)I"⟩
abbrev cX11_tapeNumber : ByteArray := prog_1_method_3_code
def yX11_tapeNumber : MethodName := ⟨RX11, "tapeNumber", "(I)V"⟩
abbrev cX11_text : ByteArray := prog_1_method_4_code
def yX11_text : MethodName := ⟨RX11, "text", "(I)I"⟩
abbrev cX11_fault : ByteArray := prog_1_method_5_code
def yX11_fault : MethodName := ⟨RX11, "fault", "(I)I"⟩
abbrev cX11_named : ByteArray := prog_1_method_6_code
def yX11_named : MethodName := ⟨RX11, "named", "(II)I"⟩
abbrev cX11_trade : ByteArray := prog_1_method_7_code
def yX11_trade : MethodName := ⟨RX11, "trade", "(II)I"⟩
abbrev cX11_place : ByteArray := prog_1_method_8_code
def yX11_place : MethodName := ⟨RX11, "place", "(I)I"⟩
abbrev cX11_work : ByteArray := prog_1_method_9_code
def yX11_work : MethodName := ⟨RX11, "work", "(II)I"⟩
abbrev cX11_law : ByteArray := prog_1_method_10_code
def yX11_law : MethodName := ⟨RX11, "law", "(II)J"⟩
abbrev cX11_length : ByteArray := prog_1_method_11_code
def yX11_length : MethodName := ⟨RX11, "length", "(I)I"⟩
abbrev cX11_appoint : ByteArray := prog_1_method_12_code
def yX11_appoint : MethodName := ⟨RX11, "appoint", "(I)Z"⟩
abbrev cX11_put : ByteArray := prog_1_method_13_code
def yX11_put : MethodName := ⟨RX11, "put", "(II)I"⟩
abbrev cX11_swap : ByteArray := prog_1_method_14_code
def yX11_swap : MethodName := ⟨RX11, "swap", "(II)Z"⟩
abbrev cX11_go : ByteArray := prog_1_method_15_code
def yX11_go : MethodName := ⟨RX11, "go", "(I)I"⟩
abbrev cX11_isDays : ByteArray := prog_1_method_16_code
def yX11_isDays : MethodName := ⟨RX11, "isDays", "(I)Z"⟩
abbrev cX11_tryDays : ByteArray := prog_1_method_17_code
def yX11_tryDays : MethodName := ⟨RX11, "tryDays", "(I)V"⟩
abbrev cX11_ahead : ByteArray := prog_1_method_18_code
def yX11_ahead : MethodName := ⟨RX11, "ahead", "(III)I"⟩
abbrev cX11_opener : ByteArray := prog_1_method_19_code
def yX11_opener : MethodName := ⟨RX11, "opener", "(I)I"⟩
abbrev cX11_longAt : ByteArray := prog_1_method_20_code
def yX11_longAt : MethodName := ⟨RX11, "longAt", "(I)I"⟩
abbrev cX11_doneWhen : ByteArray := prog_1_method_21_code
def yX11_doneWhen : MethodName := ⟨RX11, "doneWhen", "(I)I"⟩
abbrev cX11_soon : ByteArray := prog_1_method_22_code
def yX11_soon : MethodName := ⟨RX11, "soon", "(I)I"⟩
abbrev cX11_out : ByteArray := prog_1_method_23_code
def yX11_out : MethodName := ⟨RX11, "out", "(I)I"⟩
abbrev cX11_missing : ByteArray := prog_1_method_24_code
def yX11_missing : MethodName := ⟨RX11, "missing", "(I)I"⟩
abbrev cX11_plan : ByteArray := prog_1_method_25_code
def yX11_plan : MethodName := ⟨RX11, "plan", "(I)I"⟩
abbrev cX11_best : ByteArray := prog_1_method_26_code
def yX11_best : MethodName := ⟨RX11, "best", "(II)I"⟩
abbrev cX11_fair : ByteArray := prog_1_method_27_code
def yX11_fair : MethodName := ⟨RX11, "fair", "(I)I"⟩
abbrev cX11_pairs : ByteArray := prog_1_method_28_code
def yX11_pairs : MethodName := ⟨RX11, "pairs", "()I"⟩
abbrev cX11_power : ByteArray := prog_1_method_29_code
def yX11_power : MethodName := ⟨RX11, "power", "(I)I"⟩
abbrev cX11_even : ByteArray := prog_1_method_30_code
def yX11_even : MethodName := ⟨RX11, "even", "(I)I"⟩
abbrev cX11_rare : ByteArray := prog_1_method_31_code
def yX11_rare : MethodName := ⟨RX11, "rare", "()I"⟩
abbrev cX11_rests : ByteArray := prog_1_method_32_code
def yX11_rests : MethodName := ⟨RX11, "rests", "(II)I"⟩
abbrev cX11_rest : ByteArray := prog_1_method_33_code
def yX11_rest : MethodName := ⟨RX11, "rest", "(III)I"⟩
abbrev cX11_isRest : ByteArray := prog_1_method_34_code
def yX11_isRest : MethodName := ⟨RX11, "isRest", "(III)Z"⟩
abbrev cX11_gain : ByteArray := prog_1_method_35_code
def yX11_gain : MethodName := ⟨RX11, "gain", "(IIII)I"⟩
abbrev cX11_sure : ByteArray := prog_1_method_36_code
def yX11_sure : MethodName := ⟨RX11, "sure", "(II)J"⟩
abbrev cX11_note : ByteArray := prog_1_method_37_code
def yX11_note : MethodName := ⟨RX11, "note", "(IIZ)I"⟩
abbrev cX11_strike : ByteArray := prog_1_method_38_code
def yX11_strike : MethodName := ⟨RX11, "strike", "(I)I"⟩
abbrev cX11_toldBy : ByteArray := prog_1_method_39_code
def yX11_toldBy : MethodName := ⟨RX11, "toldBy", "(I)Z"⟩
abbrev cX11_hours : ByteArray := prog_1_method_40_code
def yX11_hours : MethodName := ⟨RX11, "hours", "(I)I"⟩
abbrev cX11_ask : ByteArray := prog_1_method_41_code
def yX11_ask : MethodName := ⟨RX11, "ask", "(II)I"⟩
abbrev cX11_watchHours : ByteArray := prog_1_method_42_code
def yX11_watchHours : MethodName := ⟨RX11, "watchHours", "(II)V"⟩
abbrev cX11_chance : ByteArray := prog_1_method_43_code
def yX11_chance : MethodName := ⟨RX11, "chance", "(III)I"⟩
abbrev cX11_tried : ByteArray := prog_1_method_44_code
def yX11_tried : MethodName := ⟨RX11, "tried", "(III)I"⟩
abbrev cX11_undo : ByteArray := prog_1_method_45_code
def yX11_undo : MethodName := ⟨RX11, "undo", "()I"⟩
abbrev cX11_keep : ByteArray := prog_1_method_46_code
def yX11_keep : MethodName := ⟨RX11, "keep", "()I"⟩
abbrev cX11_back : ByteArray := prog_1_method_47_code
def yX11_back : MethodName := ⟨RX11, "back", "()I"⟩
abbrev cX11_count : ByteArray := prog_1_method_48_code
def yX11_count : MethodName := ⟨RX11, "count", "(I)I"⟩
def RX12 : String := "DayOpenersModel"
def TX12 : u_T := fun k => match k with
  | 0 => ("DayOpenersModel", "thrown", "I", false)
  | 1 => ("DayOpenersModel", "tape", "[I", true)
  | 2 => ("DayOpenersModel", "taped", "I", false)
  | 3 => ("DayOpenersModel", "number", "[I", true)
  | 4 => ("DayOpenersModel", "tradeName", "[I", true)
  | 5 => ("DayOpenersModel", "hourAs", "[I", true)
  | 6 => ("DayOpenersModel", "mannerOf", "[I", true)
  | 7 => ("DayOpenersModel", "listAs", "[I", true)
  | 8 => ("DayOpenersModel", "claimOf", "[I", true)
  | 9 => ("DayOpenersModel", "workName", "[I", true)
  | 10 => ("DayOpenersModel", "lowOf", "[I", true)
  | 11 => ("DayOpenersModel", "highOf", "[I", true)
  | 12 => ("DayOpenersModel", "needOf", "[I", true)
  | 13 => ("DayOpenersModel", "sumFrom", "[I", true)
  | 14 => ("DayOpenersModel", "sumTo", "[I", true)
  | 15 => ("DayOpenersModel", "knotSort", "[I", true)
  | 16 => ("DayOpenersModel", "knotValue", "[I", true)
  | 17 => ("DayOpenersModel", "told", "I", false)
  | 18 => ("DayOpenersModel", "lines", "I", false)
  | 19 => ("DayOpenersModel", "size", "I", false)
  | 20 => ("DayOpenersModel", "at", "I", false)
  | 21 => ("DayOpenersModel", "place", "I", false)
  | 22 => ("DayOpenersModel", "sort", "I", false)
  | 23 => ("DayOpenersModel", "value", "I", false)
  | 24 => ("DayOpenersModel", "fault", "I", false)
  | 25 => ("DayOpenersModel", "faultPlace", "I", false)
  | 26 => ("DayOpenersModel", "lastFault", "I", false)
  | 27 => ("DayOpenersModel", "lastPlace", "I", false)
  | 28 => ("DayOpenersModel", "open", "I", false)
  | 29 => ("DayOpenersModel", "counted", "I", false)
  | 30 => ("DayOpenersModel", "names", "[J", true)
  | 31 => ("DayOpenersModel", "worked", "[J", true)
  | 32 => ("DayOpenersModel", "workedMany", "I", false)
  | 33 => ("DayOpenersModel", "day", "[I", true)
  | 34 => ("DayOpenersModel", "drawn", "[I", true)
  | 35 => ("DayOpenersModel", "next", "[I", true)
  | 36 => ("DayOpenersModel", "appointed", "[I", true)
  | 37 => ("DayOpenersModel", "mistakes", "[I", true)
  | 38 => ("DayOpenersModel", "dark", "[I", true)
  | 39 => ("DayOpenersModel", "last", "[I", true)
  | 40 => ("DayOpenersModel", "openedBy", "[I", true)
  | 41 => ("DayOpenersModel", "knownOf", "[I", true)
  | 42 => ("DayOpenersModel", "openedOf", "[I", true)
  | 43 => ("DayOpenersModel", "listOf", "[I", true)
  | 44 => ("DayOpenersModel", "wentOn", "[I", true)
  | 45 => ("DayOpenersModel", "hasImage", "Z", false)
  | 46 => ("DayOpenersModel", "undoMany", "I", false)
  | 47 => ("DayOpenersModel", "tryWhat", "I", false)
  | 48 => ("DayOpenersModel", "tryTrade", "I", false)
  | 49 => ("DayOpenersModel", "hourOne", "I", false)
  | 50 => ("DayOpenersModel", "hourTried", "I", false)
  | 51 => ("DayOpenersModel", "lengthBy", "[I", true)
  | 52 => ("DayOpenersModel", "given", "[I", true)
  | 53 => ("DayOpenersModel", "rowNow", "[I", true)
  | 54 => ("DayOpenersModel", "rowBest", "[I", true)
  | 55 => ("DayOpenersModel", "rowDone", "I", false)
  | 56 => ("DayOpenersModel", "fairOf", "[I", true)
  | 57 => ("DayOpenersModel", "wantOf", "[I", true)
  | 58 => ("DayOpenersModel", "notes", "I", false)
  | 59 => ("DayOpenersModel", "knownBy", "I", false)
  | 60 => ("DayOpenersModel", "noteDays", "[I", true)
  | 61 => ("DayOpenersModel", "noteLength", "[I", true)
  | 62 => ("DayOpenersModel", "noteLeast", "[Z", true)
  | 63 => ("DayOpenersModel", "outs", "[I", true)
  | 64 => ("DayOpenersModel", "isOut", "[Z", true)
  | _ => ("DayOpenersModel", "lastBy", "[I", true)
def tyX12 : Nat → FieldType := fun k => match k with
  | 0 => .int
  | 1 => .array .int
  | 2 => .int
  | 3 => .array .int
  | 4 => .array .int
  | 5 => .array .int
  | 6 => .array .int
  | 7 => .array .int
  | 8 => .array .int
  | 9 => .array .int
  | 10 => .array .int
  | 11 => .array .int
  | 12 => .array .int
  | 13 => .array .int
  | 14 => .array .int
  | 15 => .array .int
  | 16 => .array .int
  | 17 => .int
  | 18 => .int
  | 19 => .int
  | 20 => .int
  | 21 => .int
  | 22 => .int
  | 23 => .int
  | 24 => .int
  | 25 => .int
  | 26 => .int
  | 27 => .int
  | 28 => .int
  | 29 => .int
  | 30 => .array .long
  | 31 => .array .long
  | 32 => .int
  | 33 => .array .int
  | 34 => .array .int
  | 35 => .array .int
  | 36 => .array .int
  | 37 => .array .int
  | 38 => .array .int
  | 39 => .array .int
  | 40 => .array .int
  | 41 => .array .int
  | 42 => .array .int
  | 43 => .array .int
  | 44 => .array .int
  | 45 => .boolean
  | 46 => .int
  | 47 => .int
  | 48 => .int
  | 49 => .int
  | 50 => .int
  | 51 => .array .int
  | 52 => .array .int
  | 53 => .array .int
  | 54 => .array .int
  | 55 => .int
  | 56 => .array .int
  | 57 => .array .int
  | 58 => .int
  | 59 => .int
  | 60 => .array .int
  | 61 => .array .int
  | 62 => .array .boolean
  | 63 => .array .int
  | 64 => .array .boolean
  | _ => .array .int
theorem nmX12 : ∀ a, a < 66 → ∀ b, b < 66 → a ≠ b → (TX12 a).2.1 ≠ (TX12 b).2.1 := by decide +kernel
theorem tyX12_ok : ∀ k, k < 66 → parseFieldDescriptor (TX12 k).2.2.1 = some (tyX12 k) := by decide +kernel
abbrev cX12_init : ByteArray := prog_14_method_1_code
def yX12_init : MethodName := ⟨RX12, "<init>", "()V"⟩
abbrev cX12_thrown : ByteArray := prog_14_method_2_code
def yX12_thrown : MethodName := ⟨RX12, "thrown", "()I"⟩
abbrev cX12_feed : ByteArray := prog_14_method_3_code
def yX12_feed : MethodName := ⟨RX12, "feed", "(IIIII)I"⟩
abbrev cX12_here : ByteArray := prog_14_method_4_code
def yX12_here : MethodName := ⟨RX12, "here", "()I"⟩
abbrev cX12_isSmall : ByteArray := prog_14_method_5_code
def yX12_isSmall : MethodName := ⟨RX12, "isSmall", "(I)Z"⟩
abbrev cX12_isDigit : ByteArray := prog_14_method_6_code
def yX12_isDigit : MethodName := ⟨RX12, "isDigit", "(I)Z"⟩
abbrev cX12_token : ByteArray := prog_14_method_7_code
def yX12_token : MethodName := ⟨RX12, "token", "()V"⟩
abbrev cX12_sign : ByteArray := prog_14_method_8_code
def yX12_sign : MethodName := ⟨RX12, "sign", "(I)V"⟩
abbrev cX12_word : ByteArray := prog_14_method_9_code
def yX12_word : MethodName := ⟨RX12, "word", "()I"⟩
abbrev cX12_name : ByteArray := prog_14_method_10_code
def yX12_name : MethodName := ⟨RX12, "name", "()V"⟩
abbrev cX12_wrong : ByteArray := prog_14_method_11_code
def yX12_wrong : MethodName := ⟨RX12, "wrong", "(I)V"⟩
abbrev cX12_isWord : ByteArray := prog_14_method_12_code
def yX12_isWord : MethodName := ⟨RX12, "isWord", "(I)Z"⟩
abbrev cX12_isSign : ByteArray := prog_14_method_13_code
def yX12_isSign : MethodName := ⟨RX12, "isSign", "(I)Z"⟩
abbrev cX12_goOn : ByteArray := prog_14_method_14_code
def yX12_goOn : MethodName := ⟨RX12, "goOn", "()V"⟩
abbrev cX12_numeral : ByteArray := prog_14_method_15_code
def yX12_numeral : MethodName := ⟨RX12, "numeral", "(II)I"⟩
abbrev cX12_found : ByteArray := prog_14_method_16_code
def yX12_found : MethodName := ⟨RX12, "found", "([IIII)I"⟩
abbrev cX12_fresh : ByteArray := prog_14_method_17_code
def yX12_fresh : MethodName := ⟨RX12, "fresh", "([III)I"⟩
abbrev cX12_fresher : ByteArray := prog_14_method_18_code
def yX12_fresher : MethodName := ⟨RX12, "fresher", "(I)I"⟩
abbrev cX12_reads : ByteArray := prog_14_method_19_code
def yX12_reads : MethodName := ⟨RX12, "reads", "(II)V"⟩
abbrev cX12_tradeAhead : ByteArray := prog_14_method_20_code
def yX12_tradeAhead : MethodName := ⟨RX12, "tradeAhead", "()I"⟩
abbrev cX12_isFull : ByteArray := prog_14_method_21_code
def yX12_isFull : MethodName := ⟨RX12, "isFull", "(I)Z"⟩
abbrev cX12_line : ByteArray := prog_14_method_22_code
def yX12_line : MethodName := ⟨RX12, "line", "()V"⟩
abbrev cX12_claimLine : ByteArray := prog_14_method_23_code
def yX12_claimLine : MethodName := ⟨RX12, "claimLine", "()V"⟩
abbrev cX12_lawLine : ByteArray := prog_14_method_24_code
def yX12_lawLine : MethodName := ⟨RX12, "lawLine", "()V"⟩
abbrev cX12_puts : ByteArray := prog_14_method_25_code
def yX12_puts : MethodName := ⟨RX12, "puts", "(II)V"⟩
abbrev cX12_knot : ByteArray := prog_14_method_26_code
def yX12_knot : MethodName := ⟨RX12, "knot", "()V"⟩
abbrev cX12_expression : ByteArray := prog_14_method_27_code
def yX12_expression : MethodName := ⟨RX12, "expression", "()V"⟩
abbrev cX12_conjunction : ByteArray := prog_14_method_28_code
def yX12_conjunction : MethodName := ⟨RX12, "conjunction", "()V"⟩
abbrev cX12_negation : ByteArray := prog_14_method_29_code
def yX12_negation : MethodName := ⟨RX12, "negation", "()V"⟩
abbrev cX12_sum : ByteArray := prog_14_method_30_code
def yX12_sum : MethodName := ⟨RX12, "sum", "()V"⟩
abbrev cX12_product : ByteArray := prog_14_method_31_code
def yX12_product : MethodName := ⟨RX12, "product", "()V"⟩
abbrev cX12_primary : ByteArray := prog_14_method_32_code
def yX12_primary : MethodName := ⟨RX12, "primary", "()V"⟩
abbrev cX12_half : ByteArray := prog_14_method_33_code
def yX12_half : MethodName := ⟨RX12, "half", "([I)V"⟩
abbrev cX12_text : ByteArray := prog_14_method_34_code
def yX12_text : MethodName := ⟨RX12, "text", "(I)I"⟩
abbrev cX12_fault : ByteArray := prog_14_method_35_code
def yX12_fault : MethodName := ⟨RX12, "fault", "(I)I"⟩
abbrev cX12_named : ByteArray := prog_14_method_36_code
def yX12_named : MethodName := ⟨RX12, "named", "(II)I"⟩
abbrev cX12_is : ByteArray := prog_14_method_37_code
def yX12_is : MethodName := ⟨RX12, "is", "(Z)J"⟩
abbrev cX12_works : ByteArray := prog_14_method_38_code
def yX12_works : MethodName := ⟨RX12, "works", "(I)Z"⟩
abbrev cX12_goes : ByteArray := prog_14_method_39_code
def yX12_goes : MethodName := ⟨RX12, "goes", "(I)Z"⟩
abbrev cX12_hasLaw : ByteArray := prog_14_method_40_code
def yX12_hasLaw : MethodName := ⟨RX12, "hasLaw", "(I)Z"⟩
abbrev cX12_starts : ByteArray := prog_14_method_41_code
def yX12_starts : MethodName := ⟨RX12, "starts", "(I)V"⟩
abbrev cX12_begins : ByteArray := prog_14_method_42_code
def yX12_begins : MethodName := ⟨RX12, "begins", "()V"⟩
abbrev cX12_copies : ByteArray := prog_14_method_43_code
def yX12_copies : MethodName := ⟨RX12, "copies", "(II)V"⟩
abbrev cX12_isTrade : ByteArray := prog_14_method_44_code
def yX12_isTrade : MethodName := ⟨RX12, "isTrade", "(I)Z"⟩
abbrev cX12_isPlace : ByteArray := prog_14_method_45_code
def yX12_isPlace : MethodName := ⟨RX12, "isPlace", "(I)Z"⟩
abbrev cX12_isWork : ByteArray := prog_14_method_46_code
def yX12_isWork : MethodName := ⟨RX12, "isWork", "(I)Z"⟩
abbrev cX12_isDone : ByteArray := prog_14_method_47_code
def yX12_isDone : MethodName := ⟨RX12, "isDone", "(II)Z"⟩
abbrev cX12_doneMany : ByteArray := prog_14_method_48_code
def yX12_doneMany : MethodName := ⟨RX12, "doneMany", "(I)I"⟩
abbrev cX12_hourOf : ByteArray := prog_14_method_50_code
def yX12_hourOf : MethodName := ⟨RX12, "hourOf", "(I)I"⟩
abbrev cX12_calls : ByteArray := prog_14_method_51_code
def yX12_calls : MethodName := ⟨RX12, "calls", "(II)V"⟩
abbrev cX12_within : ByteArray := prog_14_method_52_code
def yX12_within : MethodName := ⟨RX12, "within", "(IIII)I"⟩
abbrev cX12_lengthOf : ByteArray := prog_14_method_53_code
def yX12_lengthOf : MethodName := ⟨RX12, "lengthOf", "(II)I"⟩
abbrev cX12_wills : ByteArray := prog_14_method_54_code
def yX12_wills : MethodName := ⟨RX12, "wills", "(II)Z"⟩
abbrev cX12_isMistake : ByteArray := prog_14_method_55_code
def yX12_isMistake : MethodName := ⟨RX12, "isMistake", "(IZ)Z"⟩
abbrev cX12_byTurn : ByteArray := prog_14_method_56_code
def yX12_byTurn : MethodName := ⟨RX12, "byTurn", "(IZ)I"⟩
abbrev cX12_whoOpens : ByteArray := prog_14_method_57_code
def yX12_whoOpens : MethodName := ⟨RX12, "whoOpens", "(IZ)I"⟩
abbrev cX12_opens : ByteArray := prog_14_method_58_code
def yX12_opens : MethodName := ⟨RX12, "opens", "(II)V"⟩
abbrev cX12_passes : ByteArray := prog_14_method_59_code
def yX12_passes : MethodName := ⟨RX12, "passes", "(IZ)V"⟩
abbrev cX12_goesOn : ByteArray := prog_14_method_60_code
def yX12_goesOn : MethodName := ⟨RX12, "goesOn", "(I)V"⟩
abbrev cX12_placesOf : ByteArray := prog_14_method_61_code
def yX12_placesOf : MethodName := ⟨RX12, "placesOf", "(I)I"⟩
abbrev cX12_trade : ByteArray := prog_14_method_62_code
def yX12_trade : MethodName := ⟨RX12, "trade", "(II)I"⟩
abbrev cX12_place : ByteArray := prog_14_method_63_code
def yX12_place : MethodName := ⟨RX12, "place", "(I)I"⟩
abbrev cX12_work : ByteArray := prog_14_method_64_code
def yX12_work : MethodName := ⟨RX12, "work", "(II)I"⟩
abbrev cX12_law : ByteArray := prog_14_method_65_code
def yX12_law : MethodName := ⟨RX12, "law", "(II)J"⟩
abbrev cX12_length : ByteArray := prog_14_method_66_code
def yX12_length : MethodName := ⟨RX12, "length", "(I)I"⟩
abbrev cX12_keepNow : ByteArray := prog_14_method_67_code
def yX12_keepNow : MethodName := ⟨RX12, "keepNow", "()V"⟩
abbrev cX12_appoint : ByteArray := prog_14_method_68_code
def yX12_appoint : MethodName := ⟨RX12, "appoint", "(I)Z"⟩
abbrev cX12_put : ByteArray := prog_14_method_69_code
def yX12_put : MethodName := ⟨RX12, "put", "(II)I"⟩
abbrev cX12_swap : ByteArray := prog_14_method_70_code
def yX12_swap : MethodName := ⟨RX12, "swap", "(II)Z"⟩
abbrev cX12_go : ByteArray := prog_14_method_71_code
def yX12_go : MethodName := ⟨RX12, "go", "(I)I"⟩
abbrev cX12_isAhead : ByteArray := prog_14_method_72_code
def yX12_isAhead : MethodName := ⟨RX12, "isAhead", "(I)Z"⟩
abbrev cX12_lengthsIn : ByteArray := prog_14_method_73_code
def yX12_lengthsIn : MethodName := ⟨RX12, "lengthsIn", "(I)I"⟩
abbrev cX12_ahead : ByteArray := prog_14_method_74_code
def yX12_ahead : MethodName := ⟨RX12, "ahead", "(III)I"⟩
abbrev cX12_opener : ByteArray := prog_14_method_75_code
def yX12_opener : MethodName := ⟨RX12, "opener", "(I)I"⟩
abbrev cX12_longAt : ByteArray := prog_14_method_76_code
def yX12_longAt : MethodName := ⟨RX12, "longAt", "(I)I"⟩
abbrev cX12_doneWhen : ByteArray := prog_14_method_77_code
def yX12_doneWhen : MethodName := ⟨RX12, "doneWhen", "(I)I"⟩
abbrev cX12_soon : ByteArray := prog_14_method_78_code
def yX12_soon : MethodName := ⟨RX12, "soon", "(I)I"⟩
abbrev cX12_out : ByteArray := prog_14_method_79_code
def yX12_out : MethodName := ⟨RX12, "out", "(I)I"⟩
abbrev cX12_missing : ByteArray := prog_14_method_80_code
def yX12_missing : MethodName := ⟨RX12, "missing", "(I)I"⟩
abbrev cX12_doesAll : ByteArray := prog_14_method_81_code
def yX12_doesAll : MethodName := ⟨RX12, "doesAll", "()Z"⟩
abbrev cX12_gives : ByteArray := prog_14_method_82_code
def yX12_gives : MethodName := ⟨RX12, "gives", "(II)Z"⟩
abbrev cX12_planned : ByteArray := prog_14_method_83_code
def yX12_planned : MethodName := ⟨RX12, "planned", "()I"⟩
abbrev cX12_plan : ByteArray := prog_14_method_84_code
def yX12_plan : MethodName := ⟨RX12, "plan", "(I)I"⟩
abbrev cX12_lays : ByteArray := prog_14_method_85_code
def yX12_lays : MethodName := ⟨RX12, "lays", "(II)V"⟩
abbrev cX12_best : ByteArray := prog_14_method_86_code
def yX12_best : MethodName := ⟨RX12, "best", "(II)I"⟩
abbrev cX12_apart : ByteArray := prog_14_method_87_code
def yX12_apart : MethodName := ⟨RX12, "apart", "(II)I"⟩
abbrev cX12_mannerAt : ByteArray := prog_14_method_88_code
def yX12_mannerAt : MethodName := ⟨RX12, "mannerAt", "(I)I"⟩
abbrev cX12_wantAt : ByteArray := prog_14_method_89_code
def yX12_wantAt : MethodName := ⟨RX12, "wantAt", "(I)I"⟩
abbrev cX12_closes : ByteArray := prog_14_method_90_code
def yX12_closes : MethodName := ⟨RX12, "closes", "(I)V"⟩
abbrev cX12_fair : ByteArray := prog_14_method_91_code
def yX12_fair : MethodName := ⟨RX12, "fair", "(I)I"⟩
abbrev cX12_pairs : ByteArray := prog_14_method_92_code
def yX12_pairs : MethodName := ⟨RX12, "pairs", "()I"⟩
abbrev cX12_placesIn : ByteArray := prog_14_method_93_code
def yX12_placesIn : MethodName := ⟨RX12, "placesIn", "(I)I"⟩
abbrev cX12_power : ByteArray := prog_14_method_94_code
def yX12_power : MethodName := ⟨RX12, "power", "(I)I"⟩
abbrev cX12_even : ByteArray := prog_14_method_95_code
def yX12_even : MethodName := ⟨RX12, "even", "(I)I"⟩
abbrev cX12_rare : ByteArray := prog_14_method_96_code
def yX12_rare : MethodName := ⟨RX12, "rare", "()I"⟩
abbrev cX12_hasOf : ByteArray := prog_14_method_97_code
def yX12_hasOf : MethodName := ⟨RX12, "hasOf", "(IIII)I"⟩
abbrev cX12_isRest : ByteArray := prog_14_method_98_code
def yX12_isRest : MethodName := ⟨RX12, "isRest", "(III)Z"⟩
abbrev cX12_restOf : ByteArray := prog_14_method_99_code
def yX12_restOf : MethodName := ⟨RX12, "restOf", "(III)I"⟩
abbrev cX12_areTwo : ByteArray := prog_14_method_100_code
def yX12_areTwo : MethodName := ⟨RX12, "areTwo", "(II)Z"⟩
abbrev cX12_rests : ByteArray := prog_14_method_101_code
def yX12_rests : MethodName := ⟨RX12, "rests", "(II)I"⟩
abbrev cX12_rest : ByteArray := prog_14_method_102_code
def yX12_rest : MethodName := ⟨RX12, "rest", "(III)I"⟩
abbrev cX12_sure : ByteArray := prog_14_method_103_code
def yX12_sure : MethodName := ⟨RX12, "sure", "(II)J"⟩
abbrev cX12_note : ByteArray := prog_14_method_104_code
def yX12_note : MethodName := ⟨RX12, "note", "(IIZ)I"⟩
abbrev cX12_strike : ByteArray := prog_14_method_105_code
def yX12_strike : MethodName := ⟨RX12, "strike", "(I)I"⟩
abbrev cX12_toldBy : ByteArray := prog_14_method_106_code
def yX12_toldBy : MethodName := ⟨RX12, "toldBy", "(I)Z"⟩
abbrev cX12_knownMany : ByteArray := prog_14_method_107_code
def yX12_knownMany : MethodName := ⟨RX12, "knownMany", "()I"⟩
abbrev cX12_isSo : ByteArray := prog_14_method_108_code
def yX12_isSo : MethodName := ⟨RX12, "isSo", "(I)Z"⟩
abbrev cX12_fitsHour : ByteArray := prog_14_method_109_code
def yX12_fitsHour : MethodName := ⟨RX12, "fitsHour", "(I)Z"⟩
abbrev cX12_hoursOf : ByteArray := prog_14_method_110_code
def yX12_hoursOf : MethodName := ⟨RX12, "hoursOf", "(I)I"⟩
abbrev cX12_hours : ByteArray := prog_14_method_111_code
def yX12_hours : MethodName := ⟨RX12, "hours", "(I)I"⟩
abbrev cX12_worstAt : ByteArray := prog_14_method_112_code
def yX12_worstAt : MethodName := ⟨RX12, "worstAt", "(II)I"⟩
abbrev cX12_ask : ByteArray := prog_14_method_113_code
def yX12_ask : MethodName := ⟨RX12, "ask", "(II)I"⟩
abbrev cX12_chance : ByteArray := prog_14_method_114_code
def yX12_chance : MethodName := ⟨RX12, "chance", "(III)I"⟩
abbrev cX12_tried : ByteArray := prog_14_method_115_code
def yX12_tried : MethodName := ⟨RX12, "tried", "(III)I"⟩
abbrev cX12_undo : ByteArray := prog_14_method_116_code
def yX12_undo : MethodName := ⟨RX12, "undo", "()I"⟩
abbrev cX12_keep : ByteArray := prog_14_method_117_code
def yX12_keep : MethodName := ⟨RX12, "keep", "()I"⟩
abbrev cX12_back : ByteArray := prog_14_method_118_code
def yX12_back : MethodName := ⟨RX12, "back", "()I"⟩
abbrev cX12_knownAll : ByteArray := prog_14_method_119_code
def yX12_knownAll : MethodName := ⟨RX12, "knownAll", "()I"⟩
abbrev cX12_count : ByteArray := prog_14_method_120_code
def yX12_count : MethodName := ⟨RX12, "count", "(I)I"⟩
def RL : String := "DayOpenersLaw"
abbrev cL_trade : ByteArray := method_3_code
def yL_trade : MethodName := ⟨RL, "trade", "(LDayOpeners;II[J)I"⟩
abbrev cL_law : ByteArray := code
def yL_law : MethodName := ⟨RL, "law", "([I)Z"⟩
abbrev vwCl : List vw_C := [(RX0, TX0, 6), (RX1, TX1, 7), (RX2, TX2, 10), (RX3, TX3, 10), (RX4, TX4, 9), (RX5, TX5, 1), (RX6, TX6, 3), (RX7, TX7, 15), (RX8, TX8, 2), (RX9, TX9, 7), (RX10, TX10, 18), (RX11, TX11, 14), (RX12, TX12, 66)]
