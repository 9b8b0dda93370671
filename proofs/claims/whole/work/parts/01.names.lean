-- ===== PART A: goes FIRST, ahead of the names: the tables' words, and 'selects' of the private methods out of them =====
/-- a private method of a class that the tables say can be made, by its rows of tables_1 -/
def lw_okq (q : MethodName × Nat) : Prop := (q.1.cls ≠ "java/lang/invoke/MethodHandle" ∧ q.1.cls ≠ "java/lang/invoke/VarHandle") ∧ Cond.instantiable q.1.cls q.2 ∈ tables_1 ∧ Cond.privateMethod q.1 ∈ tables_1 ∧ Cond.instanceMethod q.1 ∈ tables_1
theorem lw_p0 : lw_okq (⟨"GrilleHotel$Shaft", "forget", "(I)V"⟩, 10) := ⟨⟨by decide +kernel, by decide +kernel⟩, List.mem_of_getElem? (i := 55) (by decide +kernel), List.mem_of_getElem? (i := 350) (by decide +kernel), List.mem_of_getElem? (i := 351) (by decide +kernel)⟩
theorem lw_p1 : lw_okq (⟨"GrilleHotel$LawReader", "readRule", "()V"⟩, 2) := ⟨⟨by decide +kernel, by decide +kernel⟩, List.mem_of_getElem? (i := 197) (by decide +kernel), List.mem_of_getElem? (i := 405) (by decide +kernel), List.mem_of_getElem? (i := 406) (by decide +kernel)⟩
theorem lw_p2 : lw_okq (⟨"GrilleHotel$LawReader", "readAmount", "(I)V"⟩, 2) := ⟨⟨by decide +kernel, by decide +kernel⟩, List.mem_of_getElem? (i := 197) (by decide +kernel), List.mem_of_getElem? (i := 421) (by decide +kernel), List.mem_of_getElem? (i := 422) (by decide +kernel)⟩
theorem lw_p3 : lw_okq (⟨"GrilleHotel$LawReader", "readTerm", "(I)V"⟩, 2) := ⟨⟨by decide +kernel, by decide +kernel⟩, List.mem_of_getElem? (i := 197) (by decide +kernel), List.mem_of_getElem? (i := 425) (by decide +kernel), List.mem_of_getElem? (i := 426) (by decide +kernel)⟩
theorem lw_p4 : lw_okq (⟨"GrilleHotel$LawReader", "readFactor", "(I)V"⟩, 2) := ⟨⟨by decide +kernel, by decide +kernel⟩, List.mem_of_getElem? (i := 197) (by decide +kernel), List.mem_of_getElem? (i := 429) (by decide +kernel), List.mem_of_getElem? (i := 430) (by decide +kernel)⟩
theorem lw_p5 : lw_okq (⟨"GrilleHotel$LawReader", "opens", "(I)Z"⟩, 2) := ⟨⟨by decide +kernel, by decide +kernel⟩, List.mem_of_getElem? (i := 197) (by decide +kernel), List.mem_of_getElem? (i := 433) (by decide +kernel), List.mem_of_getElem? (i := 434) (by decide +kernel)⟩
theorem lw_p6 : lw_okq (⟨"GrilleHotel$LawReader", "readCondition", "(I)V"⟩, 2) := ⟨⟨by decide +kernel, by decide +kernel⟩, List.mem_of_getElem? (i := 197) (by decide +kernel), List.mem_of_getElem? (i := 462) (by decide +kernel), List.mem_of_getElem? (i := 463) (by decide +kernel)⟩
theorem lw_p7 : lw_okq (⟨"GrilleHotel$LawReader", "readPart", "(I)V"⟩, 2) := ⟨⟨by decide +kernel, by decide +kernel⟩, List.mem_of_getElem? (i := 197) (by decide +kernel), List.mem_of_getElem? (i := 466) (by decide +kernel), List.mem_of_getElem? (i := 467) (by decide +kernel)⟩
theorem lw_p8 : lw_okq (⟨"GrilleHotel$LawReader", "readTest", "(I)V"⟩, 2) := ⟨⟨by decide +kernel, by decide +kernel⟩, List.mem_of_getElem? (i := 197) (by decide +kernel), List.mem_of_getElem? (i := 470) (by decide +kernel), List.mem_of_getElem? (i := 471) (by decide +kernel)⟩
theorem lw_p9 : lw_okq (⟨"GrilleHotel$RegisterReader", "doLine", "()V"⟩, 2) := ⟨⟨by decide +kernel, by decide +kernel⟩, List.mem_of_getElem? (i := 210) (by decide +kernel), List.mem_of_getElem? (i := 505) (by decide +kernel), List.mem_of_getElem? (i := 506) (by decide +kernel)⟩
theorem lw_p10 : lw_okq (⟨"GrilleHotel$RegisterReader", "readRoom", "()I"⟩, 2) := ⟨⟨by decide +kernel, by decide +kernel⟩, List.mem_of_getElem? (i := 210) (by decide +kernel), List.mem_of_getElem? (i := 509) (by decide +kernel), List.mem_of_getElem? (i := 510) (by decide +kernel)⟩
theorem lw_p11 : lw_okq (⟨"GrilleHotel$RegisterReader", "takeIn", "(I)V"⟩, 2) := ⟨⟨by decide +kernel, by decide +kernel⟩, List.mem_of_getElem? (i := 210) (by decide +kernel), List.mem_of_getElem? (i := 517) (by decide +kernel), List.mem_of_getElem? (i := 518) (by decide +kernel)⟩
theorem lw_p12 : lw_okq (⟨"GrilleHotel$RegisterReader", "sendAway", "(II)V"⟩, 2) := ⟨⟨by decide +kernel, by decide +kernel⟩, List.mem_of_getElem? (i := 210) (by decide +kernel), List.mem_of_getElem? (i := 522) (by decide +kernel), List.mem_of_getElem? (i := 523) (by decide +kernel)⟩
theorem lw_p13 : lw_okq (⟨"GrilleHotel$RegisterReader", "exchange", "(II)V"⟩, 2) := ⟨⟨by decide +kernel, by decide +kernel⟩, List.mem_of_getElem? (i := 210) (by decide +kernel), List.mem_of_getElem? (i := 534) (by decide +kernel), List.mem_of_getElem? (i := 535) (by decide +kernel)⟩
theorem lw_p14 : lw_okq (⟨"GrilleHotel$Air", "sendUp", "(I)V"⟩, 5) := ⟨⟨by decide +kernel, by decide +kernel⟩, List.mem_of_getElem? (i := 172) (by decide +kernel), List.mem_of_getElem? (i := 560) (by decide +kernel), List.mem_of_getElem? (i := 561) (by decide +kernel)⟩
theorem lw_p15 : lw_okq (⟨"GrilleHotel$Law", "run", "(II)V"⟩, 16) := ⟨⟨by decide +kernel, by decide +kernel⟩, List.mem_of_getElem? (i := 114) (by decide +kernel), List.mem_of_getElem? (i := 576) (by decide +kernel), List.mem_of_getElem? (i := 577) (by decide +kernel)⟩
def lw_privs_1 : List (MethodName × Nat) := [(⟨"GrilleHotel$Shaft", "forget", "(I)V"⟩, 10), (⟨"GrilleHotel$LawReader", "readRule", "()V"⟩, 2), (⟨"GrilleHotel$LawReader", "readAmount", "(I)V"⟩, 2), (⟨"GrilleHotel$LawReader", "readTerm", "(I)V"⟩, 2), (⟨"GrilleHotel$LawReader", "readFactor", "(I)V"⟩, 2), (⟨"GrilleHotel$LawReader", "opens", "(I)Z"⟩, 2), (⟨"GrilleHotel$LawReader", "readCondition", "(I)V"⟩, 2), (⟨"GrilleHotel$LawReader", "readPart", "(I)V"⟩, 2), (⟨"GrilleHotel$LawReader", "readTest", "(I)V"⟩, 2), (⟨"GrilleHotel$RegisterReader", "doLine", "()V"⟩, 2), (⟨"GrilleHotel$RegisterReader", "readRoom", "()I"⟩, 2), (⟨"GrilleHotel$RegisterReader", "takeIn", "(I)V"⟩, 2), (⟨"GrilleHotel$RegisterReader", "sendAway", "(II)V"⟩, 2), (⟨"GrilleHotel$RegisterReader", "exchange", "(II)V"⟩, 2), (⟨"GrilleHotel$Air", "sendUp", "(I)V"⟩, 5), (⟨"GrilleHotel$Law", "run", "(II)V"⟩, 16)]
theorem lw_r1 : ∀ q ∈ lw_privs_1, lw_okq q := List.forall_mem_cons.mpr ⟨lw_p0, List.forall_mem_cons.mpr ⟨lw_p1, List.forall_mem_cons.mpr ⟨lw_p2, List.forall_mem_cons.mpr ⟨lw_p3, List.forall_mem_cons.mpr ⟨lw_p4, List.forall_mem_cons.mpr ⟨lw_p5, List.forall_mem_cons.mpr ⟨lw_p6, List.forall_mem_cons.mpr ⟨lw_p7, List.forall_mem_cons.mpr ⟨lw_p8, List.forall_mem_cons.mpr ⟨lw_p9, List.forall_mem_cons.mpr ⟨lw_p10, List.forall_mem_cons.mpr ⟨lw_p11, List.forall_mem_cons.mpr ⟨lw_p12, List.forall_mem_cons.mpr ⟨lw_p13, List.forall_mem_cons.mpr ⟨lw_p14, List.forall_mem_cons.mpr ⟨lw_p15, fun _ h => absurd h List.not_mem_nil⟩⟩⟩⟩⟩⟩⟩⟩⟩⟩⟩⟩⟩⟩⟩⟩
theorem lw_p16 : lw_okq (⟨"GrilleHotel$Law", "compareTwo", "(I)V"⟩, 16) := ⟨⟨by decide +kernel, by decide +kernel⟩, List.mem_of_getElem? (i := 114) (by decide +kernel), List.mem_of_getElem? (i := 580) (by decide +kernel), List.mem_of_getElem? (i := 581) (by decide +kernel)⟩
theorem lw_p17 : lw_okq (⟨"GrilleHotel$Law", "reckonTwo", "(I)V"⟩, 16) := ⟨⟨by decide +kernel, by decide +kernel⟩, List.mem_of_getElem? (i := 114) (by decide +kernel), List.mem_of_getElem? (i := 584) (by decide +kernel), List.mem_of_getElem? (i := 585) (by decide +kernel)⟩
theorem lw_p18 : lw_okq (⟨"GrilleHotel$Law", "letter", "(I)I"⟩, 16) := ⟨⟨by decide +kernel, by decide +kernel⟩, List.mem_of_getElem? (i := 114) (by decide +kernel), List.mem_of_getElem? (i := 588) (by decide +kernel), List.mem_of_getElem? (i := 589) (by decide +kernel)⟩
theorem lw_p19 : lw_okq (⟨"GrilleHotel$Law", "push", "(I)V"⟩, 16) := ⟨⟨by decide +kernel, by decide +kernel⟩, List.mem_of_getElem? (i := 114) (by decide +kernel), List.mem_of_getElem? (i := 592) (by decide +kernel), List.mem_of_getElem? (i := 593) (by decide +kernel)⟩
theorem lw_p20 : lw_okq (⟨"GrilleHotel$Air", "rise", "(II)V"⟩, 5) := ⟨⟨by decide +kernel, by decide +kernel⟩, List.mem_of_getElem? (i := 172) (by decide +kernel), List.mem_of_getElem? (i := 605) (by decide +kernel), List.mem_of_getElem? (i := 606) (by decide +kernel)⟩
theorem lw_p21 : lw_okq (⟨"GrilleHotel$Climb", "fillFewestTurns", "(LGrilleHotel$Shaft;I)V"⟩, 2) := ⟨⟨by decide +kernel, by decide +kernel⟩, List.mem_of_getElem? (i := 223) (by decide +kernel), List.mem_of_getElem? (i := 721) (by decide +kernel), List.mem_of_getElem? (i := 722) (by decide +kernel)⟩
theorem lw_p22 : lw_okq (⟨"GrilleHotel$Climb", "turnsBy", "(LGrilleHotel$Shaft;II)I"⟩, 2) := ⟨⟨by decide +kernel, by decide +kernel⟩, List.mem_of_getElem? (i := 223) (by decide +kernel), List.mem_of_getElem? (i := 736) (by decide +kernel), List.mem_of_getElem? (i := 737) (by decide +kernel)⟩
theorem lw_p23 : lw_okq (⟨"GrilleHotel$Climb", "leastNext", "(LGrilleHotel$Shaft;I)I"⟩, 2) := ⟨⟨by decide +kernel, by decide +kernel⟩, List.mem_of_getElem? (i := 223) (by decide +kernel), List.mem_of_getElem? (i := 741) (by decide +kernel), List.mem_of_getElem? (i := 742) (by decide +kernel)⟩
theorem lw_p24 : lw_okq (⟨"GrilleHotel$Beds", "fill", "(IIJ)V"⟩, 6) := ⟨⟨by decide +kernel, by decide +kernel⟩, List.mem_of_getElem? (i := 252) (by decide +kernel), List.mem_of_getElem? (i := 781) (by decide +kernel), List.mem_of_getElem? (i := 782) (by decide +kernel)⟩
theorem lw_p25 : lw_okq (⟨"GrilleHotel", "roomThatFeelsMost", "()I"⟩, 14) := ⟨⟨by decide +kernel, by decide +kernel⟩, List.mem_of_getElem? (i := 19) (by decide +kernel), List.mem_of_getElem? (i := 790) (by decide +kernel), List.mem_of_getElem? (i := 791) (by decide +kernel)⟩
theorem lw_p26 : lw_okq (⟨"GrilleHotel", "roomsThatFeel", "(I)I"⟩, 14) := ⟨⟨by decide +kernel, by decide +kernel⟩, List.mem_of_getElem? (i := 19) (by decide +kernel), List.mem_of_getElem? (i := 794) (by decide +kernel), List.mem_of_getElem? (i := 795) (by decide +kernel)⟩
theorem lw_p27 : lw_okq (⟨"GrilleHotel$Rope", "goDown", "(LGrilleHotel$Shaft;II)V"⟩, 3) := ⟨⟨by decide +kernel, by decide +kernel⟩, List.mem_of_getElem? (i := 236) (by decide +kernel), List.mem_of_getElem? (i := 810) (by decide +kernel), List.mem_of_getElem? (i := 811) (by decide +kernel)⟩
theorem lw_p28 : lw_okq (⟨"GrilleHotel$Rope", "aside", "(I)I"⟩, 3) := ⟨⟨by decide +kernel, by decide +kernel⟩, List.mem_of_getElem? (i := 236) (by decide +kernel), List.mem_of_getElem? (i := 814) (by decide +kernel), List.mem_of_getElem? (i := 815) (by decide +kernel)⟩
theorem lw_p29 : lw_okq (⟨"GrilleHotel$Rope", "goLeft", "(LGrilleHotel$Shaft;II)V"⟩, 3) := ⟨⟨by decide +kernel, by decide +kernel⟩, List.mem_of_getElem? (i := 236) (by decide +kernel), List.mem_of_getElem? (i := 822) (by decide +kernel), List.mem_of_getElem? (i := 823) (by decide +kernel)⟩
theorem lw_p30 : lw_okq (⟨"GrilleHotel$Rope", "goRight", "(LGrilleHotel$Shaft;II)V"⟩, 3) := ⟨⟨by decide +kernel, by decide +kernel⟩, List.mem_of_getElem? (i := 236) (by decide +kernel), List.mem_of_getElem? (i := 826) (by decide +kernel), List.mem_of_getElem? (i := 827) (by decide +kernel)⟩
theorem lw_p31 : lw_okq (⟨"GrilleHotel$Laundry", "roundOf", "(I)I"⟩, 2) := ⟨⟨by decide +kernel, by decide +kernel⟩, List.mem_of_getElem? (i := 279) (by decide +kernel), List.mem_of_getElem? (i := 878) (by decide +kernel), List.mem_of_getElem? (i := 879) (by decide +kernel)⟩
def lw_privs_2 : List (MethodName × Nat) := [(⟨"GrilleHotel$Law", "compareTwo", "(I)V"⟩, 16), (⟨"GrilleHotel$Law", "reckonTwo", "(I)V"⟩, 16), (⟨"GrilleHotel$Law", "letter", "(I)I"⟩, 16), (⟨"GrilleHotel$Law", "push", "(I)V"⟩, 16), (⟨"GrilleHotel$Air", "rise", "(II)V"⟩, 5), (⟨"GrilleHotel$Climb", "fillFewestTurns", "(LGrilleHotel$Shaft;I)V"⟩, 2), (⟨"GrilleHotel$Climb", "turnsBy", "(LGrilleHotel$Shaft;II)I"⟩, 2), (⟨"GrilleHotel$Climb", "leastNext", "(LGrilleHotel$Shaft;I)I"⟩, 2), (⟨"GrilleHotel$Beds", "fill", "(IIJ)V"⟩, 6), (⟨"GrilleHotel", "roomThatFeelsMost", "()I"⟩, 14), (⟨"GrilleHotel", "roomsThatFeel", "(I)I"⟩, 14), (⟨"GrilleHotel$Rope", "goDown", "(LGrilleHotel$Shaft;II)V"⟩, 3), (⟨"GrilleHotel$Rope", "aside", "(I)I"⟩, 3), (⟨"GrilleHotel$Rope", "goLeft", "(LGrilleHotel$Shaft;II)V"⟩, 3), (⟨"GrilleHotel$Rope", "goRight", "(LGrilleHotel$Shaft;II)V"⟩, 3), (⟨"GrilleHotel$Laundry", "roundOf", "(I)I"⟩, 2)]
theorem lw_r2 : ∀ q ∈ lw_privs_2, lw_okq q := List.forall_mem_cons.mpr ⟨lw_p16, List.forall_mem_cons.mpr ⟨lw_p17, List.forall_mem_cons.mpr ⟨lw_p18, List.forall_mem_cons.mpr ⟨lw_p19, List.forall_mem_cons.mpr ⟨lw_p20, List.forall_mem_cons.mpr ⟨lw_p21, List.forall_mem_cons.mpr ⟨lw_p22, List.forall_mem_cons.mpr ⟨lw_p23, List.forall_mem_cons.mpr ⟨lw_p24, List.forall_mem_cons.mpr ⟨lw_p25, List.forall_mem_cons.mpr ⟨lw_p26, List.forall_mem_cons.mpr ⟨lw_p27, List.forall_mem_cons.mpr ⟨lw_p28, List.forall_mem_cons.mpr ⟨lw_p29, List.forall_mem_cons.mpr ⟨lw_p30, List.forall_mem_cons.mpr ⟨lw_p31, fun _ h => absurd h List.not_mem_nil⟩⟩⟩⟩⟩⟩⟩⟩⟩⟩⟩⟩⟩⟩⟩⟩
theorem lw_p32 : lw_okq (⟨"GrilleHotel$Laundry", "isLowestOfRound", "(I)Z"⟩, 2) := ⟨⟨by decide +kernel, by decide +kernel⟩, List.mem_of_getElem? (i := 279) (by decide +kernel), List.mem_of_getElem? (i := 887) (by decide +kernel), List.mem_of_getElem? (i := 888) (by decide +kernel)⟩
theorem lw_p33 : lw_okq (⟨"GrilleHotel$Laundry", "after", "(II)I"⟩, 2) := ⟨⟨by decide +kernel, by decide +kernel⟩, List.mem_of_getElem? (i := 279) (by decide +kernel), List.mem_of_getElem? (i := 895) (by decide +kernel), List.mem_of_getElem? (i := 896) (by decide +kernel)⟩
theorem lw_p34 : lw_okq (⟨"GrilleHotel", "guestWhoFeelsLeast", "()I"⟩, 14) := ⟨⟨by decide +kernel, by decide +kernel⟩, List.mem_of_getElem? (i := 19) (by decide +kernel), List.mem_of_getElem? (i := 903) (by decide +kernel), List.mem_of_getElem? (i := 904) (by decide +kernel)⟩
theorem lw_p35 : lw_okq (⟨"GrilleHotel", "medianFelt", "()I"⟩, 14) := ⟨⟨by decide +kernel, by decide +kernel⟩, List.mem_of_getElem? (i := 19) (by decide +kernel), List.mem_of_getElem? (i := 907) (by decide +kernel), List.mem_of_getElem? (i := 908) (by decide +kernel)⟩
theorem lw_p36 : lw_okq (⟨"GrilleHotel", "guestsWhoFeelLessThan", "(I)I"⟩, 14) := ⟨⟨by decide +kernel, by decide +kernel⟩, List.mem_of_getElem? (i := 19) (by decide +kernel), List.mem_of_getElem? (i := 911) (by decide +kernel), List.mem_of_getElem? (i := 912) (by decide +kernel)⟩
theorem lw_p37 : lw_okq (⟨"GrilleHotelModel", "laysGuest", "(III)V"⟩, 42) := ⟨⟨by decide +kernel, by decide +kernel⟩, List.mem_of_getElem? (i := 937) (by decide +kernel), List.mem_of_getElem? (i := 1082) (by decide +kernel), List.mem_of_getElem? (i := 1083) (by decide +kernel)⟩
theorem lw_p38 : lw_okq (⟨"GrilleHotelModel", "types", "(I)V"⟩, 42) := ⟨⟨by decide +kernel, by decide +kernel⟩, List.mem_of_getElem? (i := 937) (by decide +kernel), List.mem_of_getElem? (i := 1101) (by decide +kernel), List.mem_of_getElem? (i := 1102) (by decide +kernel)⟩
theorem lw_p39 : lw_okq (⟨"GrilleHotelModel", "beginsText", "(I)V"⟩, 42) := ⟨⟨by decide +kernel, by decide +kernel⟩, List.mem_of_getElem? (i := 937) (by decide +kernel), List.mem_of_getElem? (i := 1109) (by decide +kernel), List.mem_of_getElem? (i := 1110) (by decide +kernel)⟩
theorem lw_p40 : lw_okq (⟨"GrilleHotelModel", "readsRule", "()Z"⟩, 42) := ⟨⟨by decide +kernel, by decide +kernel⟩, List.mem_of_getElem? (i := 937) (by decide +kernel), List.mem_of_getElem? (i := 1113) (by decide +kernel), List.mem_of_getElem? (i := 1114) (by decide +kernel)⟩
theorem lw_p41 : lw_okq (⟨"GrilleHotelModel", "here", "()I"⟩, 42) := ⟨⟨by decide +kernel, by decide +kernel⟩, List.mem_of_getElem? (i := 937) (by decide +kernel), List.mem_of_getElem? (i := 1117) (by decide +kernel), List.mem_of_getElem? (i := 1118) (by decide +kernel)⟩
theorem lw_p42 : lw_okq (⟨"GrilleHotelModel", "wrongAt", "(II)Z"⟩, 42) := ⟨⟨by decide +kernel, by decide +kernel⟩, List.mem_of_getElem? (i := 937) (by decide +kernel), List.mem_of_getElem? (i := 1121) (by decide +kernel), List.mem_of_getElem? (i := 1122) (by decide +kernel)⟩
theorem lw_p43 : lw_okq (⟨"GrilleHotelModel", "readsSum", "()Z"⟩, 42) := ⟨⟨by decide +kernel, by decide +kernel⟩, List.mem_of_getElem? (i := 937) (by decide +kernel), List.mem_of_getElem? (i := 1125) (by decide +kernel), List.mem_of_getElem? (i := 1126) (by decide +kernel)⟩
theorem lw_p44 : lw_okq (⟨"GrilleHotelModel", "readsFactor", "()Z"⟩, 42) := ⟨⟨by decide +kernel, by decide +kernel⟩, List.mem_of_getElem? (i := 937) (by decide +kernel), List.mem_of_getElem? (i := 1129) (by decide +kernel), List.mem_of_getElem? (i := 1130) (by decide +kernel)⟩
theorem lw_p45 : lw_okq (⟨"GrilleHotelModel", "opens", "(I)Z"⟩, 42) := ⟨⟨by decide +kernel, by decide +kernel⟩, List.mem_of_getElem? (i := 937) (by decide +kernel), List.mem_of_getElem? (i := 1133) (by decide +kernel), List.mem_of_getElem? (i := 1134) (by decide +kernel)⟩
theorem lw_p46 : lw_okq (⟨"GrilleHotelModel", "isDigit", "()Z"⟩, 42) := ⟨⟨by decide +kernel, by decide +kernel⟩, List.mem_of_getElem? (i := 937) (by decide +kernel), List.mem_of_getElem? (i := 1138) (by decide +kernel), List.mem_of_getElem? (i := 1139) (by decide +kernel)⟩
theorem lw_p47 : lw_okq (⟨"GrilleHotelModel", "readsNumber", "()Z"⟩, 42) := ⟨⟨by decide +kernel, by decide +kernel⟩, List.mem_of_getElem? (i := 937) (by decide +kernel), List.mem_of_getElem? (i := 1142) (by decide +kernel), List.mem_of_getElem? (i := 1143) (by decide +kernel)⟩
def lw_privs_3 : List (MethodName × Nat) := [(⟨"GrilleHotel$Laundry", "isLowestOfRound", "(I)Z"⟩, 2), (⟨"GrilleHotel$Laundry", "after", "(II)I"⟩, 2), (⟨"GrilleHotel", "guestWhoFeelsLeast", "()I"⟩, 14), (⟨"GrilleHotel", "medianFelt", "()I"⟩, 14), (⟨"GrilleHotel", "guestsWhoFeelLessThan", "(I)I"⟩, 14), (⟨"GrilleHotelModel", "laysGuest", "(III)V"⟩, 42), (⟨"GrilleHotelModel", "types", "(I)V"⟩, 42), (⟨"GrilleHotelModel", "beginsText", "(I)V"⟩, 42), (⟨"GrilleHotelModel", "readsRule", "()Z"⟩, 42), (⟨"GrilleHotelModel", "here", "()I"⟩, 42), (⟨"GrilleHotelModel", "wrongAt", "(II)Z"⟩, 42), (⟨"GrilleHotelModel", "readsSum", "()Z"⟩, 42), (⟨"GrilleHotelModel", "readsFactor", "()Z"⟩, 42), (⟨"GrilleHotelModel", "opens", "(I)Z"⟩, 42), (⟨"GrilleHotelModel", "isDigit", "()Z"⟩, 42), (⟨"GrilleHotelModel", "readsNumber", "()Z"⟩, 42)]
theorem lw_r3 : ∀ q ∈ lw_privs_3, lw_okq q := List.forall_mem_cons.mpr ⟨lw_p32, List.forall_mem_cons.mpr ⟨lw_p33, List.forall_mem_cons.mpr ⟨lw_p34, List.forall_mem_cons.mpr ⟨lw_p35, List.forall_mem_cons.mpr ⟨lw_p36, List.forall_mem_cons.mpr ⟨lw_p37, List.forall_mem_cons.mpr ⟨lw_p38, List.forall_mem_cons.mpr ⟨lw_p39, List.forall_mem_cons.mpr ⟨lw_p40, List.forall_mem_cons.mpr ⟨lw_p41, List.forall_mem_cons.mpr ⟨lw_p42, List.forall_mem_cons.mpr ⟨lw_p43, List.forall_mem_cons.mpr ⟨lw_p44, List.forall_mem_cons.mpr ⟨lw_p45, List.forall_mem_cons.mpr ⟨lw_p46, List.forall_mem_cons.mpr ⟨lw_p47, fun _ h => absurd h List.not_mem_nil⟩⟩⟩⟩⟩⟩⟩⟩⟩⟩⟩⟩⟩⟩⟩⟩
theorem lw_p48 : lw_okq (⟨"GrilleHotelModel", "notes", "(II)V"⟩, 42) := ⟨⟨by decide +kernel, by decide +kernel⟩, List.mem_of_getElem? (i := 937) (by decide +kernel), List.mem_of_getElem? (i := 1146) (by decide +kernel), List.mem_of_getElem? (i := 1147) (by decide +kernel)⟩
theorem lw_p49 : lw_okq (⟨"GrilleHotelModel", "closesSums", "(Z)V"⟩, 42) := ⟨⟨by decide +kernel, by decide +kernel⟩, List.mem_of_getElem? (i := 937) (by decide +kernel), List.mem_of_getElem? (i := 1156) (by decide +kernel), List.mem_of_getElem? (i := 1157) (by decide +kernel)⟩
theorem lw_p50 : lw_okq (⟨"GrilleHotelModel", "waitTop", "()I"⟩, 42) := ⟨⟨by decide +kernel, by decide +kernel⟩, List.mem_of_getElem? (i := 937) (by decide +kernel), List.mem_of_getElem? (i := 1160) (by decide +kernel), List.mem_of_getElem? (i := 1161) (by decide +kernel)⟩
theorem lw_p51 : lw_okq (⟨"GrilleHotelModel", "hasOpenSum", "(I)Z"⟩, 42) := ⟨⟨by decide +kernel, by decide +kernel⟩, List.mem_of_getElem? (i := 937) (by decide +kernel), List.mem_of_getElem? (i := 1164) (by decide +kernel), List.mem_of_getElem? (i := 1165) (by decide +kernel)⟩
theorem lw_p52 : lw_okq (⟨"GrilleHotelModel", "readsCondition", "()Z"⟩, 42) := ⟨⟨by decide +kernel, by decide +kernel⟩, List.mem_of_getElem? (i := 937) (by decide +kernel), List.mem_of_getElem? (i := 1168) (by decide +kernel), List.mem_of_getElem? (i := 1169) (by decide +kernel)⟩
theorem lw_p53 : lw_okq (⟨"GrilleHotelModel", "readsCompared", "()Z"⟩, 42) := ⟨⟨by decide +kernel, by decide +kernel⟩, List.mem_of_getElem? (i := 937) (by decide +kernel), List.mem_of_getElem? (i := 1172) (by decide +kernel), List.mem_of_getElem? (i := 1173) (by decide +kernel)⟩
theorem lw_p54 : lw_okq (⟨"GrilleHotelModel", "endsPiece", "()V"⟩, 42) := ⟨⟨by decide +kernel, by decide +kernel⟩, List.mem_of_getElem? (i := 937) (by decide +kernel), List.mem_of_getElem? (i := 1176) (by decide +kernel), List.mem_of_getElem? (i := 1177) (by decide +kernel)⟩
theorem lw_p55 : lw_okq (⟨"GrilleHotelModel", "lands", "(Z)V"⟩, 42) := ⟨⟨by decide +kernel, by decide +kernel⟩, List.mem_of_getElem? (i := 937) (by decide +kernel), List.mem_of_getElem? (i := 1180) (by decide +kernel), List.mem_of_getElem? (i := 1181) (by decide +kernel)⟩
theorem lw_p56 : lw_okq (⟨"GrilleHotelModel", "jumps", "(I)V"⟩, 42) := ⟨⟨by decide +kernel, by decide +kernel⟩, List.mem_of_getElem? (i := 937) (by decide +kernel), List.mem_of_getElem? (i := 1184) (by decide +kernel), List.mem_of_getElem? (i := 1185) (by decide +kernel)⟩
theorem lw_p57 : lw_okq (⟨"GrilleHotelModel", "takes", "(I)Z"⟩, 42) := ⟨⟨by decide +kernel, by decide +kernel⟩, List.mem_of_getElem? (i := 937) (by decide +kernel), List.mem_of_getElem? (i := 1188) (by decide +kernel), List.mem_of_getElem? (i := 1189) (by decide +kernel)⟩
theorem lw_p58 : lw_okq (⟨"GrilleHotelModel", "readsLine", "()Z"⟩, 42) := ⟨⟨by decide +kernel, by decide +kernel⟩, List.mem_of_getElem? (i := 937) (by decide +kernel), List.mem_of_getElem? (i := 1199) (by decide +kernel), List.mem_of_getElem? (i := 1200) (by decide +kernel)⟩
theorem lw_p59 : lw_okq (⟨"GrilleHotelModel", "readsRoom", "()Z"⟩, 42) := ⟨⟨by decide +kernel, by decide +kernel⟩, List.mem_of_getElem? (i := 937) (by decide +kernel), List.mem_of_getElem? (i := 1203) (by decide +kernel), List.mem_of_getElem? (i := 1204) (by decide +kernel)⟩
theorem lw_p60 : lw_okq (⟨"GrilleHotelModel", "readsAmount", "(I)Z"⟩, 42) := ⟨⟨by decide +kernel, by decide +kernel⟩, List.mem_of_getElem? (i := 937) (by decide +kernel), List.mem_of_getElem? (i := 1207) (by decide +kernel), List.mem_of_getElem? (i := 1208) (by decide +kernel)⟩
theorem lw_p61 : lw_okq (⟨"GrilleHotelModel", "readsMove", "(I)Z"⟩, 42) := ⟨⟨by decide +kernel, by decide +kernel⟩, List.mem_of_getElem? (i := 937) (by decide +kernel), List.mem_of_getElem? (i := 1211) (by decide +kernel), List.mem_of_getElem? (i := 1212) (by decide +kernel)⟩
theorem lw_p62 : lw_okq (⟨"GrilleHotelModel", "changes", "(II)V"⟩, 42) := ⟨⟨by decide +kernel, by decide +kernel⟩, List.mem_of_getElem? (i := 937) (by decide +kernel), List.mem_of_getElem? (i := 1215) (by decide +kernel), List.mem_of_getElem? (i := 1216) (by decide +kernel)⟩
theorem lw_p63 : lw_okq (⟨"GrilleHotelModel", "swaps", "(II)V"⟩, 42) := ⟨⟨by decide +kernel, by decide +kernel⟩, List.mem_of_getElem? (i := 937) (by decide +kernel), List.mem_of_getElem? (i := 1219) (by decide +kernel), List.mem_of_getElem? (i := 1220) (by decide +kernel)⟩
def lw_privs_4 : List (MethodName × Nat) := [(⟨"GrilleHotelModel", "notes", "(II)V"⟩, 42), (⟨"GrilleHotelModel", "closesSums", "(Z)V"⟩, 42), (⟨"GrilleHotelModel", "waitTop", "()I"⟩, 42), (⟨"GrilleHotelModel", "hasOpenSum", "(I)Z"⟩, 42), (⟨"GrilleHotelModel", "readsCondition", "()Z"⟩, 42), (⟨"GrilleHotelModel", "readsCompared", "()Z"⟩, 42), (⟨"GrilleHotelModel", "endsPiece", "()V"⟩, 42), (⟨"GrilleHotelModel", "lands", "(Z)V"⟩, 42), (⟨"GrilleHotelModel", "jumps", "(I)V"⟩, 42), (⟨"GrilleHotelModel", "takes", "(I)Z"⟩, 42), (⟨"GrilleHotelModel", "readsLine", "()Z"⟩, 42), (⟨"GrilleHotelModel", "readsRoom", "()Z"⟩, 42), (⟨"GrilleHotelModel", "readsAmount", "(I)Z"⟩, 42), (⟨"GrilleHotelModel", "readsMove", "(I)Z"⟩, 42), (⟨"GrilleHotelModel", "changes", "(II)V"⟩, 42), (⟨"GrilleHotelModel", "swaps", "(II)V"⟩, 42)]
theorem lw_r4 : ∀ q ∈ lw_privs_4, lw_okq q := List.forall_mem_cons.mpr ⟨lw_p48, List.forall_mem_cons.mpr ⟨lw_p49, List.forall_mem_cons.mpr ⟨lw_p50, List.forall_mem_cons.mpr ⟨lw_p51, List.forall_mem_cons.mpr ⟨lw_p52, List.forall_mem_cons.mpr ⟨lw_p53, List.forall_mem_cons.mpr ⟨lw_p54, List.forall_mem_cons.mpr ⟨lw_p55, List.forall_mem_cons.mpr ⟨lw_p56, List.forall_mem_cons.mpr ⟨lw_p57, List.forall_mem_cons.mpr ⟨lw_p58, List.forall_mem_cons.mpr ⟨lw_p59, List.forall_mem_cons.mpr ⟨lw_p60, List.forall_mem_cons.mpr ⟨lw_p61, List.forall_mem_cons.mpr ⟨lw_p62, List.forall_mem_cons.mpr ⟨lw_p63, fun _ h => absurd h List.not_mem_nil⟩⟩⟩⟩⟩⟩⟩⟩⟩⟩⟩⟩⟩⟩⟩⟩
theorem lw_p64 : lw_okq (⟨"GrilleHotelModel", "hoursGo", "(I)V"⟩, 42) := ⟨⟨by decide +kernel, by decide +kernel⟩, List.mem_of_getElem? (i := 937) (by decide +kernel), List.mem_of_getElem? (i := 1227) (by decide +kernel), List.mem_of_getElem? (i := 1228) (by decide +kernel)⟩
theorem lw_p65 : lw_okq (⟨"GrilleHotelModel", "hourGoes", "()V"⟩, 42) := ⟨⟨by decide +kernel, by decide +kernel⟩, List.mem_of_getElem? (i := 937) (by decide +kernel), List.mem_of_getElem? (i := 1232) (by decide +kernel), List.mem_of_getElem? (i := 1233) (by decide +kernel)⟩
theorem lw_p66 : lw_okq (⟨"GrilleHotelModel", "takesIn", "(I)Z"⟩, 42) := ⟨⟨by decide +kernel, by decide +kernel⟩, List.mem_of_getElem? (i := 937) (by decide +kernel), List.mem_of_getElem? (i := 1236) (by decide +kernel), List.mem_of_getElem? (i := 1237) (by decide +kernel)⟩
theorem lw_p67 : lw_okq (⟨"GrilleHotelModel", "asks", "(III)V"⟩, 42) := ⟨⟨by decide +kernel, by decide +kernel⟩, List.mem_of_getElem? (i := 937) (by decide +kernel), List.mem_of_getElem? (i := 1240) (by decide +kernel), List.mem_of_getElem? (i := 1241) (by decide +kernel)⟩
theorem lw_p68 : lw_okq (⟨"GrilleHotelModel", "feltIn", "(I)I"⟩, 42) := ⟨⟨by decide +kernel, by decide +kernel⟩, List.mem_of_getElem? (i := 937) (by decide +kernel), List.mem_of_getElem? (i := 1244) (by decide +kernel), List.mem_of_getElem? (i := 1245) (by decide +kernel)⟩
theorem lw_p69 : lw_okq (⟨"GrilleHotelModel", "holdsAny", "(I)Z"⟩, 42) := ⟨⟨by decide +kernel, by decide +kernel⟩, List.mem_of_getElem? (i := 937) (by decide +kernel), List.mem_of_getElem? (i := 1248) (by decide +kernel), List.mem_of_getElem? (i := 1249) (by decide +kernel)⟩
theorem lw_p70 : lw_okq (⟨"GrilleHotelModel", "comesTo", "(II)I"⟩, 42) := ⟨⟨by decide +kernel, by decide +kernel⟩, List.mem_of_getElem? (i := 937) (by decide +kernel), List.mem_of_getElem? (i := 1252) (by decide +kernel), List.mem_of_getElem? (i := 1253) (by decide +kernel)⟩
theorem lw_p71 : lw_okq (⟨"GrilleHotelModel", "byLaw", "(II)I"⟩, 42) := ⟨⟨by decide +kernel, by decide +kernel⟩, List.mem_of_getElem? (i := 937) (by decide +kernel), List.mem_of_getElem? (i := 1259) (by decide +kernel), List.mem_of_getElem? (i := 1260) (by decide +kernel)⟩
theorem lw_p72 : lw_okq (⟨"GrilleHotelModel", "rises", "(II)V"⟩, 42) := ⟨⟨by decide +kernel, by decide +kernel⟩, List.mem_of_getElem? (i := 937) (by decide +kernel), List.mem_of_getElem? (i := 1266) (by decide +kernel), List.mem_of_getElem? (i := 1267) (by decide +kernel)⟩
theorem lw_p73 : lw_okq (⟨"GrilleHotelModel", "above", "(I)I"⟩, 42) := ⟨⟨by decide +kernel, by decide +kernel⟩, List.mem_of_getElem? (i := 937) (by decide +kernel), List.mem_of_getElem? (i := 1270) (by decide +kernel), List.mem_of_getElem? (i := 1271) (by decide +kernel)⟩
theorem lw_p74 : lw_okq (⟨"GrilleHotelModel", "sumOf", "(I)I"⟩, 42) := ⟨⟨by decide +kernel, by decide +kernel⟩, List.mem_of_getElem? (i := 937) (by decide +kernel), List.mem_of_getElem? (i := 1286) (by decide +kernel), List.mem_of_getElem? (i := 1287) (by decide +kernel)⟩
theorem lw_p75 : lw_okq (⟨"GrilleHotelModel", "feltMost", "(I)I"⟩, 42) := ⟨⟨by decide +kernel, by decide +kernel⟩, List.mem_of_getElem? (i := 937) (by decide +kernel), List.mem_of_getElem? (i := 1294) (by decide +kernel), List.mem_of_getElem? (i := 1295) (by decide +kernel)⟩
theorem lw_p76 : lw_okq (⟨"GrilleHotelModel", "passes", "(II)Z"⟩, 42) := ⟨⟨by decide +kernel, by decide +kernel⟩, List.mem_of_getElem? (i := 937) (by decide +kernel), List.mem_of_getElem? (i := 1317) (by decide +kernel), List.mem_of_getElem? (i := 1318) (by decide +kernel)⟩
theorem lw_p77 : lw_okq (⟨"GrilleHotelModel", "laysFewest", "(I)V"⟩, 42) := ⟨⟨by decide +kernel, by decide +kernel⟩, List.mem_of_getElem? (i := 937) (by decide +kernel), List.mem_of_getElem? (i := 1337) (by decide +kernel), List.mem_of_getElem? (i := 1338) (by decide +kernel)⟩
theorem lw_p78 : lw_okq (⟨"GrilleHotelModel", "costOf", "(II)I"⟩, 42) := ⟨⟨by decide +kernel, by decide +kernel⟩, List.mem_of_getElem? (i := 937) (by decide +kernel), List.mem_of_getElem? (i := 1342) (by decide +kernel), List.mem_of_getElem? (i := 1343) (by decide +kernel)⟩
theorem lw_p79 : lw_okq (⟨"GrilleHotelModel", "bestOf", "(IZZ)J"⟩, 42) := ⟨⟨by decide +kernel, by decide +kernel⟩, List.mem_of_getElem? (i := 937) (by decide +kernel), List.mem_of_getElem? (i := 1361) (by decide +kernel), List.mem_of_getElem? (i := 1362) (by decide +kernel)⟩
def lw_privs_5 : List (MethodName × Nat) := [(⟨"GrilleHotelModel", "hoursGo", "(I)V"⟩, 42), (⟨"GrilleHotelModel", "hourGoes", "()V"⟩, 42), (⟨"GrilleHotelModel", "takesIn", "(I)Z"⟩, 42), (⟨"GrilleHotelModel", "asks", "(III)V"⟩, 42), (⟨"GrilleHotelModel", "feltIn", "(I)I"⟩, 42), (⟨"GrilleHotelModel", "holdsAny", "(I)Z"⟩, 42), (⟨"GrilleHotelModel", "comesTo", "(II)I"⟩, 42), (⟨"GrilleHotelModel", "byLaw", "(II)I"⟩, 42), (⟨"GrilleHotelModel", "rises", "(II)V"⟩, 42), (⟨"GrilleHotelModel", "above", "(I)I"⟩, 42), (⟨"GrilleHotelModel", "sumOf", "(I)I"⟩, 42), (⟨"GrilleHotelModel", "feltMost", "(I)I"⟩, 42), (⟨"GrilleHotelModel", "passes", "(II)Z"⟩, 42), (⟨"GrilleHotelModel", "laysFewest", "(I)V"⟩, 42), (⟨"GrilleHotelModel", "costOf", "(II)I"⟩, 42), (⟨"GrilleHotelModel", "bestOf", "(IZZ)J"⟩, 42)]
theorem lw_r5 : ∀ q ∈ lw_privs_5, lw_okq q := List.forall_mem_cons.mpr ⟨lw_p64, List.forall_mem_cons.mpr ⟨lw_p65, List.forall_mem_cons.mpr ⟨lw_p66, List.forall_mem_cons.mpr ⟨lw_p67, List.forall_mem_cons.mpr ⟨lw_p68, List.forall_mem_cons.mpr ⟨lw_p69, List.forall_mem_cons.mpr ⟨lw_p70, List.forall_mem_cons.mpr ⟨lw_p71, List.forall_mem_cons.mpr ⟨lw_p72, List.forall_mem_cons.mpr ⟨lw_p73, List.forall_mem_cons.mpr ⟨lw_p74, List.forall_mem_cons.mpr ⟨lw_p75, List.forall_mem_cons.mpr ⟨lw_p76, List.forall_mem_cons.mpr ⟨lw_p77, List.forall_mem_cons.mpr ⟨lw_p78, List.forall_mem_cons.mpr ⟨lw_p79, fun _ h => absurd h List.not_mem_nil⟩⟩⟩⟩⟩⟩⟩⟩⟩⟩⟩⟩⟩⟩⟩⟩
theorem lw_p80 : lw_okq (⟨"GrilleHotelModel", "belowOf", "(IZ)J"⟩, 42) := ⟨⟨by decide +kernel, by decide +kernel⟩, List.mem_of_getElem? (i := 937) (by decide +kernel), List.mem_of_getElem? (i := 1365) (by decide +kernel), List.mem_of_getElem? (i := 1366) (by decide +kernel)⟩
theorem lw_p81 : lw_okq (⟨"GrilleHotelModel", "octet", "(I)I"⟩, 42) := ⟨⟨by decide +kernel, by decide +kernel⟩, List.mem_of_getElem? (i := 937) (by decide +kernel), List.mem_of_getElem? (i := 1375) (by decide +kernel), List.mem_of_getElem? (i := 1376) (by decide +kernel)⟩
theorem lw_p82 : lw_okq (⟨"GrilleHotelModel", "nextWho", "(I)Z"⟩, 42) := ⟨⟨by decide +kernel, by decide +kernel⟩, List.mem_of_getElem? (i := 937) (by decide +kernel), List.mem_of_getElem? (i := 1379) (by decide +kernel), List.mem_of_getElem? (i := 1380) (by decide +kernel)⟩
theorem lw_p83 : lw_okq (⟨"GrilleHotelModel", "changesWho", "(II)V"⟩, 42) := ⟨⟨by decide +kernel, by decide +kernel⟩, List.mem_of_getElem? (i := 937) (by decide +kernel), List.mem_of_getElem? (i := 1383) (by decide +kernel), List.mem_of_getElem? (i := 1384) (by decide +kernel)⟩
theorem lw_p84 : lw_okq (⟨"GrilleHotelModel", "lowersAll", "(I)Z"⟩, 42) := ⟨⟨by decide +kernel, by decide +kernel⟩, List.mem_of_getElem? (i := 937) (by decide +kernel), List.mem_of_getElem? (i := 1395) (by decide +kernel), List.mem_of_getElem? (i := 1396) (by decide +kernel)⟩
theorem lw_p85 : lw_okq (⟨"GrilleHotelModel", "lowers", "(IIII)Z"⟩, 42) := ⟨⟨by decide +kernel, by decide +kernel⟩, List.mem_of_getElem? (i := 937) (by decide +kernel), List.mem_of_getElem? (i := 1399) (by decide +kernel), List.mem_of_getElem? (i := 1400) (by decide +kernel)⟩
theorem lw_p86 : lw_okq (⟨"GrilleHotelModel", "readsLetter", "()Z"⟩, 42) := ⟨⟨by decide +kernel, by decide +kernel⟩, List.mem_of_getElem? (i := 937) (by decide +kernel), List.mem_of_getElem? (i := 1407) (by decide +kernel), List.mem_of_getElem? (i := 1408) (by decide +kernel)⟩
theorem lw_p87 : lw_okq (⟨"GrilleHotelModel", "readsTaps", "()Z"⟩, 42) := ⟨⟨by decide +kernel, by decide +kernel⟩, List.mem_of_getElem? (i := 937) (by decide +kernel), List.mem_of_getElem? (i := 1411) (by decide +kernel), List.mem_of_getElem? (i := 1412) (by decide +kernel)⟩
theorem lw_p88 : lw_okq (⟨"GrilleHotelModel", "readsPause", "()Z"⟩, 42) := ⟨⟨by decide +kernel, by decide +kernel⟩, List.mem_of_getElem? (i := 937) (by decide +kernel), List.mem_of_getElem? (i := 1415) (by decide +kernel), List.mem_of_getElem? (i := 1416) (by decide +kernel)⟩
theorem lw_p89 : lw_okq (⟨"GrilleHotelModel", "isOnceEach", "(I)Z"⟩, 42) := ⟨⟨by decide +kernel, by decide +kernel⟩, List.mem_of_getElem? (i := 937) (by decide +kernel), List.mem_of_getElem? (i := 1427) (by decide +kernel), List.mem_of_getElem? (i := 1428) (by decide +kernel)⟩
theorem lw_p90 : lw_okq (⟨"GrilleHotelModel", "roundOf", "(I)I"⟩, 42) := ⟨⟨by decide +kernel, by decide +kernel⟩, List.mem_of_getElem? (i := 937) (by decide +kernel), List.mem_of_getElem? (i := 1431) (by decide +kernel), List.mem_of_getElem? (i := 1432) (by decide +kernel)⟩
theorem lw_p91 : lw_okq (⟨"GrilleHotelModel", "placeOf", "(I)I"⟩, 42) := ⟨⟨by decide +kernel, by decide +kernel⟩, List.mem_of_getElem? (i := 937) (by decide +kernel), List.mem_of_getElem? (i := 1439) (by decide +kernel), List.mem_of_getElem? (i := 1440) (by decide +kernel)⟩
theorem lw_p92 : lw_okq (⟨"GrilleHotelModel", "setOf", "(I)I"⟩, 42) := ⟨⟨by decide +kernel, by decide +kernel⟩, List.mem_of_getElem? (i := 937) (by decide +kernel), List.mem_of_getElem? (i := 1464) (by decide +kernel), List.mem_of_getElem? (i := 1465) (by decide +kernel)⟩
def lw_privs_6 : List (MethodName × Nat) := [(⟨"GrilleHotelModel", "belowOf", "(IZ)J"⟩, 42), (⟨"GrilleHotelModel", "octet", "(I)I"⟩, 42), (⟨"GrilleHotelModel", "nextWho", "(I)Z"⟩, 42), (⟨"GrilleHotelModel", "changesWho", "(II)V"⟩, 42), (⟨"GrilleHotelModel", "lowersAll", "(I)Z"⟩, 42), (⟨"GrilleHotelModel", "lowers", "(IIII)Z"⟩, 42), (⟨"GrilleHotelModel", "readsLetter", "()Z"⟩, 42), (⟨"GrilleHotelModel", "readsTaps", "()Z"⟩, 42), (⟨"GrilleHotelModel", "readsPause", "()Z"⟩, 42), (⟨"GrilleHotelModel", "isOnceEach", "(I)Z"⟩, 42), (⟨"GrilleHotelModel", "roundOf", "(I)I"⟩, 42), (⟨"GrilleHotelModel", "placeOf", "(I)I"⟩, 42), (⟨"GrilleHotelModel", "setOf", "(I)I"⟩, 42)]
theorem lw_r6 : ∀ q ∈ lw_privs_6, lw_okq q := List.forall_mem_cons.mpr ⟨lw_p80, List.forall_mem_cons.mpr ⟨lw_p81, List.forall_mem_cons.mpr ⟨lw_p82, List.forall_mem_cons.mpr ⟨lw_p83, List.forall_mem_cons.mpr ⟨lw_p84, List.forall_mem_cons.mpr ⟨lw_p85, List.forall_mem_cons.mpr ⟨lw_p86, List.forall_mem_cons.mpr ⟨lw_p87, List.forall_mem_cons.mpr ⟨lw_p88, List.forall_mem_cons.mpr ⟨lw_p89, List.forall_mem_cons.mpr ⟨lw_p90, List.forall_mem_cons.mpr ⟨lw_p91, List.forall_mem_cons.mpr ⟨lw_p92, fun _ h => absurd h List.not_mem_nil⟩⟩⟩⟩⟩⟩⟩⟩⟩⟩⟩⟩⟩
def lw_privs : List (MethodName × Nat) := lw_privs_1 ++ (lw_privs_2 ++ (lw_privs_3 ++ (lw_privs_4 ++ (lw_privs_5 ++ (lw_privs_6)))))
def lw_tbl : List Cond := k2_sels lw_privs ++ tables_1
theorem lw_privs_ok : ∀ q ∈ lw_privs, lw_okq q := by
  show ∀ q ∈ lw_privs_1 ++ (lw_privs_2 ++ (lw_privs_3 ++ (lw_privs_4 ++ (lw_privs_5 ++ (lw_privs_6))))), lw_okq q
  exact List.forall_mem_append.mpr ⟨lw_r1, List.forall_mem_append.mpr ⟨lw_r2, List.forall_mem_append.mpr ⟨lw_r3, List.forall_mem_append.mpr ⟨lw_r4, List.forall_mem_append.mpr ⟨lw_r5, lw_r6⟩⟩⟩⟩⟩
def RX0 : String := "GrilleHotel$Air"
def TX0 : u_T := fun k => match k with
  | 0 => ("GrilleHotel$Air", "shaft", "LGrilleHotel$Shaft;", false)
  | 1 => ("GrilleHotel$Air", "law", "LGrilleHotel$Law;", false)
  | 2 => ("GrilleHotel$Air", "cameOut", "I", false)
  | 3 => ("GrilleHotel$Air", "settled", "I", false)
  | _ => ("GrilleHotel$Air", "wentOut", "I", false)
def tyX0 : Nat → FieldType := fun k => match k with
  | 0 => .object "GrilleHotel$Shaft"
  | 1 => .object "GrilleHotel$Law"
  | 2 => .int
  | 3 => .int
  | _ => .int
theorem nmX0 : ∀ a, a < 5 → ∀ b, b < 5 → a ≠ b → (TX0 a).2.1 ≠ (TX0 b).2.1 := by decide +kernel
theorem tyX0_ok : ∀ k, k < 5 → parseFieldDescriptor (TX0 k).2.2.1 = some (tyX0 k) := by decide +kernel
abbrev cX0_init : ByteArray := prog_2_method_1_code
def yX0_init : MethodName := ⟨RX0, "<init>", "(LGrilleHotel$Shaft;LGrilleHotel$Law;)V"⟩
abbrev cX0_pass : ByteArray := prog_2_method_2_code
def yX0_pass : MethodName := ⟨RX0, "pass", "(LGrilleHotel$Shaft;LGrilleHotel$Law;I)V"⟩
abbrev cX0_sendUp : ByteArray := prog_2_method_3_code
def yX0_sendUp : MethodName := ⟨RX0, "sendUp", "(I)V"⟩
abbrev cX0_rise : ByteArray := prog_2_method_4_code
def yX0_rise : MethodName := ⟨RX0, "rise", "(II)V"⟩
def RX1 : String := "GrilleHotel$Beds"
def TX1 : u_T := fun k => match k with
  | 0 => ("GrilleHotel$Beds", "minds", "[I", true)
  | 1 => ("GrilleHotel$Beds", "felt", "[I", true)
  | 2 => ("GrilleHotel$Beds", "row", "[I", true)
  | 3 => ("GrilleHotel$Beds", "bestRow", "[I", true)
  | 4 => ("GrilleHotel$Beds", "number", "I", false)
  | _ => ("GrilleHotel$Beds", "least", "J", false)
def tyX1 : Nat → FieldType := fun k => match k with
  | 0 => .array .int
  | 1 => .array .int
  | 2 => .array .int
  | 3 => .array .int
  | 4 => .int
  | _ => .long
theorem nmX1 : ∀ a, a < 6 → ∀ b, b < 6 → a ≠ b → (TX1 a).2.1 ≠ (TX1 b).2.1 := by decide +kernel
theorem tyX1_ok : ∀ k, k < 6 → parseFieldDescriptor (TX1 k).2.2.1 = some (tyX1 k) := by decide +kernel
abbrev cX1_init : ByteArray := prog_3_method_1_code
def yX1_init : MethodName := ⟨RX1, "<init>", "()V"⟩
abbrev cX1_share : ByteArray := prog_3_method_2_code
def yX1_share : MethodName := ⟨RX1, "share", "(LGrilleHotel$Tape;ILGrilleHotel$Shaft;I)V"⟩
abbrev cX1_fill : ByteArray := prog_3_method_3_code
def yX1_fill : MethodName := ⟨RX1, "fill", "(IIJ)V"⟩
def RX2 : String := "GrilleHotel$Climb"
def TX2 : u_T := fun k => match k with
  | 0 => ("GrilleHotel$Climb", "toGo", "[I", true)
  | _ => ("GrilleHotel$Climb", "forced", "[I", true)
def tyX2 : Nat → FieldType := fun k => match k with
  | 0 => .array .int
  | _ => .array .int
theorem nmX2 : ∀ a, a < 2 → ∀ b, b < 2 → a ≠ b → (TX2 a).2.1 ≠ (TX2 b).2.1 := by decide +kernel
theorem tyX2_ok : ∀ k, k < 2 → parseFieldDescriptor (TX2 k).2.2.1 = some (tyX2 k) := by decide +kernel
abbrev cX2_init : ByteArray := prog_4_method_1_code
def yX2_init : MethodName := ⟨RX2, "<init>", "()V"⟩
abbrev cX2_turned : ByteArray := prog_4_method_2_code
def yX2_turned : MethodName := ⟨RX2, "turned", "(LGrilleHotel$Shaft;III)I"⟩
abbrev cX2_numberOfRows : ByteArray := prog_4_method_3_code
def yX2_numberOfRows : MethodName := ⟨RX2, "numberOfRows", "(II)I"⟩
abbrev cX2_fewestShut : ByteArray := prog_4_method_4_code
def yX2_fewestShut : MethodName := ⟨RX2, "fewestShut", "(LGrilleHotel$Shaft;I)I"⟩
abbrev cX2_fillFewestTurns : ByteArray := prog_4_method_5_code
def yX2_fillFewestTurns : MethodName := ⟨RX2, "fillFewestTurns", "(LGrilleHotel$Shaft;I)V"⟩
abbrev cX2_turnsBy : ByteArray := prog_4_method_6_code
def yX2_turnsBy : MethodName := ⟨RX2, "turnsBy", "(LGrilleHotel$Shaft;II)I"⟩
abbrev cX2_leastNext : ByteArray := prog_4_method_7_code
def yX2_leastNext : MethodName := ⟨RX2, "leastNext", "(LGrilleHotel$Shaft;I)I"⟩
abbrev cX2_lowestAbove : ByteArray := prog_4_method_8_code
def yX2_lowestAbove : MethodName := ⟨RX2, "lowestAbove", "(I)I"⟩
abbrev cX2_highestAbove : ByteArray := prog_4_method_9_code
def yX2_highestAbove : MethodName := ⟨RX2, "highestAbove", "(I)I"⟩
def RX3 : String := "GrilleHotel$Laundry"
def TX3 : u_T := fun k => match k with
  | 0 => ("GrilleHotel$Laundry", "next", "[I", true)
  | _ => ("GrilleHotel$Laundry", "number", "I", false)
def tyX3 : Nat → FieldType := fun k => match k with
  | 0 => .array .int
  | _ => .int
theorem nmX3 : ∀ a, a < 2 → ∀ b, b < 2 → a ≠ b → (TX3 a).2.1 ≠ (TX3 b).2.1 := by decide +kernel
theorem tyX3_ok : ∀ k, k < 2 → parseFieldDescriptor (TX3 k).2.2.1 = some (tyX3 k) := by decide +kernel
abbrev cX3_init : ByteArray := prog_5_method_1_code
def yX3_init : MethodName := ⟨RX3, "<init>", "()V"⟩
abbrev cX3_learn : ByteArray := prog_5_method_2_code
def yX3_learn : MethodName := ⟨RX3, "learn", "(LGrilleHotel$Tape;I)Z"⟩
abbrev cX3_weeksTillHome : ByteArray := prog_5_method_3_code
def yX3_weeksTillHome : MethodName := ⟨RX3, "weeksTillHome", "()I"⟩
abbrev cX3_rounds : ByteArray := prog_5_method_4_code
def yX3_rounds : MethodName := ⟨RX3, "rounds", "()I"⟩
abbrev cX3_placeOf : ByteArray := prog_5_method_5_code
def yX3_placeOf : MethodName := ⟨RX3, "placeOf", "(II)I"⟩
abbrev cX3_after : ByteArray := prog_5_method_6_code
def yX3_after : MethodName := ⟨RX3, "after", "(II)I"⟩
abbrev cX3_roundOf : ByteArray := prog_5_method_7_code
def yX3_roundOf : MethodName := ⟨RX3, "roundOf", "(I)I"⟩
abbrev cX3_isLowestOfRound : ByteArray := prog_5_method_8_code
def yX3_isLowestOfRound : MethodName := ⟨RX3, "isLowestOfRound", "(I)Z"⟩
def RX4 : String := "GrilleHotel$Law"
def TX4 : u_T := fun k => match k with
  | 0 => ("GrilleHotel$Law", "signs", "[I", true)
  | 1 => ("GrilleHotel$Law", "values", "[I", true)
  | 2 => ("GrilleHotel$Law", "kinds", "[I", true)
  | 3 => ("GrilleHotel$Law", "amounts", "[I", true)
  | 4 => ("GrilleHotel$Law", "tests", "[I", true)
  | 5 => ("GrilleHotel$Law", "ends", "[I", true)
  | 6 => ("GrilleHotel$Law", "size", "I", false)
  | 7 => ("GrilleHotel$Law", "rules", "I", false)
  | 8 => ("GrilleHotel$Law", "stack", "[I", true)
  | 9 => ("GrilleHotel$Law", "top", "I", false)
  | 10 => ("GrilleHotel$Law", "holds", "Z", false)
  | 11 => ("GrilleHotel$Law", "isRefused", "Z", false)
  | 12 => ("GrilleHotel$Law", "shaft", "LGrilleHotel$Shaft;", false)
  | 13 => ("GrilleHotel$Law", "from", "I", false)
  | 14 => ("GrilleHotel$Law", "at", "I", false)
  | _ => ("GrilleHotel$Law", "left", "I", false)
def tyX4 : Nat → FieldType := fun k => match k with
  | 0 => .array .int
  | 1 => .array .int
  | 2 => .array .int
  | 3 => .array .int
  | 4 => .array .int
  | 5 => .array .int
  | 6 => .int
  | 7 => .int
  | 8 => .array .int
  | 9 => .int
  | 10 => .boolean
  | 11 => .boolean
  | 12 => .object "GrilleHotel$Shaft"
  | 13 => .int
  | 14 => .int
  | _ => .int
theorem nmX4 : ∀ a, a < 16 → ∀ b, b < 16 → a ≠ b → (TX4 a).2.1 ≠ (TX4 b).2.1 := by decide +kernel
theorem tyX4_ok : ∀ k, k < 16 → parseFieldDescriptor (TX4 k).2.2.1 = some (tyX4 k) := by decide +kernel
abbrev cX4_init : ByteArray := prog_6_method_1_code
def yX4_init : MethodName := ⟨RX4, "<init>", "(LGrilleHotel$Shaft;)V"⟩
abbrev cX4_clear : ByteArray := prog_6_method_2_code
def yX4_clear : MethodName := ⟨RX4, "clear", "()V"⟩
abbrev cX4_add : ByteArray := prog_6_method_3_code
def yX4_add : MethodName := ⟨RX4, "add", "(II)I"⟩
abbrev cX4_leadToHere : ByteArray := prog_6_method_4_code
def yX4_leadToHere : MethodName := ⟨RX4, "leadToHere", "(I)V"⟩
abbrev cX4_addRule : ByteArray := prog_6_method_5_code
def yX4_addRule : MethodName := ⟨RX4, "addRule", "(III)V"⟩
abbrev cX4_look : ByteArray := prog_6_method_6_code
def yX4_look : MethodName := ⟨RX4, "look", "(LGrilleHotel$Shaft;III)V"⟩
abbrev cX4_isFog : ByteArray := prog_6_method_7_code
def yX4_isFog : MethodName := ⟨RX4, "isFog", "()Z"⟩
abbrev cX4_amountOf : ByteArray := prog_6_method_8_code
def yX4_amountOf : MethodName := ⟨RX4, "amountOf", "(II)I"⟩
abbrev cX4_run : ByteArray := prog_6_method_9_code
def yX4_run : MethodName := ⟨RX4, "run", "(II)V"⟩
abbrev cX4_push : ByteArray := prog_6_method_10_code
def yX4_push : MethodName := ⟨RX4, "push", "(I)V"⟩
abbrev cX4_compareTwo : ByteArray := prog_6_method_11_code
def yX4_compareTwo : MethodName := ⟨RX4, "compareTwo", "(I)V"⟩
abbrev cX4_reckonTwo : ByteArray := prog_6_method_12_code
def yX4_reckonTwo : MethodName := ⟨RX4, "reckonTwo", "(I)V"⟩
abbrev cX4_letter : ByteArray := prog_6_method_13_code
def yX4_letter : MethodName := ⟨RX4, "letter", "(I)I"⟩
def RX5 : String := "GrilleHotel$LawReader"
def TX5 : u_T := fun k => match k with
  | 0 => ("GrilleHotel$LawReader", "tape", "LGrilleHotel$Tape;", true)
  | _ => ("GrilleHotel$LawReader", "law", "LGrilleHotel$Law;", false)
def tyX5 : Nat → FieldType := fun k => match k with
  | 0 => .object "GrilleHotel$Tape"
  | _ => .object "GrilleHotel$Law"
theorem nmX5 : ∀ a, a < 2 → ∀ b, b < 2 → a ≠ b → (TX5 a).2.1 ≠ (TX5 b).2.1 := by decide +kernel
theorem tyX5_ok : ∀ k, k < 2 → parseFieldDescriptor (TX5 k).2.2.1 = some (tyX5 k) := by decide +kernel
abbrev cX5_init : ByteArray := prog_7_method_1_code
def yX5_init : MethodName := ⟨RX5, "<init>", "(LGrilleHotel$Tape;LGrilleHotel$Law;)V"⟩
abbrev cX5_read : ByteArray := prog_7_method_2_code
def yX5_read : MethodName := ⟨RX5, "read", "(LGrilleHotel$Law;)V"⟩
abbrev cX5_readRule : ByteArray := prog_7_method_3_code
def yX5_readRule : MethodName := ⟨RX5, "readRule", "()V"⟩
abbrev cX5_readCondition : ByteArray := prog_7_method_4_code
def yX5_readCondition : MethodName := ⟨RX5, "readCondition", "(I)V"⟩
abbrev cX5_readPart : ByteArray := prog_7_method_5_code
def yX5_readPart : MethodName := ⟨RX5, "readPart", "(I)V"⟩
abbrev cX5_readTest : ByteArray := prog_7_method_6_code
def yX5_readTest : MethodName := ⟨RX5, "readTest", "(I)V"⟩
abbrev cX5_readAmount : ByteArray := prog_7_method_7_code
def yX5_readAmount : MethodName := ⟨RX5, "readAmount", "(I)V"⟩
abbrev cX5_readTerm : ByteArray := prog_7_method_8_code
def yX5_readTerm : MethodName := ⟨RX5, "readTerm", "(I)V"⟩
abbrev cX5_readFactor : ByteArray := prog_7_method_9_code
def yX5_readFactor : MethodName := ⟨RX5, "readFactor", "(I)V"⟩
abbrev cX5_opens : ByteArray := prog_7_method_10_code
def yX5_opens : MethodName := ⟨RX5, "opens", "(I)Z"⟩
abbrev cX5_isTimes : ByteArray := prog_7_method_11_code
def yX5_isTimes : MethodName := ⟨RX5, "isTimes", "(I)Z"⟩
abbrev cX5_isLetter : ByteArray := prog_7_method_12_code
def yX5_isLetter : MethodName := ⟨RX5, "isLetter", "(I)Z"⟩
def RX6 : String := "GrilleHotel$RegisterReader"
def TX6 : u_T := fun k => match k with
  | 0 => ("GrilleHotel$RegisterReader", "tape", "LGrilleHotel$Tape;", true)
  | _ => ("GrilleHotel$RegisterReader", "shaft", "LGrilleHotel$Shaft;", false)
def tyX6 : Nat → FieldType := fun k => match k with
  | 0 => .object "GrilleHotel$Tape"
  | _ => .object "GrilleHotel$Shaft"
theorem nmX6 : ∀ a, a < 2 → ∀ b, b < 2 → a ≠ b → (TX6 a).2.1 ≠ (TX6 b).2.1 := by decide +kernel
theorem tyX6_ok : ∀ k, k < 2 → parseFieldDescriptor (TX6 k).2.2.1 = some (tyX6 k) := by decide +kernel
abbrev cX6_init : ByteArray := prog_8_method_1_code
def yX6_init : MethodName := ⟨RX6, "<init>", "(LGrilleHotel$Tape;LGrilleHotel$Shaft;)V"⟩
abbrev cX6_read : ByteArray := prog_8_method_2_code
def yX6_read : MethodName := ⟨RX6, "read", "(LGrilleHotel$Shaft;)I"⟩
abbrev cX6_doLine : ByteArray := prog_8_method_3_code
def yX6_doLine : MethodName := ⟨RX6, "doLine", "()V"⟩
abbrev cX6_readRoom : ByteArray := prog_8_method_4_code
def yX6_readRoom : MethodName := ⟨RX6, "readRoom", "()I"⟩
abbrev cX6_takeIn : ByteArray := prog_8_method_5_code
def yX6_takeIn : MethodName := ⟨RX6, "takeIn", "(I)V"⟩
abbrev cX6_sendAway : ByteArray := prog_8_method_6_code
def yX6_sendAway : MethodName := ⟨RX6, "sendAway", "(II)V"⟩
abbrev cX6_exchange : ByteArray := prog_8_method_7_code
def yX6_exchange : MethodName := ⟨RX6, "exchange", "(II)V"⟩
def RX7 : String := "GrilleHotel$Rope"
def TX7 : u_T := fun k => match k with
  | 0 => ("GrilleHotel$Rope", "down", "[I", true)
  | 1 => ("GrilleHotel$Rope", "left", "[I", true)
  | _ => ("GrilleHotel$Rope", "right", "[I", true)
def tyX7 : Nat → FieldType := fun k => match k with
  | 0 => .array .int
  | 1 => .array .int
  | _ => .array .int
theorem nmX7 : ∀ a, a < 3 → ∀ b, b < 3 → a ≠ b → (TX7 a).2.1 ≠ (TX7 b).2.1 := by decide +kernel
theorem tyX7_ok : ∀ k, k < 3 → parseFieldDescriptor (TX7 k).2.2.1 = some (tyX7 k) := by decide +kernel
abbrev cX7_init : ByteArray := prog_9_method_1_code
def yX7_init : MethodName := ⟨RX7, "<init>", "()V"⟩
abbrev cX7_let : ByteArray := prog_9_method_2_code
def yX7_let : MethodName := ⟨RX7, "let", "(LGrilleHotel$Shaft;III)I"⟩
abbrev cX7_aside : ByteArray := prog_9_method_3_code
def yX7_aside : MethodName := ⟨RX7, "aside", "(I)I"⟩
abbrev cX7_goDown : ByteArray := prog_9_method_4_code
def yX7_goDown : MethodName := ⟨RX7, "goDown", "(LGrilleHotel$Shaft;II)V"⟩
abbrev cX7_goLeft : ByteArray := prog_9_method_5_code
def yX7_goLeft : MethodName := ⟨RX7, "goLeft", "(LGrilleHotel$Shaft;II)V"⟩
abbrev cX7_goRight : ByteArray := prog_9_method_6_code
def yX7_goRight : MethodName := ⟨RX7, "goRight", "(LGrilleHotel$Shaft;II)V"⟩
abbrev cX7_costAt : ByteArray := prog_9_method_7_code
def yX7_costAt : MethodName := ⟨RX7, "costAt", "(LGrilleHotel$Shaft;IIII)I"⟩
def RX8 : String := "GrilleHotel$Shaft"
def TX8 : u_T := fun k => match k with
  | 0 => ("GrilleHotel$Shaft", "sins", "[I", true)
  | 1 => ("GrilleHotel$Shaft", "louvres", "[I", true)
  | 2 => ("GrilleHotel$Shaft", "grease", "[I", true)
  | 3 => ("GrilleHotel$Shaft", "feels", "[I", true)
  | 4 => ("GrilleHotel$Shaft", "felt", "[I", true)
  | 5 => ("GrilleHotel$Shaft", "guests", "I", false)
  | 6 => ("GrilleHotel$Shaft", "grilles", "I", false)
  | 7 => ("GrilleHotel$Shaft", "cowl", "I", false)
  | 8 => ("GrilleHotel$Shaft", "hour", "I", false)
  | _ => ("GrilleHotel$Shaft", "x", "I", false)
def tyX8 : Nat → FieldType := fun k => match k with
  | 0 => .array .int
  | 1 => .array .int
  | 2 => .array .int
  | 3 => .array .int
  | 4 => .array .int
  | 5 => .int
  | 6 => .int
  | 7 => .int
  | 8 => .int
  | _ => .int
theorem nmX8 : ∀ a, a < 10 → ∀ b, b < 10 → a ≠ b → (TX8 a).2.1 ≠ (TX8 b).2.1 := by decide +kernel
theorem tyX8_ok : ∀ k, k < 10 → parseFieldDescriptor (TX8 k).2.2.1 = some (tyX8 k) := by decide +kernel
abbrev cX8_init : ByteArray := prog_10_method_1_code
def yX8_init : MethodName := ⟨RX8, "<init>", "()V"⟩
abbrev cX8_copyFrom : ByteArray := prog_10_method_2_code
def yX8_copyFrom : MethodName := ⟨RX8, "copyFrom", "(LGrilleHotel$Shaft;)V"⟩
abbrev cX8_hasGuest : ByteArray := prog_10_method_3_code
def yX8_hasGuest : MethodName := ⟨RX8, "hasGuest", "(I)Z"⟩
abbrev cX8_isOpen : ByteArray := prog_10_method_4_code
def yX8_isOpen : MethodName := ⟨RX8, "isOpen", "(I)Z"⟩
abbrev cX8_takesPart : ByteArray := prog_10_method_5_code
def yX8_takesPart : MethodName := ⟨RX8, "takesPart", "(I)Z"⟩
abbrev cX8_feelsOf : ByteArray := prog_10_method_6_code
def yX8_feelsOf : MethodName := ⟨RX8, "feelsOf", "(II)I"⟩
abbrev cX8_mostFeltBy : ByteArray := prog_10_method_7_code
def yX8_mostFeltBy : MethodName := ⟨RX8, "mostFeltBy", "(I)I"⟩
abbrev cX8_takeIn : ByteArray := prog_10_method_8_code
def yX8_takeIn : MethodName := ⟨RX8, "takeIn", "(II)V"⟩
abbrev cX8_sendAway : ByteArray := prog_10_method_9_code
def yX8_sendAway : MethodName := ⟨RX8, "sendAway", "(I)V"⟩
abbrev cX8_setGrille : ByteArray := prog_10_method_10_code
def yX8_setGrille : MethodName := ⟨RX8, "setGrille", "(IZ)V"⟩
abbrev cX8_setLouvre : ByteArray := prog_10_method_11_code
def yX8_setLouvre : MethodName := ⟨RX8, "setLouvre", "(II)V"⟩
abbrev cX8_exchange : ByteArray := prog_10_method_12_code
def yX8_exchange : MethodName := ⟨RX8, "exchange", "(II)V"⟩
abbrev cX8_addGrease : ByteArray := prog_10_method_13_code
def yX8_addGrease : MethodName := ⟨RX8, "addGrease", "(II)V"⟩
abbrev cX8_addFelt : ByteArray := prog_10_method_14_code
def yX8_addFelt : MethodName := ⟨RX8, "addFelt", "(III)V"⟩
abbrev cX8_draw : ByteArray := prog_10_method_15_code
def yX8_draw : MethodName := ⟨RX8, "draw", "()I"⟩
abbrev cX8_above : ByteArray := prog_10_method_16_code
def yX8_above : MethodName := ⟨RX8, "above", "(I)I"⟩
abbrev cX8_riseTo : ByteArray := prog_10_method_17_code
def yX8_riseTo : MethodName := ⟨RX8, "riseTo", "(II)I"⟩
abbrev cX8_forget : ByteArray := prog_10_method_18_code
def yX8_forget : MethodName := ⟨RX8, "forget", "(I)V"⟩
abbrev cX8_swap : ByteArray := prog_10_method_19_code
def yX8_swap : MethodName := ⟨RX8, "swap", "([III)V"⟩
def RX9 : String := "GrilleHotel$TapCode"
def TX9 : u_T := fun k => match k with
  | _ => ("", "", "", false)
def tyX9 : Nat → FieldType := fun k => match k with
  | _ => .int
theorem nmX9 : ∀ a, a < 0 → ∀ b, b < 0 → a ≠ b → (TX9 a).2.1 ≠ (TX9 b).2.1 := by decide +kernel
theorem tyX9_ok : ∀ k, k < 0 → parseFieldDescriptor (TX9 k).2.2.1 = some (tyX9 k) := by decide +kernel
abbrev cX9_read : ByteArray := prog_11_method_2_code
def yX9_read : MethodName := ⟨RX9, "read", "(LGrilleHotel$Tape;I)I"⟩
abbrev cX9_lengthOf : ByteArray := prog_11_method_3_code
def yX9_lengthOf : MethodName := ⟨RX9, "lengthOf", "(LGrilleHotel$Tape;)I"⟩
abbrev cX9_tapsOf : ByteArray := prog_11_method_4_code
def yX9_tapsOf : MethodName := ⟨RX9, "tapsOf", "(I)I"⟩
abbrev cX9_readLetter : ByteArray := prog_11_method_5_code
def yX9_readLetter : MethodName := ⟨RX9, "readLetter", "(LGrilleHotel$Tape;)I"⟩
abbrev cX9_readTaps : ByteArray := prog_11_method_6_code
def yX9_readTaps : MethodName := ⟨RX9, "readTaps", "(LGrilleHotel$Tape;)I"⟩
abbrev cX9_readGap : ByteArray := prog_11_method_7_code
def yX9_readGap : MethodName := ⟨RX9, "readGap", "(LGrilleHotel$Tape;)V"⟩
def RX10 : String := "GrilleHotel$Tape"
def TX10 : u_T := fun k => match k with
  | 0 => ("GrilleHotel$Tape", "bytes", "[I", true)
  | 1 => ("GrilleHotel$Tape", "size", "I", false)
  | 2 => ("GrilleHotel$Tape", "end", "I", false)
  | 3 => ("GrilleHotel$Tape", "at", "I", false)
  | _ => ("GrilleHotel$Tape", "fault", "I", false)
def tyX10 : Nat → FieldType := fun k => match k with
  | 0 => .array .int
  | 1 => .int
  | 2 => .int
  | 3 => .int
  | _ => .int
theorem nmX10 : ∀ a, a < 5 → ∀ b, b < 5 → a ≠ b → (TX10 a).2.1 ≠ (TX10 b).2.1 := by decide +kernel
theorem tyX10_ok : ∀ k, k < 5 → parseFieldDescriptor (TX10 k).2.2.1 = some (tyX10 k) := by decide +kernel
abbrev cX10_init : ByteArray := prog_12_method_1_code
def yX10_init : MethodName := ⟨RX10, "<init>", "()V"⟩
abbrev cX10_hasSpace : ByteArray := prog_12_method_2_code
def yX10_hasSpace : MethodName := ⟨RX10, "hasSpace", "()Z"⟩
abbrev cX10_addWord : ByteArray := prog_12_method_3_code
def yX10_addWord : MethodName := ⟨RX10, "addWord", "(I)V"⟩
abbrev cX10_has : ByteArray := prog_12_method_4_code
def yX10_has : MethodName := ⟨RX10, "has", "(I)Z"⟩
abbrev cX10_take : ByteArray := prog_12_method_5_code
def yX10_take : MethodName := ⟨RX10, "take", "(I)V"⟩
abbrev cX10_byteAt : ByteArray := prog_12_method_6_code
def yX10_byteAt : MethodName := ⟨RX10, "byteAt", "(I)I"⟩
abbrev cX10_sign : ByteArray := prog_12_method_7_code
def yX10_sign : MethodName := ⟨RX10, "sign", "()I"⟩
abbrev cX10_isOver : ByteArray := prog_12_method_8_code
def yX10_isOver : MethodName := ⟨RX10, "isOver", "()Z"⟩
abbrev cX10_isFaulty : ByteArray := prog_12_method_9_code
def yX10_isFaulty : MethodName := ⟨RX10, "isFaulty", "()Z"⟩
abbrev cX10_step : ByteArray := prog_12_method_10_code
def yX10_step : MethodName := ⟨RX10, "step", "()V"⟩
abbrev cX10_expect : ByteArray := prog_12_method_11_code
def yX10_expect : MethodName := ⟨RX10, "expect", "(I)V"⟩
abbrev cX10_failAt : ByteArray := prog_12_method_12_code
def yX10_failAt : MethodName := ⟨RX10, "failAt", "(II)V"⟩
abbrev cX10_number : ByteArray := prog_12_method_13_code
def yX10_number : MethodName := ⟨RX10, "number", "(I)I"⟩
abbrev cX10_isDigit : ByteArray := prog_12_method_14_code
def yX10_isDigit : MethodName := ⟨RX10, "isDigit", "(I)Z"⟩
def RX11 : String := "GrilleHotel"
def TX11 : u_T := fun k => match k with
  | 0 => ("GrilleHotel", "tape", "LGrilleHotel$Tape;", true)
  | 1 => ("GrilleHotel", "shaft", "LGrilleHotel$Shaft;", true)
  | 2 => ("GrilleHotel", "kept", "LGrilleHotel$Shaft;", true)
  | 3 => ("GrilleHotel", "trial", "LGrilleHotel$Shaft;", true)
  | 4 => ("GrilleHotel", "air", "LGrilleHotel$Air;", true)
  | 5 => ("GrilleHotel", "lawReader", "LGrilleHotel$LawReader;", true)
  | 6 => ("GrilleHotel", "registerReader", "LGrilleHotel$RegisterReader;", true)
  | 7 => ("GrilleHotel", "climb", "LGrilleHotel$Climb;", true)
  | 8 => ("GrilleHotel", "rope", "LGrilleHotel$Rope;", true)
  | 9 => ("GrilleHotel", "beds", "LGrilleHotel$Beds;", true)
  | 10 => ("GrilleHotel", "laundry", "LGrilleHotel$Laundry;", true)
  | 11 => ("GrilleHotel", "lawInForce", "LGrilleHotel$Law;", false)
  | 12 => ("GrilleHotel", "lawInDraft", "LGrilleHotel$Law;", false)
  | _ => ("GrilleHotel", "isKept", "Z", false)
def tyX11 : Nat → FieldType := fun k => match k with
  | 0 => .object "GrilleHotel$Tape"
  | 1 => .object "GrilleHotel$Shaft"
  | 2 => .object "GrilleHotel$Shaft"
  | 3 => .object "GrilleHotel$Shaft"
  | 4 => .object "GrilleHotel$Air"
  | 5 => .object "GrilleHotel$LawReader"
  | 6 => .object "GrilleHotel$RegisterReader"
  | 7 => .object "GrilleHotel$Climb"
  | 8 => .object "GrilleHotel$Rope"
  | 9 => .object "GrilleHotel$Beds"
  | 10 => .object "GrilleHotel$Laundry"
  | 11 => .object "GrilleHotel$Law"
  | 12 => .object "GrilleHotel$Law"
  | _ => .boolean
theorem nmX11 : ∀ a, a < 14 → ∀ b, b < 14 → a ≠ b → (TX11 a).2.1 ≠ (TX11 b).2.1 := by decide +kernel
theorem tyX11_ok : ∀ k, k < 14 → parseFieldDescriptor (TX11 k).2.2.1 = some (tyX11 k) := by decide +kernel
abbrev cX11_init : ByteArray := prog_1_method_1_code
def yX11_init : MethodName := ⟨RX11, "<init>", "()V"⟩
abbrev cX11_guest : ByteArray := prog_1_method_2_code
def yX11_guest : MethodName := ⟨RX11, "guest", "(II)Z"⟩
abbrev cX11_grille : ByteArray := prog_1_method_3_code
def yX11_grille : MethodName := ⟨RX11, "grille", "(IZ)Z"⟩
abbrev cX11_louvre : ByteArray := prog_1_method_4_code
def yX11_louvre : MethodName := ⟨RX11, "louvre", "(II)Z"⟩
abbrev cX11_feed : ByteArray := prog_1_method_5_code
def yX11_feed : MethodName := ⟨RX11, "feed", "(IIIII)I"⟩
abbrev cX11_law : ByteArray := prog_1_method_6_code
def yX11_law : MethodName := ⟨RX11, "law", "(I)I"⟩
abbrev cX11_register : ByteArray := prog_1_method_7_code
def yX11_register : MethodName := ⟨RX11, "register", "(I)I"⟩
abbrev cX11_hours : ByteArray := prog_1_method_8_code
def yX11_hours : MethodName := ⟨RX11, "hours", "(I)I"⟩
abbrev cX11_tried : ByteArray := prog_1_method_9_code
def yX11_tried : MethodName := ⟨RX11, "tried", "(II)I"⟩
abbrev cX11_roomIs : ByteArray := prog_1_method_10_code
def yX11_roomIs : MethodName := ⟨RX11, "roomIs", "(II)I"⟩
abbrev cX11_feels : ByteArray := prog_1_method_11_code
def yX11_feels : MethodName := ⟨RX11, "feels", "(II)I"⟩
abbrev cX11_way : ByteArray := prog_1_method_12_code
def yX11_way : MethodName := ⟨RX11, "way", "(II)I"⟩
abbrev cX11_odds : ByteArray := prog_1_method_13_code
def yX11_odds : MethodName := ⟨RX11, "odds", "(IIII)I"⟩
abbrev cX11_fromWhere : ByteArray := prog_1_method_14_code
def yX11_fromWhere : MethodName := ⟨RX11, "fromWhere", "(I)I"⟩
abbrev cX11_meet : ByteArray := prog_1_method_15_code
def yX11_meet : MethodName := ⟨RX11, "meet", "(II)I"⟩
abbrev cX11_cowls : ByteArray := prog_1_method_16_code
def yX11_cowls : MethodName := ⟨RX11, "cowls", "()I"⟩
abbrev cX11_turn : ByteArray := prog_1_method_17_code
def yX11_turn : MethodName := ⟨RX11, "turn", "(III)I"⟩
abbrev cX11_ways : ByteArray := prog_1_method_18_code
def yX11_ways : MethodName := ⟨RX11, "ways", "(II)I"⟩
abbrev cX11_stockings : ByteArray := prog_1_method_19_code
def yX11_stockings : MethodName := ⟨RX11, "stockings", "(II)I"⟩
abbrev cX11_sleep : ByteArray := prog_1_method_20_code
def yX11_sleep : MethodName := ⟨RX11, "sleep", "(III)J"⟩
abbrev cX11_breakfast : ByteArray := prog_1_method_21_code
def yX11_breakfast : MethodName := ⟨RX11, "breakfast", "(I)I"⟩
abbrev cX11_ropes : ByteArray := prog_1_method_22_code
def yX11_ropes : MethodName := ⟨RX11, "ropes", "(III)I"⟩
abbrev cX11_taps : ByteArray := prog_1_method_23_code
def yX11_taps : MethodName := ⟨RX11, "taps", "(II)I"⟩
abbrev cX11_tapped : ByteArray := prog_1_method_24_code
def yX11_tapped : MethodName := ⟨RX11, "tapped", "(I)I"⟩
abbrev cX11_linen : ByteArray := prog_1_method_25_code
def yX11_linen : MethodName := ⟨RX11, "linen", "(III)I"⟩
abbrev cX11_dust : ByteArray := prog_1_method_26_code
def yX11_dust : MethodName := ⟨RX11, "dust", "(I)I"⟩
abbrev cX11_seed : ByteArray := prog_1_method_27_code
def yX11_seed : MethodName := ⟨RX11, "seed", "(I)Z"⟩
abbrev cX11_keep : ByteArray := prog_1_method_28_code
def yX11_keep : MethodName := ⟨RX11, "keep", "()I"⟩
abbrev cX11_undo : ByteArray := prog_1_method_29_code
def yX11_undo : MethodName := ⟨RX11, "undo", "()Z"⟩
abbrev cX11_check : ByteArray := prog_1_method_30_code
def yX11_check : MethodName := ⟨RX11, "check", "(I)I"⟩
abbrev cX11_count : ByteArray := prog_1_method_31_code
def yX11_count : MethodName := ⟨RX11, "count", "(I)I"⟩
abbrev cX11_roomThatFeelsMost : ByteArray := prog_1_method_32_code
def yX11_roomThatFeelsMost : MethodName := ⟨RX11, "roomThatFeelsMost", "()I"⟩
abbrev cX11_roomsThatFeel : ByteArray := prog_1_method_33_code
def yX11_roomsThatFeel : MethodName := ⟨RX11, "roomsThatFeel", "(I)I"⟩
abbrev cX11_guestWhoFeelsLeast : ByteArray := prog_1_method_34_code
def yX11_guestWhoFeelsLeast : MethodName := ⟨RX11, "guestWhoFeelsLeast", "()I"⟩
abbrev cX11_medianFelt : ByteArray := prog_1_method_35_code
def yX11_medianFelt : MethodName := ⟨RX11, "medianFelt", "()I"⟩
abbrev cX11_guestsWhoFeelLessThan : ByteArray := prog_1_method_36_code
def yX11_guestsWhoFeelLessThan : MethodName := ⟨RX11, "guestsWhoFeelLessThan", "(I)I"⟩
abbrev cX11_isWithin : ByteArray := prog_1_method_37_code
def yX11_isWithin : MethodName := ⟨RX11, "isWithin", "(III)Z"⟩
abbrev cX11_isRoom : ByteArray := prog_1_method_38_code
def yX11_isRoom : MethodName := ⟨RX11, "isRoom", "(I)Z"⟩
abbrev cX11_isRise : ByteArray := prog_1_method_39_code
def yX11_isRise : MethodName := ⟨RX11, "isRise", "(II)Z"⟩
abbrev cX11_floorOf : ByteArray := prog_1_method_40_code
def yX11_floorOf : MethodName := ⟨RX11, "floorOf", "(I)I"⟩
abbrev cX11_columnOf : ByteArray := prog_1_method_41_code
def yX11_columnOf : MethodName := ⟨RX11, "columnOf", "(I)I"⟩
abbrev cX11_columnBy : ByteArray := prog_1_method_42_code
def yX11_columnBy : MethodName := ⟨RX11, "columnBy", "(II)I"⟩
abbrev cX11_sumOf : ByteArray := prog_1_method_43_code
def yX11_sumOf : MethodName := ⟨RX11, "sumOf", "([I)I"⟩
abbrev cX11_commonDivisor : ByteArray := prog_1_method_44_code
def yX11_commonDivisor : MethodName := ⟨RX11, "commonDivisor", "(II)I"⟩
abbrev cX11_reduced : ByteArray := prog_1_method_45_code
def yX11_reduced : MethodName := ⟨RX11, "reduced", "(III)I"⟩
def RX12 : String := "GrilleHotelModel"
def TX12 : u_T := fun k => match k with
  | 0 => ("GrilleHotelModel", "now", "[I", true)
  | 1 => ("GrilleHotelModel", "aside", "[I", true)
  | 2 => ("GrilleHotelModel", "kept", "[I", true)
  | 3 => ("GrilleHotelModel", "tape", "[B", true)
  | 4 => ("GrilleHotelModel", "taped", "I", false)
  | 5 => ("GrilleHotelModel", "place0", "I", false)
  | 6 => ("GrilleHotelModel", "length0", "I", false)
  | 7 => ("GrilleHotelModel", "fault", "I", false)
  | 8 => ("GrilleHotelModel", "number0", "I", false)
  | 9 => ("GrilleHotelModel", "open", "I", false)
  | 10 => ("GrilleHotelModel", "codeMany", "I", false)
  | 11 => ("GrilleHotelModel", "waiting", "I", false)
  | 12 => ("GrilleHotelModel", "saidMany", "I", false)
  | 13 => ("GrilleHotelModel", "clauses", "I", false)
  | 14 => ("GrilleHotelModel", "said", "[I", true)
  | 15 => ("GrilleHotelModel", "waitsAt", "[I", true)
  | 16 => ("GrilleHotelModel", "saidLetter", "[I", true)
  | 17 => ("GrilleHotelModel", "saidFrom", "[I", true)
  | 18 => ("GrilleHotelModel", "saidHalf", "[I", true)
  | 19 => ("GrilleHotelModel", "saidTo", "[I", true)
  | 20 => ("GrilleHotelModel", "codes", "[I", true)
  | 21 => ("GrilleHotelModel", "clauseOf", "[I", true)
  | 22 => ("GrilleHotelModel", "codeFrom", "[I", true)
  | 23 => ("GrilleHotelModel", "codeHalf", "[I", true)
  | 24 => ("GrilleHotelModel", "codeTo", "[I", true)
  | 25 => ("GrilleHotelModel", "stack", "[I", true)
  | 26 => ("GrilleHotelModel", "facts", "[I", true)
  | 27 => ("GrilleHotelModel", "lines", "I", false)
  | 28 => ("GrilleHotelModel", "cameOut", "I", false)
  | 29 => ("GrilleHotelModel", "settled", "I", false)
  | 30 => ("GrilleHotelModel", "wentOut", "I", false)
  | 31 => ("GrilleHotelModel", "fewestFrom", "[I", true)
  | 32 => ("GrilleHotelModel", "waysFrom", "[I", true)
  | 33 => ("GrilleHotelModel", "bestIf", "[J", true)
  | 34 => ("GrilleHotelModel", "bestIfNot", "[J", true)
  | 35 => ("GrilleHotelModel", "whoNow", "[I", true)
  | 36 => ("GrilleHotelModel", "whoBest", "[I", true)
  | 37 => ("GrilleHotelModel", "bedOf", "[I", true)
  | 38 => ("GrilleHotelModel", "ropeTo", "[I", true)
  | 39 => ("GrilleHotelModel", "lettersNow", "[I", true)
  | 40 => ("GrilleHotelModel", "tapsMany", "I", false)
  | _ => ("GrilleHotelModel", "isKept", "Z", false)
def tyX12 : Nat → FieldType := fun k => match k with
  | 0 => .array .int
  | 1 => .array .int
  | 2 => .array .int
  | 3 => .array .byte
  | 4 => .int
  | 5 => .int
  | 6 => .int
  | 7 => .int
  | 8 => .int
  | 9 => .int
  | 10 => .int
  | 11 => .int
  | 12 => .int
  | 13 => .int
  | 14 => .array .int
  | 15 => .array .int
  | 16 => .array .int
  | 17 => .array .int
  | 18 => .array .int
  | 19 => .array .int
  | 20 => .array .int
  | 21 => .array .int
  | 22 => .array .int
  | 23 => .array .int
  | 24 => .array .int
  | 25 => .array .int
  | 26 => .array .int
  | 27 => .int
  | 28 => .int
  | 29 => .int
  | 30 => .int
  | 31 => .array .int
  | 32 => .array .int
  | 33 => .array .long
  | 34 => .array .long
  | 35 => .array .int
  | 36 => .array .int
  | 37 => .array .int
  | 38 => .array .int
  | 39 => .array .int
  | 40 => .int
  | _ => .boolean
theorem nmX12 : ∀ a, a < 42 → ∀ b, b < 42 → a ≠ b → (TX12 a).2.1 ≠ (TX12 b).2.1 := by decide +kernel
theorem tyX12_ok : ∀ k, k < 42 → parseFieldDescriptor (TX12 k).2.2.1 = some (tyX12 k) := by decide +kernel
abbrev cX12_init : ByteArray := prog_14_method_1_code
def yX12_init : MethodName := ⟨RX12, "<init>", "()V"⟩
abbrev cX12_in : ByteArray := prog_14_method_2_code
def yX12_in : MethodName := ⟨RX12, "in", "(III)Z"⟩
abbrev cX12_min : ByteArray := prog_14_method_3_code
def yX12_min : MethodName := ⟨RX12, "min", "(II)I"⟩
abbrev cX12_max : ByteArray := prog_14_method_4_code
def yX12_max : MethodName := ⟨RX12, "max", "(II)I"⟩
abbrev cX12_has : ByteArray := prog_14_method_5_code
def yX12_has : MethodName := ⟨RX12, "has", "(II)Z"⟩
abbrev cX12_bits : ByteArray := prog_14_method_6_code
def yX12_bits : MethodName := ⟨RX12, "bits", "(I)I"⟩
abbrev cX12_copies : ByteArray := prog_14_method_7_code
def yX12_copies : MethodName := ⟨RX12, "copies", "([I[I)V"⟩
abbrev cX12_isRoom : ByteArray := prog_14_method_8_code
def yX12_isRoom : MethodName := ⟨RX12, "isRoom", "(I)Z"⟩
abbrev cX12_felt : ByteArray := prog_14_method_9_code
def yX12_felt : MethodName := ⟨RX12, "felt", "(II)I"⟩
abbrev cX12_feltIn : ByteArray := prog_14_method_10_code
def yX12_feltIn : MethodName := ⟨RX12, "feltIn", "(I)I"⟩
abbrev cX12_takesIn : ByteArray := prog_14_method_11_code
def yX12_takesIn : MethodName := ⟨RX12, "takesIn", "(I)Z"⟩
abbrev cX12_turned : ByteArray := prog_14_method_12_code
def yX12_turned : MethodName := ⟨RX12, "turned", "(II)I"⟩
abbrev cX12_above : ByteArray := prog_14_method_13_code
def yX12_above : MethodName := ⟨RX12, "above", "(I)I"⟩
abbrev cX12_laysGuest : ByteArray := prog_14_method_14_code
def yX12_laysGuest : MethodName := ⟨RX12, "laysGuest", "(III)V"⟩
abbrev cX12_guest : ByteArray := prog_14_method_15_code
def yX12_guest : MethodName := ⟨RX12, "guest", "(II)Z"⟩
abbrev cX12_grille : ByteArray := prog_14_method_16_code
def yX12_grille : MethodName := ⟨RX12, "grille", "(IZ)Z"⟩
abbrev cX12_louvre : ByteArray := prog_14_method_17_code
def yX12_louvre : MethodName := ⟨RX12, "louvre", "(II)Z"⟩
abbrev cX12_types : ByteArray := prog_14_method_18_code
def yX12_types : MethodName := ⟨RX12, "types", "(I)V"⟩
abbrev cX12_feed : ByteArray := prog_14_method_19_code
def yX12_feed : MethodName := ⟨RX12, "feed", "(IIIII)I"⟩
abbrev cX12_octet : ByteArray := prog_14_method_20_code
def yX12_octet : MethodName := ⟨RX12, "octet", "(I)I"⟩
abbrev cX12_here : ByteArray := prog_14_method_21_code
def yX12_here : MethodName := ⟨RX12, "here", "()I"⟩
abbrev cX12_isDigit : ByteArray := prog_14_method_22_code
def yX12_isDigit : MethodName := ⟨RX12, "isDigit", "()Z"⟩
abbrev cX12_wrongAt : ByteArray := prog_14_method_23_code
def yX12_wrongAt : MethodName := ⟨RX12, "wrongAt", "(II)Z"⟩
abbrev cX12_takes : ByteArray := prog_14_method_24_code
def yX12_takes : MethodName := ⟨RX12, "takes", "(I)Z"⟩
abbrev cX12_readsNumber : ByteArray := prog_14_method_25_code
def yX12_readsNumber : MethodName := ⟨RX12, "readsNumber", "()Z"⟩
abbrev cX12_notes : ByteArray := prog_14_method_26_code
def yX12_notes : MethodName := ⟨RX12, "notes", "(II)V"⟩
abbrev cX12_opens : ByteArray := prog_14_method_27_code
def yX12_opens : MethodName := ⟨RX12, "opens", "(I)Z"⟩
abbrev cX12_waitTop : ByteArray := prog_14_method_28_code
def yX12_waitTop : MethodName := ⟨RX12, "waitTop", "()I"⟩
abbrev cX12_factOf : ByteArray := prog_14_method_29_code
def yX12_factOf : MethodName := ⟨RX12, "factOf", "(I)I"⟩
abbrev cX12_sumSign : ByteArray := prog_14_method_30_code
def yX12_sumSign : MethodName := ⟨RX12, "sumSign", "(I)I"⟩
abbrev cX12_closesSums : ByteArray := prog_14_method_31_code
def yX12_closesSums : MethodName := ⟨RX12, "closesSums", "(Z)V"⟩
abbrev cX12_readsFactor : ByteArray := prog_14_method_32_code
def yX12_readsFactor : MethodName := ⟨RX12, "readsFactor", "()Z"⟩
abbrev cX12_hasOpenSum : ByteArray := prog_14_method_33_code
def yX12_hasOpenSum : MethodName := ⟨RX12, "hasOpenSum", "(I)Z"⟩
abbrev cX12_readsSum : ByteArray := prog_14_method_34_code
def yX12_readsSum : MethodName := ⟨RX12, "readsSum", "()Z"⟩
abbrev cX12_endsPiece : ByteArray := prog_14_method_35_code
def yX12_endsPiece : MethodName := ⟨RX12, "endsPiece", "()V"⟩
abbrev cX12_lands : ByteArray := prog_14_method_36_code
def yX12_lands : MethodName := ⟨RX12, "lands", "(Z)V"⟩
abbrev cX12_jumps : ByteArray := prog_14_method_37_code
def yX12_jumps : MethodName := ⟨RX12, "jumps", "(I)V"⟩
abbrev cX12_readsCompared : ByteArray := prog_14_method_38_code
def yX12_readsCompared : MethodName := ⟨RX12, "readsCompared", "()Z"⟩
abbrev cX12_readsCondition : ByteArray := prog_14_method_39_code
def yX12_readsCondition : MethodName := ⟨RX12, "readsCondition", "()Z"⟩
abbrev cX12_readsRule : ByteArray := prog_14_method_40_code
def yX12_readsRule : MethodName := ⟨RX12, "readsRule", "()Z"⟩
abbrev cX12_beginsText : ByteArray := prog_14_method_41_code
def yX12_beginsText : MethodName := ⟨RX12, "beginsText", "(I)V"⟩
abbrev cX12_law : ByteArray := prog_14_method_42_code
def yX12_law : MethodName := ⟨RX12, "law", "(I)I"⟩
abbrev cX12_reckon : ByteArray := prog_14_method_43_code
def yX12_reckon : MethodName := ⟨RX12, "reckon", "(III)I"⟩
abbrev cX12_comesTo : ByteArray := prog_14_method_44_code
def yX12_comesTo : MethodName := ⟨RX12, "comesTo", "(II)I"⟩
abbrev cX12_byLaw : ByteArray := prog_14_method_45_code
def yX12_byLaw : MethodName := ⟨RX12, "byLaw", "(II)I"⟩
abbrev cX12_holdsAny : ByteArray := prog_14_method_46_code
def yX12_holdsAny : MethodName := ⟨RX12, "holdsAny", "(I)Z"⟩
abbrev cX12_asks : ByteArray := prog_14_method_47_code
def yX12_asks : MethodName := ⟨RX12, "asks", "(III)V"⟩
abbrev cX12_readsAmount : ByteArray := prog_14_method_48_code
def yX12_readsAmount : MethodName := ⟨RX12, "readsAmount", "(I)Z"⟩
abbrev cX12_readsRoom : ByteArray := prog_14_method_49_code
def yX12_readsRoom : MethodName := ⟨RX12, "readsRoom", "()Z"⟩
abbrev cX12_swaps : ByteArray := prog_14_method_50_code
def yX12_swaps : MethodName := ⟨RX12, "swaps", "(II)V"⟩
abbrev cX12_changes : ByteArray := prog_14_method_51_code
def yX12_changes : MethodName := ⟨RX12, "changes", "(II)V"⟩
abbrev cX12_readsMove : ByteArray := prog_14_method_52_code
def yX12_readsMove : MethodName := ⟨RX12, "readsMove", "(I)Z"⟩
abbrev cX12_readsLine : ByteArray := prog_14_method_53_code
def yX12_readsLine : MethodName := ⟨RX12, "readsLine", "()Z"⟩
abbrev cX12_register : ByteArray := prog_14_method_54_code
def yX12_register : MethodName := ⟨RX12, "register", "(I)I"⟩
abbrev cX12_rises : ByteArray := prog_14_method_55_code
def yX12_rises : MethodName := ⟨RX12, "rises", "(II)V"⟩
abbrev cX12_hourGoes : ByteArray := prog_14_method_56_code
def yX12_hourGoes : MethodName := ⟨RX12, "hourGoes", "()V"⟩
abbrev cX12_hoursGo : ByteArray := prog_14_method_57_code
def yX12_hoursGo : MethodName := ⟨RX12, "hoursGo", "(I)V"⟩
abbrev cX12_hours : ByteArray := prog_14_method_58_code
def yX12_hours : MethodName := ⟨RX12, "hours", "(I)I"⟩
abbrev cX12_sumOf : ByteArray := prog_14_method_59_code
def yX12_sumOf : MethodName := ⟨RX12, "sumOf", "(I)I"⟩
abbrev cX12_tried : ByteArray := prog_14_method_60_code
def yX12_tried : MethodName := ⟨RX12, "tried", "(II)I"⟩
abbrev cX12_feltMost : ByteArray := prog_14_method_61_code
def yX12_feltMost : MethodName := ⟨RX12, "feltMost", "(I)I"⟩
abbrev cX12_roomIs : ByteArray := prog_14_method_62_code
def yX12_roomIs : MethodName := ⟨RX12, "roomIs", "(II)I"⟩
abbrev cX12_feels : ByteArray := prog_14_method_63_code
def yX12_feels : MethodName := ⟨RX12, "feels", "(II)I"⟩
abbrev cX12_way : ByteArray := prog_14_method_64_code
def yX12_way : MethodName := ⟨RX12, "way", "(II)I"⟩
abbrev cX12_gcd : ByteArray := prog_14_method_65_code
def yX12_gcd : MethodName := ⟨RX12, "gcd", "(II)I"⟩
abbrev cX12_odds : ByteArray := prog_14_method_66_code
def yX12_odds : MethodName := ⟨RX12, "odds", "(IIII)I"⟩
abbrev cX12_passes : ByteArray := prog_14_method_67_code
def yX12_passes : MethodName := ⟨RX12, "passes", "(II)Z"⟩
abbrev cX12_fromWhere : ByteArray := prog_14_method_68_code
def yX12_fromWhere : MethodName := ⟨RX12, "fromWhere", "(I)I"⟩
abbrev cX12_meet : ByteArray := prog_14_method_69_code
def yX12_meet : MethodName := ⟨RX12, "meet", "(II)I"⟩
abbrev cX12_cowls : ByteArray := prog_14_method_70_code
def yX12_cowls : MethodName := ⟨RX12, "cowls", "()I"⟩
abbrev cX12_leads : ByteArray := prog_14_method_71_code
def yX12_leads : MethodName := ⟨RX12, "leads", "(III)Z"⟩
abbrev cX12_costOf : ByteArray := prog_14_method_72_code
def yX12_costOf : MethodName := ⟨RX12, "costOf", "(II)I"⟩
abbrev cX12_laysFewest : ByteArray := prog_14_method_73_code
def yX12_laysFewest : MethodName := ⟨RX12, "laysFewest", "(I)V"⟩
abbrev cX12_turn : ByteArray := prog_14_method_74_code
def yX12_turn : MethodName := ⟨RX12, "turn", "(III)I"⟩
abbrev cX12_ways : ByteArray := prog_14_method_75_code
def yX12_ways : MethodName := ⟨RX12, "ways", "(II)I"⟩
abbrev cX12_belowOf : ByteArray := prog_14_method_76_code
def yX12_belowOf : MethodName := ⟨RX12, "belowOf", "(IZ)J"⟩
abbrev cX12_bestOf : ByteArray := prog_14_method_77_code
def yX12_bestOf : MethodName := ⟨RX12, "bestOf", "(IZZ)J"⟩
abbrev cX12_stockings : ByteArray := prog_14_method_78_code
def yX12_stockings : MethodName := ⟨RX12, "stockings", "(II)I"⟩
abbrev cX12_changesWho : ByteArray := prog_14_method_79_code
def yX12_changesWho : MethodName := ⟨RX12, "changesWho", "(II)V"⟩
abbrev cX12_nextWho : ByteArray := prog_14_method_80_code
def yX12_nextWho : MethodName := ⟨RX12, "nextWho", "(I)Z"⟩
abbrev cX12_sleep : ByteArray := prog_14_method_81_code
def yX12_sleep : MethodName := ⟨RX12, "sleep", "(III)J"⟩
abbrev cX12_breakfast : ByteArray := prog_14_method_82_code
def yX12_breakfast : MethodName := ⟨RX12, "breakfast", "(I)I"⟩
abbrev cX12_lowers : ByteArray := prog_14_method_83_code
def yX12_lowers : MethodName := ⟨RX12, "lowers", "(IIII)Z"⟩
abbrev cX12_lowersAll : ByteArray := prog_14_method_84_code
def yX12_lowersAll : MethodName := ⟨RX12, "lowersAll", "(I)Z"⟩
abbrev cX12_ropes : ByteArray := prog_14_method_85_code
def yX12_ropes : MethodName := ⟨RX12, "ropes", "(III)I"⟩
abbrev cX12_readsTaps : ByteArray := prog_14_method_86_code
def yX12_readsTaps : MethodName := ⟨RX12, "readsTaps", "()Z"⟩
abbrev cX12_readsLetter : ByteArray := prog_14_method_87_code
def yX12_readsLetter : MethodName := ⟨RX12, "readsLetter", "()Z"⟩
abbrev cX12_readsPause : ByteArray := prog_14_method_88_code
def yX12_readsPause : MethodName := ⟨RX12, "readsPause", "()Z"⟩
abbrev cX12_taps : ByteArray := prog_14_method_89_code
def yX12_taps : MethodName := ⟨RX12, "taps", "(II)I"⟩
abbrev cX12_tapped : ByteArray := prog_14_method_90_code
def yX12_tapped : MethodName := ⟨RX12, "tapped", "(I)I"⟩
abbrev cX12_roundOf : ByteArray := prog_14_method_91_code
def yX12_roundOf : MethodName := ⟨RX12, "roundOf", "(I)I"⟩
abbrev cX12_isOnceEach : ByteArray := prog_14_method_92_code
def yX12_isOnceEach : MethodName := ⟨RX12, "isOnceEach", "(I)Z"⟩
abbrev cX12_linen : ByteArray := prog_14_method_93_code
def yX12_linen : MethodName := ⟨RX12, "linen", "(III)I"⟩
abbrev cX12_placeOf : ByteArray := prog_14_method_94_code
def yX12_placeOf : MethodName := ⟨RX12, "placeOf", "(I)I"⟩
abbrev cX12_dust : ByteArray := prog_14_method_95_code
def yX12_dust : MethodName := ⟨RX12, "dust", "(I)I"⟩
abbrev cX12_seed : ByteArray := prog_14_method_96_code
def yX12_seed : MethodName := ⟨RX12, "seed", "(I)Z"⟩
abbrev cX12_keep : ByteArray := prog_14_method_97_code
def yX12_keep : MethodName := ⟨RX12, "keep", "()I"⟩
abbrev cX12_undo : ByteArray := prog_14_method_98_code
def yX12_undo : MethodName := ⟨RX12, "undo", "()Z"⟩
abbrev cX12_check : ByteArray := prog_14_method_99_code
def yX12_check : MethodName := ⟨RX12, "check", "(I)I"⟩
abbrev cX12_setOf : ByteArray := prog_14_method_100_code
def yX12_setOf : MethodName := ⟨RX12, "setOf", "(I)I"⟩
abbrev cX12_count : ByteArray := prog_14_method_101_code
def yX12_count : MethodName := ⟨RX12, "count", "(I)I"⟩
def RJ6 : String := "java/lang/Integer"
abbrev cJ6_bitCount_0f7a4 : ByteArray := prog_15_method_49_code
def yJ6_bitCount_0f7a4 : MethodName := ⟨RJ6, "bitCount", "(I)I"⟩
def RJ9 : String := "java/lang/Math"
abbrev cJ9_max_7cf53 : ByteArray := prog_16_method_65_code
def yJ9_max_7cf53 : MethodName := ⟨RJ9, "max", "(II)I"⟩
abbrev cJ9_min_7cf53 : ByteArray := prog_16_method_69_code
def yJ9_min_7cf53 : MethodName := ⟨RJ9, "min", "(II)I"⟩
def RJ10 : String := "java/lang/System"
def RJ7 : String := "java/util/Arrays"
abbrev cJ7_fill_53178 : ByteArray := prog_18_method_103_code
def yJ7_fill_53178 : MethodName := ⟨RJ7, "fill", "([II)V"⟩
def RL : String := "GrilleHotelLaw"
abbrev cL_law : ByteArray := code
def yL_law : MethodName := ⟨RL, "law", "([I)Z"⟩
abbrev vwCl : List vw_C := [(RX0, TX0, 5), (RX1, TX1, 6), (RX2, TX2, 2), (RX3, TX3, 2), (RX4, TX4, 16), (RX5, TX5, 2), (RX6, TX6, 2), (RX7, TX7, 3), (RX8, TX8, 10), (RX10, TX10, 5), (RX11, TX11, 14), (RX12, TX12, 42)]
