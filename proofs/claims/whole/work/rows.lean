section
-- ===== PART A: goes FIRST, ahead of the names: the tables' words, and 'selects' of the private methods out of them =====
/-- a private method of a class that the tables say can be made, by its rows of tables_1 -/
def lw_okq (q : MethodName × Nat) : Prop := (q.1.cls ≠ "java/lang/invoke/MethodHandle" ∧ q.1.cls ≠ "java/lang/invoke/VarHandle") ∧ Cond.instantiable q.1.cls q.2 ∈ tables_1 ∧ Cond.privateMethod q.1 ∈ tables_1 ∧ Cond.instanceMethod q.1 ∈ tables_1
theorem lw_p0 : lw_okq (⟨"GrilleHotel$Shaft", "forget", "(I)V"⟩, 10) := ⟨⟨by decide +kernel, by decide +kernel⟩, List.mem_of_getElem? (i := 55) (by decide +kernel), List.mem_of_getElem? (i := 350) (by decide +kernel), List.mem_of_getElem? (i := 351) (by decide +kernel)⟩
theorem lw_p1 : lw_okq (⟨"GrilleHotel$LawReader", "readRule", "()V"⟩, 2) := ⟨⟨by decide +kernel, by decide +kernel⟩, List.mem_of_getElem? (i := 197) (by decide +kernel), List.mem_of_getElem? (i := 405) (by decide +kernel), List.mem_of_getElem? (i := 406) (by decide +kernel)⟩
theorem lw_p2 : lw_okq (⟨"GrilleHotel$LawReader", "readAmount", "(I)V"⟩, 2) := ⟨⟨by decide +kernel, by decide +kernel⟩, List.mem_of_getElem? (i := 197) (by decide +kernel), List.mem_of_getElem? (i := 421) (by decide +kernel), List.mem_of_getElem? (i := 422) (by decide +kernel)⟩
theorem lw_p3 : lw_okq (⟨"GrilleHotel$LawReader", "readTerm", "(I)V"⟩, 2) := ⟨⟨by decide +kernel, by decide +kernel⟩, List.mem_of_getElem? (i := 197) (by decide +kernel), List.mem_of_getElem? (i := 425) (by decide +kernel), List.mem_of_getElem? (i := 426) (by decide +kernel)⟩
theorem lw_p4 : lw_okq (⟨"GrilleHotel$LawReader", "readFactor", "(I)V"⟩, 2) := ⟨⟨by decide +kernel, by decide +kernel⟩, List.mem_of_getElem? (i := 197) (by decide +kernel), List.mem_of_getElem? (i := 429) (by decide +kernel), List.mem_of_getElem? (i := 430) (by decide +kernel)⟩
theorem lw_p5 : lw_okq (⟨"GrilleHotel$LawReader", "opens", "(I)Z"⟩, 2) := ⟨⟨by decide +kernel, by decide +kernel⟩, List.mem_of_getElem? (i := 197) (by decide +kernel), List.mem_of_getElem? (i := 433) (by decide +kernel), List.mem_of_getElem? (i := 434) (by decide +kernel)⟩
theorem lw_p6 : lw_okq (⟨"GrilleHotel$LawReader", "readCondition", "(I)V"⟩, 2) := ⟨⟨by decide +kernel, by decide +kernel⟩, List.mem_of_getElem? (i := 197) (by decide +kernel), List.mem_of_getElem? (i := 462) (by decide +kernel), List.mem_of_getElem? (i := 463) (by decide +kernel)⟩
theorem lw_p7 : lw_okq (⟨"GrilleHotel$LawReader", "readPart", "(I)V"⟩, 2) := ⟨⟨by decide +kernel, by decide +kernel⟩, List.mem_of_getElem? (i := 197) (by decide +kernel), List.mem_of_getElem? (i := 466) (by decide +kernel), List.mem_of_getElem? (i := 467) (by decide +kernel)⟩
theorem lw_p8 : lw_okq (⟨"GrilleHotel$LawReader", "readTest", "(I)V"⟩, 2) := ⟨⟨by decide +kernel, by decide +kernel⟩, List.mem_of_getElem? (i := 197) (by decide +kernel), List.mem_of_getElem? (i := 470) (by decide +kernel), List.mem_of_getElem? (i := 471) (by decide +kernel)⟩
theorem lw_p9 : lw_okq (⟨"GrilleHotel$RegisterReader", "doLine", "()V"⟩, 2) := ⟨⟨by decide +kernel, by decide +kernel⟩, List.mem_of_getElem? (i := 210) (by decide +kernel), List.mem_of_getElem? (i := 505) (by decide +kernel), List.mem_of_getElem? (i := 506) (by decide +kernel)⟩
theorem lw_p10 : lw_okq (⟨"GrilleHotel$RegisterReader", "readRoom", "()I"⟩, 2) := ⟨⟨by decide +kernel, by decide +kernel⟩, List.mem_of_getElem? (i := 210) (by decide +kernel), List.mem_of_getElem? (i := 509) (by decide +kernel), List.mem_of_getElem? (i := 510) (by decide +kernel)⟩
theorem lw_p11 : lw_okq (⟨"GrilleHotel$RegisterReader", "takeIn", "(I)V"⟩, 2) := ⟨⟨by decide +kernel, by decide +kernel⟩, List.mem_of_getElem? (i := 210) (by decide +kernel), List.mem_of_getElem? (i := 517) (by decide +kernel), List.mem_of_getElem? (i := 518) (by decide +kernel)⟩
theorem lw_p12 : lw_okq (⟨"GrilleHotel$RegisterReader", "sendAway", "(II)V"⟩, 2) := ⟨⟨by decide +kernel, by decide +kernel⟩, List.mem_of_getElem? (i := 210) (by decide +kernel), List.mem_of_getElem? (i := 522) (by decide +kernel), List.mem_of_getElem? (i := 523) (by decide +kernel)⟩
theorem lw_p13 : lw_okq (⟨"GrilleHotel$RegisterReader", "exchange", "(II)V"⟩, 2) := ⟨⟨by decide +kernel, by decide +kernel⟩, List.mem_of_getElem? (i := 210) (by decide +kernel), List.mem_of_getElem? (i := 534) (by decide +kernel), List.mem_of_getElem? (i := 535) (by decide +kernel)⟩
theorem lw_p14 : lw_okq (⟨"GrilleHotel$Air", "sendUp", "(I)V"⟩, 5) := ⟨⟨by decide +kernel, by decide +kernel⟩, List.mem_of_getElem? (i := 172) (by decide +kernel), List.mem_of_getElem? (i := 560) (by decide +kernel), List.mem_of_getElem? (i := 561) (by decide +kernel)⟩
theorem lw_p15 : lw_okq (⟨"GrilleHotel$Law", "run", "(II)V"⟩, 16) := ⟨⟨by decide +kernel, by decide +kernel⟩, List.mem_of_getElem? (i := 114) (by decide +kernel), List.mem_of_getElem? (i := 576) (by decide +kernel), List.mem_of_getElem? (i := 577) (by decide +kernel)⟩
def lw_privs_1 : List (MethodName × Nat) := [(⟨"GrilleHotel$Shaft", "forget", "(I)V"⟩, 10), (⟨"GrilleHotel$LawReader", "readRule", "()V"⟩, 2), (⟨"GrilleHotel$LawReader", "readAmount", "(I)V"⟩, 2), (⟨"GrilleHotel$LawReader", "readTerm", "(I)V"⟩, 2), (⟨"GrilleHotel$LawReader", "readFactor", "(I)V"⟩, 2), (⟨"GrilleHotel$LawReader", "opens", "(I)Z"⟩, 2), (⟨"GrilleHotel$LawReader", "readCondition", "(I)V"⟩, 2), (⟨"GrilleHotel$LawReader", "readPart", "(I)V"⟩, 2), (⟨"GrilleHotel$LawReader", "readTest", "(I)V"⟩, 2), (⟨"GrilleHotel$RegisterReader", "doLine", "()V"⟩, 2), (⟨"GrilleHotel$RegisterReader", "readRoom", "()I"⟩, 2), (⟨"GrilleHotel$RegisterReader", "takeIn", "(I)V"⟩, 2), (⟨"GrilleHotel$RegisterReader", "sendAway", "(II)V"⟩, 2), (⟨"GrilleHotel$RegisterReader", "exchange", "(II)V"⟩, 2), (⟨"GrilleHotel$Air", "sendUp", "(I)V"⟩, 5), (⟨"GrilleHotel$Law", "run", "(II)V"⟩, 16)]
theorem lw_r1 : ∀ q ∈ lw_privs_1, lw_okq q := List.forall_mem_cons.mpr ⟨lw_p0, List.forall_mem_cons.mpr ⟨lw_p1, List.forall_mem_cons.mpr ⟨lw_p2, List.forall_mem_cons.mpr ⟨lw_p3, List.forall_mem_cons.mpr ⟨lw_p4, List.forall_mem_cons.mpr ⟨lw_p5, List.forall_mem_cons.mpr ⟨lw_p6, List.forall_mem_cons.mpr ⟨lw_p7, List.forall_mem_cons.mpr ⟨lw_p8, List.forall_mem_cons.mpr ⟨lw_p9, List.forall_mem_cons.mpr ⟨lw_p10, List.forall_mem_cons.mpr ⟨lw_p11, List.forall_mem_cons.mpr ⟨lw_p12, List.forall_mem_cons.mpr ⟨lw_p13, List.forall_mem_cons.mpr ⟨lw_p14, List.forall_mem_cons.mpr ⟨lw_p15, fun _ h => absurd h List.not_mem_nil⟩⟩⟩⟩⟩⟩⟩⟩⟩⟩⟩⟩⟩⟩⟩⟩
theorem lw_p16 : lw_okq (⟨"GrilleHotel$Law", "compareTwo", "(I)V"⟩, 16) := ⟨⟨by decide +kernel, by decide +kernel⟩, List.mem_of_getElem? (i := 114) (by decide +kernel), List.mem_of_getElem? (i := 580) (by decide +kernel), List.mem_of_getElem? (i := 581) (by decide +kernel)⟩
theorem lw_p17 : lw_okq (⟨"GrilleHotel$Law", "reckonTwo", "(I)V"⟩, 16) := ⟨⟨by decide +kernel, by decide +kernel⟩, List.mem_of_getElem? (i := 114) (by decide +kernel), List.mem_of_getElem? (i := 584) (by decide +kernel), List.mem_of_getElem? (i := 585) (by decide +kernel)⟩
theorem lw_p18 : lw_okq (⟨"GrilleHotel$Law", "letter", "(I)I"⟩, 16) := ⟨⟨by decide +kernel, by decide +kernel⟩, List.mem_of_getElem? (i := 114) (by decide +kernel), List.mem_of_getElem? (i := 588) (by decide +kernel), List.mem_of_getElem? (i := 589) (by decide +kernel)⟩
theorem lw_p19 : lw_okq (⟨"GrilleHotel$Law", "push", "(I)V"⟩, 16) := ⟨⟨by decide +kernel, by decide +kernel⟩, List.mem_of_getElem? (i := 114) (by decide +kernel), List.mem_of_getElem? (i := 592) (by decide +kernel), List.mem_of_getElem? (i := 593) (by decide +kernel)⟩
theorem lw_p20 : lw_okq (⟨"GrilleHotel$Air", "rise", "(II)V"⟩, 5) := ⟨⟨by decide +kernel, by decide +kernel⟩, List.mem_of_getElem? (i := 172) (by decide +kernel), List.mem_of_getElem? (i := 605) (by decide +kernel), List.mem_of_getElem? (i := 606) (by decide +kernel)⟩
theorem lw_p21 : lw_okq (⟨"GrilleHotel$Climb", "fillFewestTurns", "(LGrilleHotel$Shaft;I)V"⟩, 2) := ⟨⟨by decide +kernel, by decide +kernel⟩, List.mem_of_getElem? (i := 223) (by decide +kernel), List.mem_of_getElem? (i := 721) (by decide +kernel), List.mem_of_getElem? (i := 722) (by decide +kernel)⟩
theorem lw_p22 : lw_okq (⟨"GrilleHotel$Climb", "turnsBy", "(LGrilleHotel$Shaft;II)I"⟩, 2) := ⟨⟨by decide +kernel, by decide +kernel⟩, List.mem_of_getElem? (i := 223) (by decide +kernel), List.mem_of_getElem? (i := 736) (by decide +kernel), List.mem_of_getElem? (i := 737) (by decide +kernel)⟩
theorem lw_p23 : lw_okq (⟨"GrilleHotel$Climb", "leastNext", "(LGrilleHotel$Shaft;I)I"⟩, 2) := ⟨⟨by decide +kernel, by decide +kernel⟩, List.mem_of_getElem? (i := 223) (by decide +kernel), List.mem_of_getElem? (i := 741) (by decide +kernel), List.mem_of_getElem? (i := 742) (by decide +kernel)⟩
theorem lw_p24 : lw_okq (⟨"GrilleHotel$Beds", "fill", "(IIJ)V"⟩, 6) := ⟨⟨by decide +kernel, by decide +kernel⟩, List.mem_of_getElem? (i := 252) (by decide +kernel), List.mem_of_getElem? (i := 781) (by decide +kernel), List.mem_of_getElem? (i := 782) (by decide +kernel)⟩
theorem lw_p25 : lw_okq (⟨"GrilleHotel", "roomThatFeelsMost", "()I"⟩, 14) := ⟨⟨by decide +kernel, by decide +kernel⟩, List.mem_of_getElem? (i := 19) (by decide +kernel), List.mem_of_getElem? (i := 790) (by decide +kernel), List.mem_of_getElem? (i := 791) (by decide +kernel)⟩
theorem lw_p26 : lw_okq (⟨"GrilleHotel", "roomsThatFeel", "(I)I"⟩, 14) := ⟨⟨by decide +kernel, by decide +kernel⟩, List.mem_of_getElem? (i := 19) (by decide +kernel), List.mem_of_getElem? (i := 794) (by decide +kernel), List.mem_of_getElem? (i := 795) (by decide +kernel)⟩
theorem lw_p27 : lw_okq (⟨"GrilleHotel$Rope", "goDown", "(LGrilleHotel$Shaft;II)V"⟩, 3) := ⟨⟨by decide +kernel, by decide +kernel⟩, List.mem_of_getElem? (i := 236) (by decide +kernel), List.mem_of_getElem? (i := 810) (by decide +kernel), List.mem_of_getElem? (i := 811) (by decide +kernel)⟩
theorem lw_p28 : lw_okq (⟨"GrilleHotel$Rope", "aside", "(I)I"⟩, 3) := ⟨⟨by decide +kernel, by decide +kernel⟩, List.mem_of_getElem? (i := 236) (by decide +kernel), List.mem_of_getElem? (i := 814) (by decide +kernel), List.mem_of_getElem? (i := 815) (by decide +kernel)⟩
theorem lw_p29 : lw_okq (⟨"GrilleHotel$Rope", "goLeft", "(LGrilleHotel$Shaft;II)V"⟩, 3) := ⟨⟨by decide +kernel, by decide +kernel⟩, List.mem_of_getElem? (i := 236) (by decide +kernel), List.mem_of_getElem? (i := 822) (by decide +kernel), List.mem_of_getElem? (i := 823) (by decide +kernel)⟩
theorem lw_p30 : lw_okq (⟨"GrilleHotel$Rope", "goRight", "(LGrilleHotel$Shaft;II)V"⟩, 3) := ⟨⟨by decide +kernel, by decide +kernel⟩, List.mem_of_getElem? (i := 236) (by decide +kernel), List.mem_of_getElem? (i := 826) (by decide +kernel), List.mem_of_getElem? (i := 827) (by decide +kernel)⟩
theorem lw_p31 : lw_okq (⟨"GrilleHotel$Laundry", "roundOf", "(I)I"⟩, 2) := ⟨⟨by decide +kernel, by decide +kernel⟩, List.mem_of_getElem? (i := 279) (by decide +kernel), List.mem_of_getElem? (i := 878) (by decide +kernel), List.mem_of_getElem? (i := 879) (by decide +kernel)⟩
def lw_privs_2 : List (MethodName × Nat) := [(⟨"GrilleHotel$Law", "compareTwo", "(I)V"⟩, 16), (⟨"GrilleHotel$Law", "reckonTwo", "(I)V"⟩, 16), (⟨"GrilleHotel$Law", "letter", "(I)I"⟩, 16), (⟨"GrilleHotel$Law", "push", "(I)V"⟩, 16), (⟨"GrilleHotel$Air", "rise", "(II)V"⟩, 5), (⟨"GrilleHotel$Climb", "fillFewestTurns", "(LGrilleHotel$Shaft;I)V"⟩, 2), (⟨"GrilleHotel$Climb", "turnsBy", "(LGrilleHotel$Shaft;II)I"⟩, 2), (⟨"GrilleHotel$Climb", "leastNext", "(LGrilleHotel$Shaft;I)I"⟩, 2), (⟨"GrilleHotel$Beds", "fill", "(IIJ)V"⟩, 6), (⟨"GrilleHotel", "roomThatFeelsMost", "()I"⟩, 14), (⟨"GrilleHotel", "roomsThatFeel", "(I)I"⟩, 14), (⟨"GrilleHotel$Rope", "goDown", "(LGrilleHotel$Shaft;II)V"⟩, 3), (⟨"GrilleHotel$Rope", "aside", "(I)I"⟩, 3), (⟨"GrilleHotel$Rope", "goLeft", "(LGrilleHotel$Shaft;II)V"⟩, 3), (⟨"GrilleHotel$Rope", "goRight", "(LGrilleHotel$Shaft;II)V"⟩, 3), (⟨"GrilleHotel$Laundry", "roundOf", "(I)I"⟩, 2)]
theorem lw_r2 : ∀ q ∈ lw_privs_2, lw_okq q := List.forall_mem_cons.mpr ⟨lw_p16, List.forall_mem_cons.mpr ⟨lw_p17, List.forall_mem_cons.mpr ⟨lw_p18, List.forall_mem_cons.mpr ⟨lw_p19, List.forall_mem_cons.mpr ⟨lw_p20, List.forall_mem_cons.mpr ⟨lw_p21, List.forall_mem_cons.mpr ⟨lw_p22, List.forall_mem_cons.mpr ⟨lw_p23, List.forall_mem_cons.mpr ⟨lw_p24, List.forall_mem_cons.mpr ⟨lw_p25, List.forall_mem_cons.mpr ⟨lw_p26, List.forall_mem_cons.mpr ⟨lw_p27, List.forall_mem_cons.mpr ⟨lw_p28, List.forall_mem_cons.mpr ⟨lw_p29, List.forall_mem_cons.mpr ⟨lw_p30, List.forall_mem_cons.mpr ⟨lw_p31, fun _ h => absurd h List.not_mem_nil⟩⟩⟩⟩⟩⟩⟩⟩⟩⟩⟩⟩⟩⟩⟩⟩
theorem lw_p32 : lw_okq (⟨"GrilleHotel$Laundry", "isLowestOfRound", "(I)Z"⟩, 2) := ⟨⟨by decide +kernel, by decide +kernel⟩, List.mem_of_getElem? (i := 279) (by decide +kernel), List.mem_of_getElem? (i := 887) (by decide +kernel), List.mem_of_getElem? (i := 888) (by decide +kernel)⟩
theorem lw_p33 : lw_okq (⟨"GrilleHotel$Laundry", "after", "(II)I"⟩, 2) := ⟨⟨by decide +kernel, by decide +kernel⟩, List.mem_of_getElem? (i := 279) (by decide +kernel), List.mem_of_getElem? (i := 895) (by decide +kernel), List.mem_of_getElem? (i := 896) (by decide +kernel)⟩
theorem lw_p34 : lw_okq (⟨"GrilleHotel", "guestWhoFeelsLeast", "()I"⟩, 14) := ⟨⟨by decide +kernel, by decide +kernel⟩, List.mem_of_getElem? (i := 19) (by decide +kernel), List.mem_of_getElem? (i := 903) (by decide +kernel), List.mem_of_getElem? (i := 904) (by decide +kernel)⟩
theorem lw_p35 : lw_okq (⟨"GrilleHotel", "medianFelt", "()I"⟩, 14) := ⟨⟨by decide +kernel, by decide +kernel⟩, List.mem_of_getElem? (i := 19) (by decide +kernel), List.mem_of_getElem? (i := 907) (by decide +kernel), List.mem_of_getElem? (i := 908) (by decide +kernel)⟩
theorem lw_p36 : lw_okq (⟨"GrilleHotel", "guestsWhoFeelLessThan", "(I)I"⟩, 14) := ⟨⟨by decide +kernel, by decide +kernel⟩, List.mem_of_getElem? (i := 19) (by decide +kernel), List.mem_of_getElem? (i := 911) (by decide +kernel), List.mem_of_getElem? (i := 912) (by decide +kernel)⟩
theorem lw_p37 : lw_okq (⟨"GrilleHotelModel", "laysGuest", "(III)V"⟩, 42) := ⟨⟨by decide +kernel, by decide +kernel⟩, List.mem_of_getElem? (i := 937) (by decide +kernel), List.mem_of_getElem? (i := 1082) (by decide +kernel), List.mem_of_getElem? (i := 1083) (by decide +kernel)⟩
theorem lw_p38 : lw_okq (⟨"GrilleHotelModel", "types", "(I)V"⟩, 42) := ⟨⟨by decide +kernel, by decide +kernel⟩, List.mem_of_getElem? (i := 937) (by decide +kernel), List.mem_of_getElem? (i := 1101) (by decide +kernel), List.mem_of_getElem? (i := 1102) (by decide +kernel)⟩
theorem lw_p39 : lw_okq (⟨"GrilleHotelModel", "beginsText", "(I)V"⟩, 42) := ⟨⟨by decide +kernel, by decide +kernel⟩, List.mem_of_getElem? (i := 937) (by decide +kernel), List.mem_of_getElem? (i := 1109) (by decide +kernel), List.mem_of_getElem? (i := 1110) (by decide +kernel)⟩
theorem lw_p40 : lw_okq (⟨"GrilleHotelModel", "readsRule", "()Z"⟩, 42) := ⟨⟨by decide +kernel, by decide +kernel⟩, List.mem_of_getElem? (i := 937) (by decide +kernel), List.mem_of_getElem? (i := 1113) (by decide +kernel), List.mem_of_getElem? (i := 1114) (by decide +kernel)⟩
theorem lw_p41 : lw_okq (⟨"GrilleHotelModel", "here", "()I"⟩, 42) := ⟨⟨by decide +kernel, by decide +kernel⟩, List.mem_of_getElem? (i := 937) (by decide +kernel), List.mem_of_getElem? (i := 1117) (by decide +kernel), List.mem_of_getElem? (i := 1118) (by decide +kernel)⟩
theorem lw_p42 : lw_okq (⟨"GrilleHotelModel", "wrongAt", "(II)Z"⟩, 42) := ⟨⟨by decide +kernel, by decide +kernel⟩, List.mem_of_getElem? (i := 937) (by decide +kernel), List.mem_of_getElem? (i := 1121) (by decide +kernel), List.mem_of_getElem? (i := 1122) (by decide +kernel)⟩
theorem lw_p43 : lw_okq (⟨"GrilleHotelModel", "readsSum", "()Z"⟩, 42) := ⟨⟨by decide +kernel, by decide +kernel⟩, List.mem_of_getElem? (i := 937) (by decide +kernel), List.mem_of_getElem? (i := 1125) (by decide +kernel), List.mem_of_getElem? (i := 1126) (by decide +kernel)⟩
theorem lw_p44 : lw_okq (⟨"GrilleHotelModel", "readsFactor", "()Z"⟩, 42) := ⟨⟨by decide +kernel, by decide +kernel⟩, List.mem_of_getElem? (i := 937) (by decide +kernel), List.mem_of_getElem? (i := 1129) (by decide +kernel), List.mem_of_getElem? (i := 1130) (by decide +kernel)⟩
theorem lw_p45 : lw_okq (⟨"GrilleHotelModel", "opens", "(I)Z"⟩, 42) := ⟨⟨by decide +kernel, by decide +kernel⟩, List.mem_of_getElem? (i := 937) (by decide +kernel), List.mem_of_getElem? (i := 1133) (by decide +kernel), List.mem_of_getElem? (i := 1134) (by decide +kernel)⟩
theorem lw_p46 : lw_okq (⟨"GrilleHotelModel", "isDigit", "()Z"⟩, 42) := ⟨⟨by decide +kernel, by decide +kernel⟩, List.mem_of_getElem? (i := 937) (by decide +kernel), List.mem_of_getElem? (i := 1138) (by decide +kernel), List.mem_of_getElem? (i := 1139) (by decide +kernel)⟩
theorem lw_p47 : lw_okq (⟨"GrilleHotelModel", "readsNumber", "()Z"⟩, 42) := ⟨⟨by decide +kernel, by decide +kernel⟩, List.mem_of_getElem? (i := 937) (by decide +kernel), List.mem_of_getElem? (i := 1142) (by decide +kernel), List.mem_of_getElem? (i := 1143) (by decide +kernel)⟩
def lw_privs_3 : List (MethodName × Nat) := [(⟨"GrilleHotel$Laundry", "isLowestOfRound", "(I)Z"⟩, 2), (⟨"GrilleHotel$Laundry", "after", "(II)I"⟩, 2), (⟨"GrilleHotel", "guestWhoFeelsLeast", "()I"⟩, 14), (⟨"GrilleHotel", "medianFelt", "()I"⟩, 14), (⟨"GrilleHotel", "guestsWhoFeelLessThan", "(I)I"⟩, 14), (⟨"GrilleHotelModel", "laysGuest", "(III)V"⟩, 42), (⟨"GrilleHotelModel", "types", "(I)V"⟩, 42), (⟨"GrilleHotelModel", "beginsText", "(I)V"⟩, 42), (⟨"GrilleHotelModel", "readsRule", "()Z"⟩, 42), (⟨"GrilleHotelModel", "here", "()I"⟩, 42), (⟨"GrilleHotelModel", "wrongAt", "(II)Z"⟩, 42), (⟨"GrilleHotelModel", "readsSum", "()Z"⟩, 42), (⟨"GrilleHotelModel", "readsFactor", "()Z"⟩, 42), (⟨"GrilleHotelModel", "opens", "(I)Z"⟩, 42), (⟨"GrilleHotelModel", "isDigit", "()Z"⟩, 42), (⟨"GrilleHotelModel", "readsNumber", "()Z"⟩, 42)]
theorem lw_r3 : ∀ q ∈ lw_privs_3, lw_okq q := List.forall_mem_cons.mpr ⟨lw_p32, List.forall_mem_cons.mpr ⟨lw_p33, List.forall_mem_cons.mpr ⟨lw_p34, List.forall_mem_cons.mpr ⟨lw_p35, List.forall_mem_cons.mpr ⟨lw_p36, List.forall_mem_cons.mpr ⟨lw_p37, List.forall_mem_cons.mpr ⟨lw_p38, List.forall_mem_cons.mpr ⟨lw_p39, List.forall_mem_cons.mpr ⟨lw_p40, List.forall_mem_cons.mpr ⟨lw_p41, List.forall_mem_cons.mpr ⟨lw_p42, List.forall_mem_cons.mpr ⟨lw_p43, List.forall_mem_cons.mpr ⟨lw_p44, List.forall_mem_cons.mpr ⟨lw_p45, List.forall_mem_cons.mpr ⟨lw_p46, List.forall_mem_cons.mpr ⟨lw_p47, fun _ h => absurd h List.not_mem_nil⟩⟩⟩⟩⟩⟩⟩⟩⟩⟩⟩⟩⟩⟩⟩⟩
theorem lw_p48 : lw_okq (⟨"GrilleHotelModel", "notes", "(II)V"⟩, 42) := ⟨⟨by decide +kernel, by decide +kernel⟩, List.mem_of_getElem? (i := 937) (by decide +kernel), List.mem_of_getElem? (i := 1146) (by decide +kernel), List.mem_of_getElem? (i := 1147) (by decide +kernel)⟩
theorem lw_p49 : lw_okq (⟨"GrilleHotelModel", "closesSums", "(Z)V"⟩, 42) := ⟨⟨by decide +kernel, by decide +kernel⟩, List.mem_of_getElem? (i := 937) (by decide +kernel), List.mem_of_getElem? (i := 1156) (by decide +kernel), List.mem_of_getElem? (i := 1157) (by decide +kernel)⟩
theorem lw_p50 : lw_okq (⟨"GrilleHotelModel", "waitTop", "()I"⟩, 42) := ⟨⟨by decide +kernel, by decide +kernel⟩, List.mem_of_getElem? (i := 937) (by decide +kernel), List.mem_of_getElem? (i := 1160) (by decide +kernel), List.mem_of_getElem? (i := 1161) (by decide +kernel)⟩
theorem lw_p51 : lw_okq (⟨"GrilleHotelModel", "hasOpenSum", "(I)Z"⟩, 42) := ⟨⟨by decide +kernel, by decide +kernel⟩, List.mem_of_getElem? (i := 937) (by decide +kernel), List.mem_of_getElem? (i := 1164) (by decide +kernel), List.mem_of_getElem? (i := 1165) (by decide +kernel)⟩
theorem lw_p52 : lw_okq (⟨"GrilleHotelModel", "readsCondition", "()Z"⟩, 42) := ⟨⟨by decide +kernel, by decide +kernel⟩, List.mem_of_getElem? (i := 937) (by decide +kernel), List.mem_of_getElem? (i := 1168) (by decide +kernel), List.mem_of_getElem? (i := 1169) (by decide +kernel)⟩
theorem lw_p53 : lw_okq (⟨"GrilleHotelModel", "readsCompared", "()Z"⟩, 42) := ⟨⟨by decide +kernel, by decide +kernel⟩, List.mem_of_getElem? (i := 937) (by decide +kernel), List.mem_of_getElem? (i := 1172) (by decide +kernel), List.mem_of_getElem? (i := 1173) (by decide +kernel)⟩
theorem lw_p54 : lw_okq (⟨"GrilleHotelModel", "endsPiece", "()V"⟩, 42) := ⟨⟨by decide +kernel, by decide +kernel⟩, List.mem_of_getElem? (i := 937) (by decide +kernel), List.mem_of_getElem? (i := 1176) (by decide +kernel), List.mem_of_getElem? (i := 1177) (by decide +kernel)⟩
theorem lw_p55 : lw_okq (⟨"GrilleHotelModel", "lands", "(Z)V"⟩, 42) := ⟨⟨by decide +kernel, by decide +kernel⟩, List.mem_of_getElem? (i := 937) (by decide +kernel), List.mem_of_getElem? (i := 1180) (by decide +kernel), List.mem_of_getElem? (i := 1181) (by decide +kernel)⟩
theorem lw_p56 : lw_okq (⟨"GrilleHotelModel", "jumps", "(I)V"⟩, 42) := ⟨⟨by decide +kernel, by decide +kernel⟩, List.mem_of_getElem? (i := 937) (by decide +kernel), List.mem_of_getElem? (i := 1184) (by decide +kernel), List.mem_of_getElem? (i := 1185) (by decide +kernel)⟩
theorem lw_p57 : lw_okq (⟨"GrilleHotelModel", "takes", "(I)Z"⟩, 42) := ⟨⟨by decide +kernel, by decide +kernel⟩, List.mem_of_getElem? (i := 937) (by decide +kernel), List.mem_of_getElem? (i := 1188) (by decide +kernel), List.mem_of_getElem? (i := 1189) (by decide +kernel)⟩
theorem lw_p58 : lw_okq (⟨"GrilleHotelModel", "readsLine", "()Z"⟩, 42) := ⟨⟨by decide +kernel, by decide +kernel⟩, List.mem_of_getElem? (i := 937) (by decide +kernel), List.mem_of_getElem? (i := 1199) (by decide +kernel), List.mem_of_getElem? (i := 1200) (by decide +kernel)⟩
theorem lw_p59 : lw_okq (⟨"GrilleHotelModel", "readsRoom", "()Z"⟩, 42) := ⟨⟨by decide +kernel, by decide +kernel⟩, List.mem_of_getElem? (i := 937) (by decide +kernel), List.mem_of_getElem? (i := 1203) (by decide +kernel), List.mem_of_getElem? (i := 1204) (by decide +kernel)⟩
theorem lw_p60 : lw_okq (⟨"GrilleHotelModel", "readsAmount", "(I)Z"⟩, 42) := ⟨⟨by decide +kernel, by decide +kernel⟩, List.mem_of_getElem? (i := 937) (by decide +kernel), List.mem_of_getElem? (i := 1207) (by decide +kernel), List.mem_of_getElem? (i := 1208) (by decide +kernel)⟩
theorem lw_p61 : lw_okq (⟨"GrilleHotelModel", "readsMove", "(I)Z"⟩, 42) := ⟨⟨by decide +kernel, by decide +kernel⟩, List.mem_of_getElem? (i := 937) (by decide +kernel), List.mem_of_getElem? (i := 1211) (by decide +kernel), List.mem_of_getElem? (i := 1212) (by decide +kernel)⟩
theorem lw_p62 : lw_okq (⟨"GrilleHotelModel", "changes", "(II)V"⟩, 42) := ⟨⟨by decide +kernel, by decide +kernel⟩, List.mem_of_getElem? (i := 937) (by decide +kernel), List.mem_of_getElem? (i := 1215) (by decide +kernel), List.mem_of_getElem? (i := 1216) (by decide +kernel)⟩
theorem lw_p63 : lw_okq (⟨"GrilleHotelModel", "swaps", "(II)V"⟩, 42) := ⟨⟨by decide +kernel, by decide +kernel⟩, List.mem_of_getElem? (i := 937) (by decide +kernel), List.mem_of_getElem? (i := 1219) (by decide +kernel), List.mem_of_getElem? (i := 1220) (by decide +kernel)⟩
def lw_privs_4 : List (MethodName × Nat) := [(⟨"GrilleHotelModel", "notes", "(II)V"⟩, 42), (⟨"GrilleHotelModel", "closesSums", "(Z)V"⟩, 42), (⟨"GrilleHotelModel", "waitTop", "()I"⟩, 42), (⟨"GrilleHotelModel", "hasOpenSum", "(I)Z"⟩, 42), (⟨"GrilleHotelModel", "readsCondition", "()Z"⟩, 42), (⟨"GrilleHotelModel", "readsCompared", "()Z"⟩, 42), (⟨"GrilleHotelModel", "endsPiece", "()V"⟩, 42), (⟨"GrilleHotelModel", "lands", "(Z)V"⟩, 42), (⟨"GrilleHotelModel", "jumps", "(I)V"⟩, 42), (⟨"GrilleHotelModel", "takes", "(I)Z"⟩, 42), (⟨"GrilleHotelModel", "readsLine", "()Z"⟩, 42), (⟨"GrilleHotelModel", "readsRoom", "()Z"⟩, 42), (⟨"GrilleHotelModel", "readsAmount", "(I)Z"⟩, 42), (⟨"GrilleHotelModel", "readsMove", "(I)Z"⟩, 42), (⟨"GrilleHotelModel", "changes", "(II)V"⟩, 42), (⟨"GrilleHotelModel", "swaps", "(II)V"⟩, 42)]
theorem lw_r4 : ∀ q ∈ lw_privs_4, lw_okq q := List.forall_mem_cons.mpr ⟨lw_p48, List.forall_mem_cons.mpr ⟨lw_p49, List.forall_mem_cons.mpr ⟨lw_p50, List.forall_mem_cons.mpr ⟨lw_p51, List.forall_mem_cons.mpr ⟨lw_p52, List.forall_mem_cons.mpr ⟨lw_p53, List.forall_mem_cons.mpr ⟨lw_p54, List.forall_mem_cons.mpr ⟨lw_p55, List.forall_mem_cons.mpr ⟨lw_p56, List.forall_mem_cons.mpr ⟨lw_p57, List.forall_mem_cons.mpr ⟨lw_p58, List.forall_mem_cons.mpr ⟨lw_p59, List.forall_mem_cons.mpr ⟨lw_p60, List.forall_mem_cons.mpr ⟨lw_p61, List.forall_mem_cons.mpr ⟨lw_p62, List.forall_mem_cons.mpr ⟨lw_p63, fun _ h => absurd h List.not_mem_nil⟩⟩⟩⟩⟩⟩⟩⟩⟩⟩⟩⟩⟩⟩⟩⟩
theorem lw_p64 : lw_okq (⟨"GrilleHotelModel", "hoursGo", "(I)V"⟩, 42) := ⟨⟨by decide +kernel, by decide +kernel⟩, List.mem_of_getElem? (i := 937) (by decide +kernel), List.mem_of_getElem? (i := 1227) (by decide +kernel), List.mem_of_getElem? (i := 1228) (by decide +kernel)⟩
theorem lw_p65 : lw_okq (⟨"GrilleHotelModel", "hourGoes", "()V"⟩, 42) := ⟨⟨by decide +kernel, by decide +kernel⟩, List.mem_of_getElem? (i := 937) (by decide +kernel), List.mem_of_getElem? (i := 1232) (by decide +kernel), List.mem_of_getElem? (i := 1233) (by decide +kernel)⟩
theorem lw_p66 : lw_okq (⟨"GrilleHotelModel", "takesIn", "(I)Z"⟩, 42) := ⟨⟨by decide +kernel, by decide +kernel⟩, List.mem_of_getElem? (i := 937) (by decide +kernel), List.mem_of_getElem? (i := 1236) (by decide +kernel), List.mem_of_getElem? (i := 1237) (by decide +kernel)⟩
theorem lw_p67 : lw_okq (⟨"GrilleHotelModel", "asks", "(III)V"⟩, 42) := ⟨⟨by decide +kernel, by decide +kernel⟩, List.mem_of_getElem? (i := 937) (by decide +kernel), List.mem_of_getElem? (i := 1240) (by decide +kernel), List.mem_of_getElem? (i := 1241) (by decide +kernel)⟩
theorem lw_p68 : lw_okq (⟨"GrilleHotelModel", "feltIn", "(I)I"⟩, 42) := ⟨⟨by decide +kernel, by decide +kernel⟩, List.mem_of_getElem? (i := 937) (by decide +kernel), List.mem_of_getElem? (i := 1244) (by decide +kernel), List.mem_of_getElem? (i := 1245) (by decide +kernel)⟩
theorem lw_p69 : lw_okq (⟨"GrilleHotelModel", "holdsAny", "(I)Z"⟩, 42) := ⟨⟨by decide +kernel, by decide +kernel⟩, List.mem_of_getElem? (i := 937) (by decide +kernel), List.mem_of_getElem? (i := 1248) (by decide +kernel), List.mem_of_getElem? (i := 1249) (by decide +kernel)⟩
theorem lw_p70 : lw_okq (⟨"GrilleHotelModel", "comesTo", "(II)I"⟩, 42) := ⟨⟨by decide +kernel, by decide +kernel⟩, List.mem_of_getElem? (i := 937) (by decide +kernel), List.mem_of_getElem? (i := 1252) (by decide +kernel), List.mem_of_getElem? (i := 1253) (by decide +kernel)⟩
theorem lw_p71 : lw_okq (⟨"GrilleHotelModel", "byLaw", "(II)I"⟩, 42) := ⟨⟨by decide +kernel, by decide +kernel⟩, List.mem_of_getElem? (i := 937) (by decide +kernel), List.mem_of_getElem? (i := 1259) (by decide +kernel), List.mem_of_getElem? (i := 1260) (by decide +kernel)⟩
theorem lw_p72 : lw_okq (⟨"GrilleHotelModel", "rises", "(II)V"⟩, 42) := ⟨⟨by decide +kernel, by decide +kernel⟩, List.mem_of_getElem? (i := 937) (by decide +kernel), List.mem_of_getElem? (i := 1266) (by decide +kernel), List.mem_of_getElem? (i := 1267) (by decide +kernel)⟩
theorem lw_p73 : lw_okq (⟨"GrilleHotelModel", "above", "(I)I"⟩, 42) := ⟨⟨by decide +kernel, by decide +kernel⟩, List.mem_of_getElem? (i := 937) (by decide +kernel), List.mem_of_getElem? (i := 1270) (by decide +kernel), List.mem_of_getElem? (i := 1271) (by decide +kernel)⟩
theorem lw_p74 : lw_okq (⟨"GrilleHotelModel", "sumOf", "(I)I"⟩, 42) := ⟨⟨by decide +kernel, by decide +kernel⟩, List.mem_of_getElem? (i := 937) (by decide +kernel), List.mem_of_getElem? (i := 1286) (by decide +kernel), List.mem_of_getElem? (i := 1287) (by decide +kernel)⟩
theorem lw_p75 : lw_okq (⟨"GrilleHotelModel", "feltMost", "(I)I"⟩, 42) := ⟨⟨by decide +kernel, by decide +kernel⟩, List.mem_of_getElem? (i := 937) (by decide +kernel), List.mem_of_getElem? (i := 1294) (by decide +kernel), List.mem_of_getElem? (i := 1295) (by decide +kernel)⟩
theorem lw_p76 : lw_okq (⟨"GrilleHotelModel", "passes", "(II)Z"⟩, 42) := ⟨⟨by decide +kernel, by decide +kernel⟩, List.mem_of_getElem? (i := 937) (by decide +kernel), List.mem_of_getElem? (i := 1317) (by decide +kernel), List.mem_of_getElem? (i := 1318) (by decide +kernel)⟩
theorem lw_p77 : lw_okq (⟨"GrilleHotelModel", "laysFewest", "(I)V"⟩, 42) := ⟨⟨by decide +kernel, by decide +kernel⟩, List.mem_of_getElem? (i := 937) (by decide +kernel), List.mem_of_getElem? (i := 1337) (by decide +kernel), List.mem_of_getElem? (i := 1338) (by decide +kernel)⟩
theorem lw_p78 : lw_okq (⟨"GrilleHotelModel", "costOf", "(II)I"⟩, 42) := ⟨⟨by decide +kernel, by decide +kernel⟩, List.mem_of_getElem? (i := 937) (by decide +kernel), List.mem_of_getElem? (i := 1342) (by decide +kernel), List.mem_of_getElem? (i := 1343) (by decide +kernel)⟩
theorem lw_p79 : lw_okq (⟨"GrilleHotelModel", "bestOf", "(IZZ)J"⟩, 42) := ⟨⟨by decide +kernel, by decide +kernel⟩, List.mem_of_getElem? (i := 937) (by decide +kernel), List.mem_of_getElem? (i := 1361) (by decide +kernel), List.mem_of_getElem? (i := 1362) (by decide +kernel)⟩
def lw_privs_5 : List (MethodName × Nat) := [(⟨"GrilleHotelModel", "hoursGo", "(I)V"⟩, 42), (⟨"GrilleHotelModel", "hourGoes", "()V"⟩, 42), (⟨"GrilleHotelModel", "takesIn", "(I)Z"⟩, 42), (⟨"GrilleHotelModel", "asks", "(III)V"⟩, 42), (⟨"GrilleHotelModel", "feltIn", "(I)I"⟩, 42), (⟨"GrilleHotelModel", "holdsAny", "(I)Z"⟩, 42), (⟨"GrilleHotelModel", "comesTo", "(II)I"⟩, 42), (⟨"GrilleHotelModel", "byLaw", "(II)I"⟩, 42), (⟨"GrilleHotelModel", "rises", "(II)V"⟩, 42), (⟨"GrilleHotelModel", "above", "(I)I"⟩, 42), (⟨"GrilleHotelModel", "sumOf", "(I)I"⟩, 42), (⟨"GrilleHotelModel", "feltMost", "(I)I"⟩, 42), (⟨"GrilleHotelModel", "passes", "(II)Z"⟩, 42), (⟨"GrilleHotelModel", "laysFewest", "(I)V"⟩, 42), (⟨"GrilleHotelModel", "costOf", "(II)I"⟩, 42), (⟨"GrilleHotelModel", "bestOf", "(IZZ)J"⟩, 42)]
theorem lw_r5 : ∀ q ∈ lw_privs_5, lw_okq q := List.forall_mem_cons.mpr ⟨lw_p64, List.forall_mem_cons.mpr ⟨lw_p65, List.forall_mem_cons.mpr ⟨lw_p66, List.forall_mem_cons.mpr ⟨lw_p67, List.forall_mem_cons.mpr ⟨lw_p68, List.forall_mem_cons.mpr ⟨lw_p69, List.forall_mem_cons.mpr ⟨lw_p70, List.forall_mem_cons.mpr ⟨lw_p71, List.forall_mem_cons.mpr ⟨lw_p72, List.forall_mem_cons.mpr ⟨lw_p73, List.forall_mem_cons.mpr ⟨lw_p74, List.forall_mem_cons.mpr ⟨lw_p75, List.forall_mem_cons.mpr ⟨lw_p76, List.forall_mem_cons.mpr ⟨lw_p77, List.forall_mem_cons.mpr ⟨lw_p78, List.forall_mem_cons.mpr ⟨lw_p79, fun _ h => absurd h List.not_mem_nil⟩⟩⟩⟩⟩⟩⟩⟩⟩⟩⟩⟩⟩⟩⟩⟩
theorem lw_p80 : lw_okq (⟨"GrilleHotelModel", "belowOf", "(IZ)J"⟩, 42) := ⟨⟨by decide +kernel, by decide +kernel⟩, List.mem_of_getElem? (i := 937) (by decide +kernel), List.mem_of_getElem? (i := 1365) (by decide +kernel), List.mem_of_getElem? (i := 1366) (by decide +kernel)⟩
theorem lw_p81 : lw_okq (⟨"GrilleHotelModel", "octet", "(I)I"⟩, 42) := ⟨⟨by decide +kernel, by decide +kernel⟩, List.mem_of_getElem? (i := 937) (by decide +kernel), List.mem_of_getElem? (i := 1375) (by decide +kernel), List.mem_of_getElem? (i := 1376) (by decide +kernel)⟩
theorem lw_p82 : lw_okq (⟨"GrilleHotelModel", "nextWho", "(I)Z"⟩, 42) := ⟨⟨by decide +kernel, by decide +kernel⟩, List.mem_of_getElem? (i := 937) (by decide +kernel), List.mem_of_getElem? (i := 1379) (by decide +kernel), List.mem_of_getElem? (i := 1380) (by decide +kernel)⟩
theorem lw_p83 : lw_okq (⟨"GrilleHotelModel", "changesWho", "(II)V"⟩, 42) := ⟨⟨by decide +kernel, by decide +kernel⟩, List.mem_of_getElem? (i := 937) (by decide +kernel), List.mem_of_getElem? (i := 1383) (by decide +kernel), List.mem_of_getElem? (i := 1384) (by decide +kernel)⟩
theorem lw_p84 : lw_okq (⟨"GrilleHotelModel", "lowersAll", "(I)Z"⟩, 42) := ⟨⟨by decide +kernel, by decide +kernel⟩, List.mem_of_getElem? (i := 937) (by decide +kernel), List.mem_of_getElem? (i := 1395) (by decide +kernel), List.mem_of_getElem? (i := 1396) (by decide +kernel)⟩
theorem lw_p85 : lw_okq (⟨"GrilleHotelModel", "lowers", "(IIII)Z"⟩, 42) := ⟨⟨by decide +kernel, by decide +kernel⟩, List.mem_of_getElem? (i := 937) (by decide +kernel), List.mem_of_getElem? (i := 1399) (by decide +kernel), List.mem_of_getElem? (i := 1400) (by decide +kernel)⟩
theorem lw_p86 : lw_okq (⟨"GrilleHotelModel", "readsLetter", "()Z"⟩, 42) := ⟨⟨by decide +kernel, by decide +kernel⟩, List.mem_of_getElem? (i := 937) (by decide +kernel), List.mem_of_getElem? (i := 1407) (by decide +kernel), List.mem_of_getElem? (i := 1408) (by decide +kernel)⟩
theorem lw_p87 : lw_okq (⟨"GrilleHotelModel", "readsTaps", "()Z"⟩, 42) := ⟨⟨by decide +kernel, by decide +kernel⟩, List.mem_of_getElem? (i := 937) (by decide +kernel), List.mem_of_getElem? (i := 1411) (by decide +kernel), List.mem_of_getElem? (i := 1412) (by decide +kernel)⟩
theorem lw_p88 : lw_okq (⟨"GrilleHotelModel", "readsPause", "()Z"⟩, 42) := ⟨⟨by decide +kernel, by decide +kernel⟩, List.mem_of_getElem? (i := 937) (by decide +kernel), List.mem_of_getElem? (i := 1415) (by decide +kernel), List.mem_of_getElem? (i := 1416) (by decide +kernel)⟩
theorem lw_p89 : lw_okq (⟨"GrilleHotelModel", "isOnceEach", "(I)Z"⟩, 42) := ⟨⟨by decide +kernel, by decide +kernel⟩, List.mem_of_getElem? (i := 937) (by decide +kernel), List.mem_of_getElem? (i := 1427) (by decide +kernel), List.mem_of_getElem? (i := 1428) (by decide +kernel)⟩
theorem lw_p90 : lw_okq (⟨"GrilleHotelModel", "roundOf", "(I)I"⟩, 42) := ⟨⟨by decide +kernel, by decide +kernel⟩, List.mem_of_getElem? (i := 937) (by decide +kernel), List.mem_of_getElem? (i := 1431) (by decide +kernel), List.mem_of_getElem? (i := 1432) (by decide +kernel)⟩
theorem lw_p91 : lw_okq (⟨"GrilleHotelModel", "placeOf", "(I)I"⟩, 42) := ⟨⟨by decide +kernel, by decide +kernel⟩, List.mem_of_getElem? (i := 937) (by decide +kernel), List.mem_of_getElem? (i := 1439) (by decide +kernel), List.mem_of_getElem? (i := 1440) (by decide +kernel)⟩
theorem lw_p92 : lw_okq (⟨"GrilleHotelModel", "setOf", "(I)I"⟩, 42) := ⟨⟨by decide +kernel, by decide +kernel⟩, List.mem_of_getElem? (i := 937) (by decide +kernel), List.mem_of_getElem? (i := 1464) (by decide +kernel), List.mem_of_getElem? (i := 1465) (by decide +kernel)⟩
def lw_privs_6 : List (MethodName × Nat) := [(⟨"GrilleHotelModel", "belowOf", "(IZ)J"⟩, 42), (⟨"GrilleHotelModel", "octet", "(I)I"⟩, 42), (⟨"GrilleHotelModel", "nextWho", "(I)Z"⟩, 42), (⟨"GrilleHotelModel", "changesWho", "(II)V"⟩, 42), (⟨"GrilleHotelModel", "lowersAll", "(I)Z"⟩, 42), (⟨"GrilleHotelModel", "lowers", "(IIII)Z"⟩, 42), (⟨"GrilleHotelModel", "readsLetter", "()Z"⟩, 42), (⟨"GrilleHotelModel", "readsTaps", "()Z"⟩, 42), (⟨"GrilleHotelModel", "readsPause", "()Z"⟩, 42), (⟨"GrilleHotelModel", "isOnceEach", "(I)Z"⟩, 42), (⟨"GrilleHotelModel", "roundOf", "(I)I"⟩, 42), (⟨"GrilleHotelModel", "placeOf", "(I)I"⟩, 42), (⟨"GrilleHotelModel", "setOf", "(I)I"⟩, 42)]
theorem lw_r6 : ∀ q ∈ lw_privs_6, lw_okq q := List.forall_mem_cons.mpr ⟨lw_p80, List.forall_mem_cons.mpr ⟨lw_p81, List.forall_mem_cons.mpr ⟨lw_p82, List.forall_mem_cons.mpr ⟨lw_p83, List.forall_mem_cons.mpr ⟨lw_p84, List.forall_mem_cons.mpr ⟨lw_p85, List.forall_mem_cons.mpr ⟨lw_p86, List.forall_mem_cons.mpr ⟨lw_p87, List.forall_mem_cons.mpr ⟨lw_p88, List.forall_mem_cons.mpr ⟨lw_p89, List.forall_mem_cons.mpr ⟨lw_p90, List.forall_mem_cons.mpr ⟨lw_p91, List.forall_mem_cons.mpr ⟨lw_p92, fun _ h => absurd h List.not_mem_nil⟩⟩⟩⟩⟩⟩⟩⟩⟩⟩⟩⟩⟩
def lw_privs : List (MethodName × Nat) := lw_privs_1 ++ (lw_privs_2 ++ (lw_privs_3 ++ (lw_privs_4 ++ (lw_privs_5 ++ (lw_privs_6)))))
def lw_tbl : List Cond := k2_sels lw_privs ++ tables_1
theorem lw_privs_ok : ∀ q ∈ lw_privs, lw_okq q := by
  show ∀ q ∈ lw_privs_1 ++ (lw_privs_2 ++ (lw_privs_3 ++ (lw_privs_4 ++ (lw_privs_5 ++ (lw_privs_6))))), lw_okq q
  exact List.forall_mem_append.mpr ⟨lw_r1, List.forall_mem_append.mpr ⟨lw_r2, List.forall_mem_append.mpr ⟨lw_r3, List.forall_mem_append.mpr ⟨lw_r4, List.forall_mem_append.mpr ⟨lw_r5, lw_r6⟩⟩⟩⟩⟩
def RX0 : String := "GrilleHotel$Air"
def TX0 : u_T := fun k => match k with
  | 0 => ("GrilleHotel$Air", "shaft", "LGrilleHotel$Shaft;", false)
  | 1 => ("GrilleHotel$Air", "law", "LGrilleHotel$Law;", false)
  | 2 => ("GrilleHotel$Air", "cameOut", "I", false)
  | 3 => ("GrilleHotel$Air", "settled", "I", false)
  | _ => ("GrilleHotel$Air", "wentOut", "I", false)
def tyX0 : Nat → FieldType := fun k => match k with
  | 0 => .object "GrilleHotel$Shaft"
  | 1 => .object "GrilleHotel$Law"
  | 2 => .int
  | 3 => .int
  | _ => .int
theorem nmX0 : ∀ a, a < 5 → ∀ b, b < 5 → a ≠ b → (TX0 a).2.1 ≠ (TX0 b).2.1 := by decide +kernel
theorem tyX0_ok : ∀ k, k < 5 → parseFieldDescriptor (TX0 k).2.2.1 = some (tyX0 k) := by decide +kernel
abbrev cX0_init : ByteArray := prog_2_method_1_code
def yX0_init : MethodName := ⟨RX0, "<init>", "(LGrilleHotel$Shaft;LGrilleHotel$Law;)V"⟩
abbrev cX0_pass : ByteArray := prog_2_method_2_code
def yX0_pass : MethodName := ⟨RX0, "pass", "(LGrilleHotel$Shaft;LGrilleHotel$Law;I)V"⟩
abbrev cX0_sendUp : ByteArray := prog_2_method_3_code
def yX0_sendUp : MethodName := ⟨RX0, "sendUp", "(I)V"⟩
abbrev cX0_rise : ByteArray := prog_2_method_4_code
def yX0_rise : MethodName := ⟨RX0, "rise", "(II)V"⟩
def RX1 : String := "GrilleHotel$Beds"
def TX1 : u_T := fun k => match k with
  | 0 => ("GrilleHotel$Beds", "minds", "[I", true)
  | 1 => ("GrilleHotel$Beds", "felt", "[I", true)
  | 2 => ("GrilleHotel$Beds", "row", "[I", true)
  | 3 => ("GrilleHotel$Beds", "bestRow", "[I", true)
  | 4 => ("GrilleHotel$Beds", "number", "I", false)
  | _ => ("GrilleHotel$Beds", "least", "J", false)
def tyX1 : Nat → FieldType := fun k => match k with
  | 0 => .array .int
  | 1 => .array .int
  | 2 => .array .int
  | 3 => .array .int
  | 4 => .int
  | _ => .long
theorem nmX1 : ∀ a, a < 6 → ∀ b, b < 6 → a ≠ b → (TX1 a).2.1 ≠ (TX1 b).2.1 := by decide +kernel
theorem tyX1_ok : ∀ k, k < 6 → parseFieldDescriptor (TX1 k).2.2.1 = some (tyX1 k) := by decide +kernel
abbrev cX1_init : ByteArray := prog_3_method_1_code
def yX1_init : MethodName := ⟨RX1, "<init>", "()V"⟩
abbrev cX1_share : ByteArray := prog_3_method_2_code
def yX1_share : MethodName := ⟨RX1, "share", "(LGrilleHotel$Tape;ILGrilleHotel$Shaft;I)V"⟩
abbrev cX1_fill : ByteArray := prog_3_method_3_code
def yX1_fill : MethodName := ⟨RX1, "fill", "(IIJ)V"⟩
def RX2 : String := "GrilleHotel$Climb"
def TX2 : u_T := fun k => match k with
  | 0 => ("GrilleHotel$Climb", "toGo", "[I", true)
  | _ => ("GrilleHotel$Climb", "forced", "[I", true)
def tyX2 : Nat → FieldType := fun k => match k with
  | 0 => .array .int
  | _ => .array .int
theorem nmX2 : ∀ a, a < 2 → ∀ b, b < 2 → a ≠ b → (TX2 a).2.1 ≠ (TX2 b).2.1 := by decide +kernel
theorem tyX2_ok : ∀ k, k < 2 → parseFieldDescriptor (TX2 k).2.2.1 = some (tyX2 k) := by decide +kernel
abbrev cX2_init : ByteArray := prog_4_method_1_code
def yX2_init : MethodName := ⟨RX2, "<init>", "()V"⟩
abbrev cX2_turned : ByteArray := prog_4_method_2_code
def yX2_turned : MethodName := ⟨RX2, "turned", "(LGrilleHotel$Shaft;III)I"⟩
abbrev cX2_numberOfRows : ByteArray := prog_4_method_3_code
def yX2_numberOfRows : MethodName := ⟨RX2, "numberOfRows", "(II)I"⟩
abbrev cX2_fewestShut : ByteArray := prog_4_method_4_code
def yX2_fewestShut : MethodName := ⟨RX2, "fewestShut", "(LGrilleHotel$Shaft;I)I"⟩
abbrev cX2_fillFewestTurns : ByteArray := prog_4_method_5_code
def yX2_fillFewestTurns : MethodName := ⟨RX2, "fillFewestTurns", "(LGrilleHotel$Shaft;I)V"⟩
abbrev cX2_turnsBy : ByteArray := prog_4_method_6_code
def yX2_turnsBy : MethodName := ⟨RX2, "turnsBy", "(LGrilleHotel$Shaft;II)I"⟩
abbrev cX2_leastNext : ByteArray := prog_4_method_7_code
def yX2_leastNext : MethodName := ⟨RX2, "leastNext", "(LGrilleHotel$Shaft;I)I"⟩
abbrev cX2_lowestAbove : ByteArray := prog_4_method_8_code
def yX2_lowestAbove : MethodName := ⟨RX2, "lowestAbove", "(I)I"⟩
abbrev cX2_highestAbove : ByteArray := prog_4_method_9_code
def yX2_highestAbove : MethodName := ⟨RX2, "highestAbove", "(I)I"⟩
def RX3 : String := "GrilleHotel$Laundry"
def TX3 : u_T := fun k => match k with
  | 0 => ("GrilleHotel$Laundry", "next", "[I", true)
  | _ => ("GrilleHotel$Laundry", "number", "I", false)
def tyX3 : Nat → FieldType := fun k => match k with
  | 0 => .array .int
  | _ => .int
theorem nmX3 : ∀ a, a < 2 → ∀ b, b < 2 → a ≠ b → (TX3 a).2.1 ≠ (TX3 b).2.1 := by decide +kernel
theorem tyX3_ok : ∀ k, k < 2 → parseFieldDescriptor (TX3 k).2.2.1 = some (tyX3 k) := by decide +kernel
abbrev cX3_init : ByteArray := prog_5_method_1_code
def yX3_init : MethodName := ⟨RX3, "<init>", "()V"⟩
abbrev cX3_learn : ByteArray := prog_5_method_2_code
def yX3_learn : MethodName := ⟨RX3, "learn", "(LGrilleHotel$Tape;I)Z"⟩
abbrev cX3_weeksTillHome : ByteArray := prog_5_method_3_code
def yX3_weeksTillHome : MethodName := ⟨RX3, "weeksTillHome", "()I"⟩
abbrev cX3_rounds : ByteArray := prog_5_method_4_code
def yX3_rounds : MethodName := ⟨RX3, "rounds", "()I"⟩
abbrev cX3_placeOf : ByteArray := prog_5_method_5_code
def yX3_placeOf : MethodName := ⟨RX3, "placeOf", "(II)I"⟩
abbrev cX3_after : ByteArray := prog_5_method_6_code
def yX3_after : MethodName := ⟨RX3, "after", "(II)I"⟩
abbrev cX3_roundOf : ByteArray := prog_5_method_7_code
def yX3_roundOf : MethodName := ⟨RX3, "roundOf", "(I)I"⟩
abbrev cX3_isLowestOfRound : ByteArray := prog_5_method_8_code
def yX3_isLowestOfRound : MethodName := ⟨RX3, "isLowestOfRound", "(I)Z"⟩
def RX4 : String := "GrilleHotel$Law"
def TX4 : u_T := fun k => match k with
  | 0 => ("GrilleHotel$Law", "signs", "[I", true)
  | 1 => ("GrilleHotel$Law", "values", "[I", true)
  | 2 => ("GrilleHotel$Law", "kinds", "[I", true)
  | 3 => ("GrilleHotel$Law", "amounts", "[I", true)
  | 4 => ("GrilleHotel$Law", "tests", "[I", true)
  | 5 => ("GrilleHotel$Law", "ends", "[I", true)
  | 6 => ("GrilleHotel$Law", "size", "I", false)
  | 7 => ("GrilleHotel$Law", "rules", "I", false)
  | 8 => ("GrilleHotel$Law", "stack", "[I", true)
  | 9 => ("GrilleHotel$Law", "top", "I", false)
  | 10 => ("GrilleHotel$Law", "holds", "Z", false)
  | 11 => ("GrilleHotel$Law", "isRefused", "Z", false)
  | 12 => ("GrilleHotel$Law", "shaft", "LGrilleHotel$Shaft;", false)
  | 13 => ("GrilleHotel$Law", "from", "I", false)
  | 14 => ("GrilleHotel$Law", "at", "I", false)
  | _ => ("GrilleHotel$Law", "left", "I", false)
def tyX4 : Nat → FieldType := fun k => match k with
  | 0 => .array .int
  | 1 => .array .int
  | 2 => .array .int
  | 3 => .array .int
  | 4 => .array .int
  | 5 => .array .int
  | 6 => .int
  | 7 => .int
  | 8 => .array .int
  | 9 => .int
  | 10 => .boolean
  | 11 => .boolean
  | 12 => .object "GrilleHotel$Shaft"
  | 13 => .int
  | 14 => .int
  | _ => .int
theorem nmX4 : ∀ a, a < 16 → ∀ b, b < 16 → a ≠ b → (TX4 a).2.1 ≠ (TX4 b).2.1 := by decide +kernel
theorem tyX4_ok : ∀ k, k < 16 → parseFieldDescriptor (TX4 k).2.2.1 = some (tyX4 k) := by decide +kernel
abbrev cX4_init : ByteArray := prog_6_method_1_code
def yX4_init : MethodName := ⟨RX4, "<init>", "(LGrilleHotel$Shaft;)V"⟩
abbrev cX4_clear : ByteArray := prog_6_method_2_code
def yX4_clear : MethodName := ⟨RX4, "clear", "()V"⟩
abbrev cX4_add : ByteArray := prog_6_method_3_code
def yX4_add : MethodName := ⟨RX4, "add", "(II)I"⟩
abbrev cX4_leadToHere : ByteArray := prog_6_method_4_code
def yX4_leadToHere : MethodName := ⟨RX4, "leadToHere", "(I)V"⟩
abbrev cX4_addRule : ByteArray := prog_6_method_5_code
def yX4_addRule : MethodName := ⟨RX4, "addRule", "(III)V"⟩
abbrev cX4_look : ByteArray := prog_6_method_6_code
def yX4_look : MethodName := ⟨RX4, "look", "(LGrilleHotel$Shaft;III)V"⟩
abbrev cX4_isFog : ByteArray := prog_6_method_7_code
def yX4_isFog : MethodName := ⟨RX4, "isFog", "()Z"⟩
abbrev cX4_amountOf : ByteArray := prog_6_method_8_code
def yX4_amountOf : MethodName := ⟨RX4, "amountOf", "(II)I"⟩
abbrev cX4_run : ByteArray := prog_6_method_9_code
def yX4_run : MethodName := ⟨RX4, "run", "(II)V"⟩
abbrev cX4_push : ByteArray := prog_6_method_10_code
def yX4_push : MethodName := ⟨RX4, "push", "(I)V"⟩
abbrev cX4_compareTwo : ByteArray := prog_6_method_11_code
def yX4_compareTwo : MethodName := ⟨RX4, "compareTwo", "(I)V"⟩
abbrev cX4_reckonTwo : ByteArray := prog_6_method_12_code
def yX4_reckonTwo : MethodName := ⟨RX4, "reckonTwo", "(I)V"⟩
abbrev cX4_letter : ByteArray := prog_6_method_13_code
def yX4_letter : MethodName := ⟨RX4, "letter", "(I)I"⟩
def RX5 : String := "GrilleHotel$LawReader"
def TX5 : u_T := fun k => match k with
  | 0 => ("GrilleHotel$LawReader", "tape", "LGrilleHotel$Tape;", true)
  | _ => ("GrilleHotel$LawReader", "law", "LGrilleHotel$Law;", false)
def tyX5 : Nat → FieldType := fun k => match k with
  | 0 => .object "GrilleHotel$Tape"
  | _ => .object "GrilleHotel$Law"
theorem nmX5 : ∀ a, a < 2 → ∀ b, b < 2 → a ≠ b → (TX5 a).2.1 ≠ (TX5 b).2.1 := by decide +kernel
theorem tyX5_ok : ∀ k, k < 2 → parseFieldDescriptor (TX5 k).2.2.1 = some (tyX5 k) := by decide +kernel
abbrev cX5_init : ByteArray := prog_7_method_1_code
def yX5_init : MethodName := ⟨RX5, "<init>", "(LGrilleHotel$Tape;LGrilleHotel$Law;)V"⟩
abbrev cX5_read : ByteArray := prog_7_method_2_code
def yX5_read : MethodName := ⟨RX5, "read", "(LGrilleHotel$Law;)V"⟩
abbrev cX5_readRule : ByteArray := prog_7_method_3_code
def yX5_readRule : MethodName := ⟨RX5, "readRule", "()V"⟩
abbrev cX5_readCondition : ByteArray := prog_7_method_4_code
def yX5_readCondition : MethodName := ⟨RX5, "readCondition", "(I)V"⟩
abbrev cX5_readPart : ByteArray := prog_7_method_5_code
def yX5_readPart : MethodName := ⟨RX5, "readPart", "(I)V"⟩
abbrev cX5_readTest : ByteArray := prog_7_method_6_code
def yX5_readTest : MethodName := ⟨RX5, "readTest", "(I)V"⟩
abbrev cX5_readAmount : ByteArray := prog_7_method_7_code
def yX5_readAmount : MethodName := ⟨RX5, "readAmount", "(I)V"⟩
abbrev cX5_readTerm : ByteArray := prog_7_method_8_code
def yX5_readTerm : MethodName := ⟨RX5, "readTerm", "(I)V"⟩
abbrev cX5_readFactor : ByteArray := prog_7_method_9_code
def yX5_readFactor : MethodName := ⟨RX5, "readFactor", "(I)V"⟩
abbrev cX5_opens : ByteArray := prog_7_method_10_code
def yX5_opens : MethodName := ⟨RX5, "opens", "(I)Z"⟩
abbrev cX5_isTimes : ByteArray := prog_7_method_11_code
def yX5_isTimes : MethodName := ⟨RX5, "isTimes", "(I)Z"⟩
abbrev cX5_isLetter : ByteArray := prog_7_method_12_code
def yX5_isLetter : MethodName := ⟨RX5, "isLetter", "(I)Z"⟩
def RX6 : String := "GrilleHotel$RegisterReader"
def TX6 : u_T := fun k => match k with
  | 0 => ("GrilleHotel$RegisterReader", "tape", "LGrilleHotel$Tape;", true)
  | _ => ("GrilleHotel$RegisterReader", "shaft", "LGrilleHotel$Shaft;", false)
def tyX6 : Nat → FieldType := fun k => match k with
  | 0 => .object "GrilleHotel$Tape"
  | _ => .object "GrilleHotel$Shaft"
theorem nmX6 : ∀ a, a < 2 → ∀ b, b < 2 → a ≠ b → (TX6 a).2.1 ≠ (TX6 b).2.1 := by decide +kernel
theorem tyX6_ok : ∀ k, k < 2 → parseFieldDescriptor (TX6 k).2.2.1 = some (tyX6 k) := by decide +kernel
abbrev cX6_init : ByteArray := prog_8_method_1_code
def yX6_init : MethodName := ⟨RX6, "<init>", "(LGrilleHotel$Tape;LGrilleHotel$Shaft;)V"⟩
abbrev cX6_read : ByteArray := prog_8_method_2_code
def yX6_read : MethodName := ⟨RX6, "read", "(LGrilleHotel$Shaft;)I"⟩
abbrev cX6_doLine : ByteArray := prog_8_method_3_code
def yX6_doLine : MethodName := ⟨RX6, "doLine", "()V"⟩
abbrev cX6_readRoom : ByteArray := prog_8_method_4_code
def yX6_readRoom : MethodName := ⟨RX6, "readRoom", "()I"⟩
abbrev cX6_takeIn : ByteArray := prog_8_method_5_code
def yX6_takeIn : MethodName := ⟨RX6, "takeIn", "(I)V"⟩
abbrev cX6_sendAway : ByteArray := prog_8_method_6_code
def yX6_sendAway : MethodName := ⟨RX6, "sendAway", "(II)V"⟩
abbrev cX6_exchange : ByteArray := prog_8_method_7_code
def yX6_exchange : MethodName := ⟨RX6, "exchange", "(II)V"⟩
def RX7 : String := "GrilleHotel$Rope"
def TX7 : u_T := fun k => match k with
  | 0 => ("GrilleHotel$Rope", "down", "[I", true)
  | 1 => ("GrilleHotel$Rope", "left", "[I", true)
  | _ => ("GrilleHotel$Rope", "right", "[I", true)
def tyX7 : Nat → FieldType := fun k => match k with
  | 0 => .array .int
  | 1 => .array .int
  | _ => .array .int
theorem nmX7 : ∀ a, a < 3 → ∀ b, b < 3 → a ≠ b → (TX7 a).2.1 ≠ (TX7 b).2.1 := by decide +kernel
theorem tyX7_ok : ∀ k, k < 3 → parseFieldDescriptor (TX7 k).2.2.1 = some (tyX7 k) := by decide +kernel
abbrev cX7_init : ByteArray := prog_9_method_1_code
def yX7_init : MethodName := ⟨RX7, "<init>", "()V"⟩
abbrev cX7_let : ByteArray := prog_9_method_2_code
def yX7_let : MethodName := ⟨RX7, "let", "(LGrilleHotel$Shaft;III)I"⟩
abbrev cX7_aside : ByteArray := prog_9_method_3_code
def yX7_aside : MethodName := ⟨RX7, "aside", "(I)I"⟩
abbrev cX7_goDown : ByteArray := prog_9_method_4_code
def yX7_goDown : MethodName := ⟨RX7, "goDown", "(LGrilleHotel$Shaft;II)V"⟩
abbrev cX7_goLeft : ByteArray := prog_9_method_5_code
def yX7_goLeft : MethodName := ⟨RX7, "goLeft", "(LGrilleHotel$Shaft;II)V"⟩
abbrev cX7_goRight : ByteArray := prog_9_method_6_code
def yX7_goRight : MethodName := ⟨RX7, "goRight", "(LGrilleHotel$Shaft;II)V"⟩
abbrev cX7_costAt : ByteArray := prog_9_method_7_code
def yX7_costAt : MethodName := ⟨RX7, "costAt", "(LGrilleHotel$Shaft;IIII)I"⟩
def RX8 : String := "GrilleHotel$Shaft"
def TX8 : u_T := fun k => match k with
  | 0 => ("GrilleHotel$Shaft", "sins", "[I", true)
  | 1 => ("GrilleHotel$Shaft", "louvres", "[I", true)
  | 2 => ("GrilleHotel$Shaft", "grease", "[I", true)
  | 3 => ("GrilleHotel$Shaft", "feels", "[I", true)
  | 4 => ("GrilleHotel$Shaft", "felt", "[I", true)
  | 5 => ("GrilleHotel$Shaft", "guests", "I", false)
  | 6 => ("GrilleHotel$Shaft", "grilles", "I", false)
  | 7 => ("GrilleHotel$Shaft", "cowl", "I", false)
  | 8 => ("GrilleHotel$Shaft", "hour", "I", false)
  | _ => ("GrilleHotel$Shaft", "x", "I", false)
def tyX8 : Nat → FieldType := fun k => match k with
  | 0 => .array .int
  | 1 => .array .int
  | 2 => .array .int
  | 3 => .array .int
  | 4 => .array .int
  | 5 => .int
  | 6 => .int
  | 7 => .int
  | 8 => .int
  | _ => .int
theorem nmX8 : ∀ a, a < 10 → ∀ b, b < 10 → a ≠ b → (TX8 a).2.1 ≠ (TX8 b).2.1 := by decide +kernel
theorem tyX8_ok : ∀ k, k < 10 → parseFieldDescriptor (TX8 k).2.2.1 = some (tyX8 k) := by decide +kernel
abbrev cX8_init : ByteArray := prog_10_method_1_code
def yX8_init : MethodName := ⟨RX8, "<init>", "()V"⟩
abbrev cX8_copyFrom : ByteArray := prog_10_method_2_code
def yX8_copyFrom : MethodName := ⟨RX8, "copyFrom", "(LGrilleHotel$Shaft;)V"⟩
abbrev cX8_hasGuest : ByteArray := prog_10_method_3_code
def yX8_hasGuest : MethodName := ⟨RX8, "hasGuest", "(I)Z"⟩
abbrev cX8_isOpen : ByteArray := prog_10_method_4_code
def yX8_isOpen : MethodName := ⟨RX8, "isOpen", "(I)Z"⟩
abbrev cX8_takesPart : ByteArray := prog_10_method_5_code
def yX8_takesPart : MethodName := ⟨RX8, "takesPart", "(I)Z"⟩
abbrev cX8_feelsOf : ByteArray := prog_10_method_6_code
def yX8_feelsOf : MethodName := ⟨RX8, "feelsOf", "(II)I"⟩
abbrev cX8_mostFeltBy : ByteArray := prog_10_method_7_code
def yX8_mostFeltBy : MethodName := ⟨RX8, "mostFeltBy", "(I)I"⟩
abbrev cX8_takeIn : ByteArray := prog_10_method_8_code
def yX8_takeIn : MethodName := ⟨RX8, "takeIn", "(II)V"⟩
abbrev cX8_sendAway : ByteArray := prog_10_method_9_code
def yX8_sendAway : MethodName := ⟨RX8, "sendAway", "(I)V"⟩
abbrev cX8_setGrille : ByteArray := prog_10_method_10_code
def yX8_setGrille : MethodName := ⟨RX8, "setGrille", "(IZ)V"⟩
abbrev cX8_setLouvre : ByteArray := prog_10_method_11_code
def yX8_setLouvre : MethodName := ⟨RX8, "setLouvre", "(II)V"⟩
abbrev cX8_exchange : ByteArray := prog_10_method_12_code
def yX8_exchange : MethodName := ⟨RX8, "exchange", "(II)V"⟩
abbrev cX8_addGrease : ByteArray := prog_10_method_13_code
def yX8_addGrease : MethodName := ⟨RX8, "addGrease", "(II)V"⟩
abbrev cX8_addFelt : ByteArray := prog_10_method_14_code
def yX8_addFelt : MethodName := ⟨RX8, "addFelt", "(III)V"⟩
abbrev cX8_draw : ByteArray := prog_10_method_15_code
def yX8_draw : MethodName := ⟨RX8, "draw", "()I"⟩
abbrev cX8_above : ByteArray := prog_10_method_16_code
def yX8_above : MethodName := ⟨RX8, "above", "(I)I"⟩
abbrev cX8_riseTo : ByteArray := prog_10_method_17_code
def yX8_riseTo : MethodName := ⟨RX8, "riseTo", "(II)I"⟩
abbrev cX8_forget : ByteArray := prog_10_method_18_code
def yX8_forget : MethodName := ⟨RX8, "forget", "(I)V"⟩
abbrev cX8_swap : ByteArray := prog_10_method_19_code
def yX8_swap : MethodName := ⟨RX8, "swap", "([III)V"⟩
def RX9 : String := "GrilleHotel$TapCode"
def TX9 : u_T := fun k => match k with
  | _ => ("", "", "", false)
def tyX9 : Nat → FieldType := fun k => match k with
  | _ => .int
theorem nmX9 : ∀ a, a < 0 → ∀ b, b < 0 → a ≠ b → (TX9 a).2.1 ≠ (TX9 b).2.1 := by decide +kernel
theorem tyX9_ok : ∀ k, k < 0 → parseFieldDescriptor (TX9 k).2.2.1 = some (tyX9 k) := by decide +kernel
abbrev cX9_read : ByteArray := prog_11_method_2_code
def yX9_read : MethodName := ⟨RX9, "read", "(LGrilleHotel$Tape;I)I"⟩
abbrev cX9_lengthOf : ByteArray := prog_11_method_3_code
def yX9_lengthOf : MethodName := ⟨RX9, "lengthOf", "(LGrilleHotel$Tape;)I"⟩
abbrev cX9_tapsOf : ByteArray := prog_11_method_4_code
def yX9_tapsOf : MethodName := ⟨RX9, "tapsOf", "(I)I"⟩
abbrev cX9_readLetter : ByteArray := prog_11_method_5_code
def yX9_readLetter : MethodName := ⟨RX9, "readLetter", "(LGrilleHotel$Tape;)I"⟩
abbrev cX9_readTaps : ByteArray := prog_11_method_6_code
def yX9_readTaps : MethodName := ⟨RX9, "readTaps", "(LGrilleHotel$Tape;)I"⟩
abbrev cX9_readGap : ByteArray := prog_11_method_7_code
def yX9_readGap : MethodName := ⟨RX9, "readGap", "(LGrilleHotel$Tape;)V"⟩
def RX10 : String := "GrilleHotel$Tape"
def TX10 : u_T := fun k => match k with
  | 0 => ("GrilleHotel$Tape", "bytes", "[I", true)
  | 1 => ("GrilleHotel$Tape", "size", "I", false)
  | 2 => ("GrilleHotel$Tape", "end", "I", false)
  | 3 => ("GrilleHotel$Tape", "at", "I", false)
  | _ => ("GrilleHotel$Tape", "fault", "I", false)
def tyX10 : Nat → FieldType := fun k => match k with
  | 0 => .array .int
  | 1 => .int
  | 2 => .int
  | 3 => .int
  | _ => .int
theorem nmX10 : ∀ a, a < 5 → ∀ b, b < 5 → a ≠ b → (TX10 a).2.1 ≠ (TX10 b).2.1 := by decide +kernel
theorem tyX10_ok : ∀ k, k < 5 → parseFieldDescriptor (TX10 k).2.2.1 = some (tyX10 k) := by decide +kernel
abbrev cX10_init : ByteArray := prog_12_method_1_code
def yX10_init : MethodName := ⟨RX10, "<init>", "()V"⟩
abbrev cX10_hasSpace : ByteArray := prog_12_method_2_code
def yX10_hasSpace : MethodName := ⟨RX10, "hasSpace", "()Z"⟩
abbrev cX10_addWord : ByteArray := prog_12_method_3_code
def yX10_addWord : MethodName := ⟨RX10, "addWord", "(I)V"⟩
abbrev cX10_has : ByteArray := prog_12_method_4_code
def yX10_has : MethodName := ⟨RX10, "has", "(I)Z"⟩
abbrev cX10_take : ByteArray := prog_12_method_5_code
def yX10_take : MethodName := ⟨RX10, "take", "(I)V"⟩
abbrev cX10_byteAt : ByteArray := prog_12_method_6_code
def yX10_byteAt : MethodName := ⟨RX10, "byteAt", "(I)I"⟩
abbrev cX10_sign : ByteArray := prog_12_method_7_code
def yX10_sign : MethodName := ⟨RX10, "sign", "()I"⟩
abbrev cX10_isOver : ByteArray := prog_12_method_8_code
def yX10_isOver : MethodName := ⟨RX10, "isOver", "()Z"⟩
abbrev cX10_isFaulty : ByteArray := prog_12_method_9_code
def yX10_isFaulty : MethodName := ⟨RX10, "isFaulty", "()Z"⟩
abbrev cX10_step : ByteArray := prog_12_method_10_code
def yX10_step : MethodName := ⟨RX10, "step", "()V"⟩
abbrev cX10_expect : ByteArray := prog_12_method_11_code
def yX10_expect : MethodName := ⟨RX10, "expect", "(I)V"⟩
abbrev cX10_failAt : ByteArray := prog_12_method_12_code
def yX10_failAt : MethodName := ⟨RX10, "failAt", "(II)V"⟩
abbrev cX10_number : ByteArray := prog_12_method_13_code
def yX10_number : MethodName := ⟨RX10, "number", "(I)I"⟩
abbrev cX10_isDigit : ByteArray := prog_12_method_14_code
def yX10_isDigit : MethodName := ⟨RX10, "isDigit", "(I)Z"⟩
def RX11 : String := "GrilleHotel"
def TX11 : u_T := fun k => match k with
  | 0 => ("GrilleHotel", "tape", "LGrilleHotel$Tape;", true)
  | 1 => ("GrilleHotel", "shaft", "LGrilleHotel$Shaft;", true)
  | 2 => ("GrilleHotel", "kept", "LGrilleHotel$Shaft;", true)
  | 3 => ("GrilleHotel", "trial", "LGrilleHotel$Shaft;", true)
  | 4 => ("GrilleHotel", "air", "LGrilleHotel$Air;", true)
  | 5 => ("GrilleHotel", "lawReader", "LGrilleHotel$LawReader;", true)
  | 6 => ("GrilleHotel", "registerReader", "LGrilleHotel$RegisterReader;", true)
  | 7 => ("GrilleHotel", "climb", "LGrilleHotel$Climb;", true)
  | 8 => ("GrilleHotel", "rope", "LGrilleHotel$Rope;", true)
  | 9 => ("GrilleHotel", "beds", "LGrilleHotel$Beds;", true)
  | 10 => ("GrilleHotel", "laundry", "LGrilleHotel$Laundry;", true)
  | 11 => ("GrilleHotel", "lawInForce", "LGrilleHotel$Law;", false)
  | 12 => ("GrilleHotel", "lawInDraft", "LGrilleHotel$Law;", false)
  | _ => ("GrilleHotel", "isKept", "Z", false)
def tyX11 : Nat → FieldType := fun k => match k with
  | 0 => .object "GrilleHotel$Tape"
  | 1 => .object "GrilleHotel$Shaft"
  | 2 => .object "GrilleHotel$Shaft"
  | 3 => .object "GrilleHotel$Shaft"
  | 4 => .object "GrilleHotel$Air"
  | 5 => .object "GrilleHotel$LawReader"
  | 6 => .object "GrilleHotel$RegisterReader"
  | 7 => .object "GrilleHotel$Climb"
  | 8 => .object "GrilleHotel$Rope"
  | 9 => .object "GrilleHotel$Beds"
  | 10 => .object "GrilleHotel$Laundry"
  | 11 => .object "GrilleHotel$Law"
  | 12 => .object "GrilleHotel$Law"
  | _ => .boolean
theorem nmX11 : ∀ a, a < 14 → ∀ b, b < 14 → a ≠ b → (TX11 a).2.1 ≠ (TX11 b).2.1 := by decide +kernel
theorem tyX11_ok : ∀ k, k < 14 → parseFieldDescriptor (TX11 k).2.2.1 = some (tyX11 k) := by decide +kernel
abbrev cX11_init : ByteArray := prog_1_method_1_code
def yX11_init : MethodName := ⟨RX11, "<init>", "()V"⟩
abbrev cX11_guest : ByteArray := prog_1_method_2_code
def yX11_guest : MethodName := ⟨RX11, "guest", "(II)Z"⟩
abbrev cX11_grille : ByteArray := prog_1_method_3_code
def yX11_grille : MethodName := ⟨RX11, "grille", "(IZ)Z"⟩
abbrev cX11_louvre : ByteArray := prog_1_method_4_code
def yX11_louvre : MethodName := ⟨RX11, "louvre", "(II)Z"⟩
abbrev cX11_feed : ByteArray := prog_1_method_5_code
def yX11_feed : MethodName := ⟨RX11, "feed", "(IIIII)I"⟩
abbrev cX11_law : ByteArray := prog_1_method_6_code
def yX11_law : MethodName := ⟨RX11, "law", "(I)I"⟩
abbrev cX11_register : ByteArray := prog_1_method_7_code
def yX11_register : MethodName := ⟨RX11, "register", "(I)I"⟩
abbrev cX11_hours : ByteArray := prog_1_method_8_code
def yX11_hours : MethodName := ⟨RX11, "hours", "(I)I"⟩
abbrev cX11_tried : ByteArray := prog_1_method_9_code
def yX11_tried : MethodName := ⟨RX11, "tried", "(II)I"⟩
abbrev cX11_roomIs : ByteArray := prog_1_method_10_code
def yX11_roomIs : MethodName := ⟨RX11, "roomIs", "(II)I"⟩
abbrev cX11_feels : ByteArray := prog_1_method_11_code
def yX11_feels : MethodName := ⟨RX11, "feels", "(II)I"⟩
abbrev cX11_way : ByteArray := prog_1_method_12_code
def yX11_way : MethodName := ⟨RX11, "way", "(II)I"⟩
abbrev cX11_odds : ByteArray := prog_1_method_13_code
def yX11_odds : MethodName := ⟨RX11, "odds", "(IIII)I"⟩
abbrev cX11_fromWhere : ByteArray := prog_1_method_14_code
def yX11_fromWhere : MethodName := ⟨RX11, "fromWhere", "(I)I"⟩
abbrev cX11_meet : ByteArray := prog_1_method_15_code
def yX11_meet : MethodName := ⟨RX11, "meet", "(II)I"⟩
abbrev cX11_cowls : ByteArray := prog_1_method_16_code
def yX11_cowls : MethodName := ⟨RX11, "cowls", "()I"⟩
abbrev cX11_turn : ByteArray := prog_1_method_17_code
def yX11_turn : MethodName := ⟨RX11, "turn", "(III)I"⟩
abbrev cX11_ways : ByteArray := prog_1_method_18_code
def yX11_ways : MethodName := ⟨RX11, "ways", "(II)I"⟩
abbrev cX11_stockings : ByteArray := prog_1_method_19_code
def yX11_stockings : MethodName := ⟨RX11, "stockings", "(II)I"⟩
abbrev cX11_sleep : ByteArray := prog_1_method_20_code
def yX11_sleep : MethodName := ⟨RX11, "sleep", "(III)J"⟩
abbrev cX11_breakfast : ByteArray := prog_1_method_21_code
def yX11_breakfast : MethodName := ⟨RX11, "breakfast", "(I)I"⟩
abbrev cX11_ropes : ByteArray := prog_1_method_22_code
def yX11_ropes : MethodName := ⟨RX11, "ropes", "(III)I"⟩
abbrev cX11_taps : ByteArray := prog_1_method_23_code
def yX11_taps : MethodName := ⟨RX11, "taps", "(II)I"⟩
abbrev cX11_tapped : ByteArray := prog_1_method_24_code
def yX11_tapped : MethodName := ⟨RX11, "tapped", "(I)I"⟩
abbrev cX11_linen : ByteArray := prog_1_method_25_code
def yX11_linen : MethodName := ⟨RX11, "linen", "(III)I"⟩
abbrev cX11_dust : ByteArray := prog_1_method_26_code
def yX11_dust : MethodName := ⟨RX11, "dust", "(I)I"⟩
abbrev cX11_seed : ByteArray := prog_1_method_27_code
def yX11_seed : MethodName := ⟨RX11, "seed", "(I)Z"⟩
abbrev cX11_keep : ByteArray := prog_1_method_28_code
def yX11_keep : MethodName := ⟨RX11, "keep", "()I"⟩
abbrev cX11_undo : ByteArray := prog_1_method_29_code
def yX11_undo : MethodName := ⟨RX11, "undo", "()Z"⟩
abbrev cX11_check : ByteArray := prog_1_method_30_code
def yX11_check : MethodName := ⟨RX11, "check", "(I)I"⟩
abbrev cX11_count : ByteArray := prog_1_method_31_code
def yX11_count : MethodName := ⟨RX11, "count", "(I)I"⟩
abbrev cX11_roomThatFeelsMost : ByteArray := prog_1_method_32_code
def yX11_roomThatFeelsMost : MethodName := ⟨RX11, "roomThatFeelsMost", "()I"⟩
abbrev cX11_roomsThatFeel : ByteArray := prog_1_method_33_code
def yX11_roomsThatFeel : MethodName := ⟨RX11, "roomsThatFeel", "(I)I"⟩
abbrev cX11_guestWhoFeelsLeast : ByteArray := prog_1_method_34_code
def yX11_guestWhoFeelsLeast : MethodName := ⟨RX11, "guestWhoFeelsLeast", "()I"⟩
abbrev cX11_medianFelt : ByteArray := prog_1_method_35_code
def yX11_medianFelt : MethodName := ⟨RX11, "medianFelt", "()I"⟩
abbrev cX11_guestsWhoFeelLessThan : ByteArray := prog_1_method_36_code
def yX11_guestsWhoFeelLessThan : MethodName := ⟨RX11, "guestsWhoFeelLessThan", "(I)I"⟩
abbrev cX11_isWithin : ByteArray := prog_1_method_37_code
def yX11_isWithin : MethodName := ⟨RX11, "isWithin", "(III)Z"⟩
abbrev cX11_isRoom : ByteArray := prog_1_method_38_code
def yX11_isRoom : MethodName := ⟨RX11, "isRoom", "(I)Z"⟩
abbrev cX11_isRise : ByteArray := prog_1_method_39_code
def yX11_isRise : MethodName := ⟨RX11, "isRise", "(II)Z"⟩
abbrev cX11_floorOf : ByteArray := prog_1_method_40_code
def yX11_floorOf : MethodName := ⟨RX11, "floorOf", "(I)I"⟩
abbrev cX11_columnOf : ByteArray := prog_1_method_41_code
def yX11_columnOf : MethodName := ⟨RX11, "columnOf", "(I)I"⟩
abbrev cX11_columnBy : ByteArray := prog_1_method_42_code
def yX11_columnBy : MethodName := ⟨RX11, "columnBy", "(II)I"⟩
abbrev cX11_sumOf : ByteArray := prog_1_method_43_code
def yX11_sumOf : MethodName := ⟨RX11, "sumOf", "([I)I"⟩
abbrev cX11_commonDivisor : ByteArray := prog_1_method_44_code
def yX11_commonDivisor : MethodName := ⟨RX11, "commonDivisor", "(II)I"⟩
abbrev cX11_reduced : ByteArray := prog_1_method_45_code
def yX11_reduced : MethodName := ⟨RX11, "reduced", "(III)I"⟩
def RX12 : String := "GrilleHotelModel"
def TX12 : u_T := fun k => match k with
  | 0 => ("GrilleHotelModel", "now", "[I", true)
  | 1 => ("GrilleHotelModel", "aside", "[I", true)
  | 2 => ("GrilleHotelModel", "kept", "[I", true)
  | 3 => ("GrilleHotelModel", "tape", "[B", true)
  | 4 => ("GrilleHotelModel", "taped", "I", false)
  | 5 => ("GrilleHotelModel", "place0", "I", false)
  | 6 => ("GrilleHotelModel", "length0", "I", false)
  | 7 => ("GrilleHotelModel", "fault", "I", false)
  | 8 => ("GrilleHotelModel", "number0", "I", false)
  | 9 => ("GrilleHotelModel", "open", "I", false)
  | 10 => ("GrilleHotelModel", "codeMany", "I", false)
  | 11 => ("GrilleHotelModel", "waiting", "I", false)
  | 12 => ("GrilleHotelModel", "saidMany", "I", false)
  | 13 => ("GrilleHotelModel", "clauses", "I", false)
  | 14 => ("GrilleHotelModel", "said", "[I", true)
  | 15 => ("GrilleHotelModel", "waitsAt", "[I", true)
  | 16 => ("GrilleHotelModel", "saidLetter", "[I", true)
  | 17 => ("GrilleHotelModel", "saidFrom", "[I", true)
  | 18 => ("GrilleHotelModel", "saidHalf", "[I", true)
  | 19 => ("GrilleHotelModel", "saidTo", "[I", true)
  | 20 => ("GrilleHotelModel", "codes", "[I", true)
  | 21 => ("GrilleHotelModel", "clauseOf", "[I", true)
  | 22 => ("GrilleHotelModel", "codeFrom", "[I", true)
  | 23 => ("GrilleHotelModel", "codeHalf", "[I", true)
  | 24 => ("GrilleHotelModel", "codeTo", "[I", true)
  | 25 => ("GrilleHotelModel", "stack", "[I", true)
  | 26 => ("GrilleHotelModel", "facts", "[I", true)
  | 27 => ("GrilleHotelModel", "lines", "I", false)
  | 28 => ("GrilleHotelModel", "cameOut", "I", false)
  | 29 => ("GrilleHotelModel", "settled", "I", false)
  | 30 => ("GrilleHotelModel", "wentOut", "I", false)
  | 31 => ("GrilleHotelModel", "fewestFrom", "[I", true)
  | 32 => ("GrilleHotelModel", "waysFrom", "[I", true)
  | 33 => ("GrilleHotelModel", "bestIf", "[J", true)
  | 34 => ("GrilleHotelModel", "bestIfNot", "[J", true)
  | 35 => ("GrilleHotelModel", "whoNow", "[I", true)
  | 36 => ("GrilleHotelModel", "whoBest", "[I", true)
  | 37 => ("GrilleHotelModel", "bedOf", "[I", true)
  | 38 => ("GrilleHotelModel", "ropeTo", "[I", true)
  | 39 => ("GrilleHotelModel", "lettersNow", "[I", true)
  | 40 => ("GrilleHotelModel", "tapsMany", "I", false)
  | _ => ("GrilleHotelModel", "isKept", "Z", false)
def tyX12 : Nat → FieldType := fun k => match k with
  | 0 => .array .int
  | 1 => .array .int
  | 2 => .array .int
  | 3 => .array .byte
  | 4 => .int
  | 5 => .int
  | 6 => .int
  | 7 => .int
  | 8 => .int
  | 9 => .int
  | 10 => .int
  | 11 => .int
  | 12 => .int
  | 13 => .int
  | 14 => .array .int
  | 15 => .array .int
  | 16 => .array .int
  | 17 => .array .int
  | 18 => .array .int
  | 19 => .array .int
  | 20 => .array .int
  | 21 => .array .int
  | 22 => .array .int
  | 23 => .array .int
  | 24 => .array .int
  | 25 => .array .int
  | 26 => .array .int
  | 27 => .int
  | 28 => .int
  | 29 => .int
  | 30 => .int
  | 31 => .array .int
  | 32 => .array .int
  | 33 => .array .long
  | 34 => .array .long
  | 35 => .array .int
  | 36 => .array .int
  | 37 => .array .int
  | 38 => .array .int
  | 39 => .array .int
  | 40 => .int
  | _ => .boolean
theorem nmX12 : ∀ a, a < 42 → ∀ b, b < 42 → a ≠ b → (TX12 a).2.1 ≠ (TX12 b).2.1 := by decide +kernel
theorem tyX12_ok : ∀ k, k < 42 → parseFieldDescriptor (TX12 k).2.2.1 = some (tyX12 k) := by decide +kernel
abbrev cX12_init : ByteArray := prog_14_method_1_code
def yX12_init : MethodName := ⟨RX12, "<init>", "()V"⟩
abbrev cX12_in : ByteArray := prog_14_method_2_code
def yX12_in : MethodName := ⟨RX12, "in", "(III)Z"⟩
abbrev cX12_min : ByteArray := prog_14_method_3_code
def yX12_min : MethodName := ⟨RX12, "min", "(II)I"⟩
abbrev cX12_max : ByteArray := prog_14_method_4_code
def yX12_max : MethodName := ⟨RX12, "max", "(II)I"⟩
abbrev cX12_has : ByteArray := prog_14_method_5_code
def yX12_has : MethodName := ⟨RX12, "has", "(II)Z"⟩
abbrev cX12_bits : ByteArray := prog_14_method_6_code
def yX12_bits : MethodName := ⟨RX12, "bits", "(I)I"⟩
abbrev cX12_copies : ByteArray := prog_14_method_7_code
def yX12_copies : MethodName := ⟨RX12, "copies", "([I[I)V"⟩
abbrev cX12_isRoom : ByteArray := prog_14_method_8_code
def yX12_isRoom : MethodName := ⟨RX12, "isRoom", "(I)Z"⟩
abbrev cX12_felt : ByteArray := prog_14_method_9_code
def yX12_felt : MethodName := ⟨RX12, "felt", "(II)I"⟩
abbrev cX12_feltIn : ByteArray := prog_14_method_10_code
def yX12_feltIn : MethodName := ⟨RX12, "feltIn", "(I)I"⟩
abbrev cX12_takesIn : ByteArray := prog_14_method_11_code
def yX12_takesIn : MethodName := ⟨RX12, "takesIn", "(I)Z"⟩
abbrev cX12_turned : ByteArray := prog_14_method_12_code
def yX12_turned : MethodName := ⟨RX12, "turned", "(II)I"⟩
abbrev cX12_above : ByteArray := prog_14_method_13_code
def yX12_above : MethodName := ⟨RX12, "above", "(I)I"⟩
abbrev cX12_laysGuest : ByteArray := prog_14_method_14_code
def yX12_laysGuest : MethodName := ⟨RX12, "laysGuest", "(III)V"⟩
abbrev cX12_guest : ByteArray := prog_14_method_15_code
def yX12_guest : MethodName := ⟨RX12, "guest", "(II)Z"⟩
abbrev cX12_grille : ByteArray := prog_14_method_16_code
def yX12_grille : MethodName := ⟨RX12, "grille", "(IZ)Z"⟩
abbrev cX12_louvre : ByteArray := prog_14_method_17_code
def yX12_louvre : MethodName := ⟨RX12, "louvre", "(II)Z"⟩
abbrev cX12_types : ByteArray := prog_14_method_18_code
def yX12_types : MethodName := ⟨RX12, "types", "(I)V"⟩
abbrev cX12_feed : ByteArray := prog_14_method_19_code
def yX12_feed : MethodName := ⟨RX12, "feed", "(IIIII)I"⟩
abbrev cX12_octet : ByteArray := prog_14_method_20_code
def yX12_octet : MethodName := ⟨RX12, "octet", "(I)I"⟩
abbrev cX12_here : ByteArray := prog_14_method_21_code
def yX12_here : MethodName := ⟨RX12, "here", "()I"⟩
abbrev cX12_isDigit : ByteArray := prog_14_method_22_code
def yX12_isDigit : MethodName := ⟨RX12, "isDigit", "()Z"⟩
abbrev cX12_wrongAt : ByteArray := prog_14_method_23_code
def yX12_wrongAt : MethodName := ⟨RX12, "wrongAt", "(II)Z"⟩
abbrev cX12_takes : ByteArray := prog_14_method_24_code
def yX12_takes : MethodName := ⟨RX12, "takes", "(I)Z"⟩
abbrev cX12_readsNumber : ByteArray := prog_14_method_25_code
def yX12_readsNumber : MethodName := ⟨RX12, "readsNumber", "()Z"⟩
abbrev cX12_notes : ByteArray := prog_14_method_26_code
def yX12_notes : MethodName := ⟨RX12, "notes", "(II)V"⟩
abbrev cX12_opens : ByteArray := prog_14_method_27_code
def yX12_opens : MethodName := ⟨RX12, "opens", "(I)Z"⟩
abbrev cX12_waitTop : ByteArray := prog_14_method_28_code
def yX12_waitTop : MethodName := ⟨RX12, "waitTop", "()I"⟩
abbrev cX12_factOf : ByteArray := prog_14_method_29_code
def yX12_factOf : MethodName := ⟨RX12, "factOf", "(I)I"⟩
abbrev cX12_sumSign : ByteArray := prog_14_method_30_code
def yX12_sumSign : MethodName := ⟨RX12, "sumSign", "(I)I"⟩
abbrev cX12_closesSums : ByteArray := prog_14_method_31_code
def yX12_closesSums : MethodName := ⟨RX12, "closesSums", "(Z)V"⟩
abbrev cX12_readsFactor : ByteArray := prog_14_method_32_code
def yX12_readsFactor : MethodName := ⟨RX12, "readsFactor", "()Z"⟩
abbrev cX12_hasOpenSum : ByteArray := prog_14_method_33_code
def yX12_hasOpenSum : MethodName := ⟨RX12, "hasOpenSum", "(I)Z"⟩
abbrev cX12_readsSum : ByteArray := prog_14_method_34_code
def yX12_readsSum : MethodName := ⟨RX12, "readsSum", "()Z"⟩
abbrev cX12_endsPiece : ByteArray := prog_14_method_35_code
def yX12_endsPiece : MethodName := ⟨RX12, "endsPiece", "()V"⟩
abbrev cX12_lands : ByteArray := prog_14_method_36_code
def yX12_lands : MethodName := ⟨RX12, "lands", "(Z)V"⟩
abbrev cX12_jumps : ByteArray := prog_14_method_37_code
def yX12_jumps : MethodName := ⟨RX12, "jumps", "(I)V"⟩
abbrev cX12_readsCompared : ByteArray := prog_14_method_38_code
def yX12_readsCompared : MethodName := ⟨RX12, "readsCompared", "()Z"⟩
abbrev cX12_readsCondition : ByteArray := prog_14_method_39_code
def yX12_readsCondition : MethodName := ⟨RX12, "readsCondition", "()Z"⟩
abbrev cX12_readsRule : ByteArray := prog_14_method_40_code
def yX12_readsRule : MethodName := ⟨RX12, "readsRule", "()Z"⟩
abbrev cX12_beginsText : ByteArray := prog_14_method_41_code
def yX12_beginsText : MethodName := ⟨RX12, "beginsText", "(I)V"⟩
abbrev cX12_law : ByteArray := prog_14_method_42_code
def yX12_law : MethodName := ⟨RX12, "law", "(I)I"⟩
abbrev cX12_reckon : ByteArray := prog_14_method_43_code
def yX12_reckon : MethodName := ⟨RX12, "reckon", "(III)I"⟩
abbrev cX12_comesTo : ByteArray := prog_14_method_44_code
def yX12_comesTo : MethodName := ⟨RX12, "comesTo", "(II)I"⟩
abbrev cX12_byLaw : ByteArray := prog_14_method_45_code
def yX12_byLaw : MethodName := ⟨RX12, "byLaw", "(II)I"⟩
abbrev cX12_holdsAny : ByteArray := prog_14_method_46_code
def yX12_holdsAny : MethodName := ⟨RX12, "holdsAny", "(I)Z"⟩
abbrev cX12_asks : ByteArray := prog_14_method_47_code
def yX12_asks : MethodName := ⟨RX12, "asks", "(III)V"⟩
abbrev cX12_readsAmount : ByteArray := prog_14_method_48_code
def yX12_readsAmount : MethodName := ⟨RX12, "readsAmount", "(I)Z"⟩
abbrev cX12_readsRoom : ByteArray := prog_14_method_49_code
def yX12_readsRoom : MethodName := ⟨RX12, "readsRoom", "()Z"⟩
abbrev cX12_swaps : ByteArray := prog_14_method_50_code
def yX12_swaps : MethodName := ⟨RX12, "swaps", "(II)V"⟩
abbrev cX12_changes : ByteArray := prog_14_method_51_code
def yX12_changes : MethodName := ⟨RX12, "changes", "(II)V"⟩
abbrev cX12_readsMove : ByteArray := prog_14_method_52_code
def yX12_readsMove : MethodName := ⟨RX12, "readsMove", "(I)Z"⟩
abbrev cX12_readsLine : ByteArray := prog_14_method_53_code
def yX12_readsLine : MethodName := ⟨RX12, "readsLine", "()Z"⟩
abbrev cX12_register : ByteArray := prog_14_method_54_code
def yX12_register : MethodName := ⟨RX12, "register", "(I)I"⟩
abbrev cX12_rises : ByteArray := prog_14_method_55_code
def yX12_rises : MethodName := ⟨RX12, "rises", "(II)V"⟩
abbrev cX12_hourGoes : ByteArray := prog_14_method_56_code
def yX12_hourGoes : MethodName := ⟨RX12, "hourGoes", "()V"⟩
abbrev cX12_hoursGo : ByteArray := prog_14_method_57_code
def yX12_hoursGo : MethodName := ⟨RX12, "hoursGo", "(I)V"⟩
abbrev cX12_hours : ByteArray := prog_14_method_58_code
def yX12_hours : MethodName := ⟨RX12, "hours", "(I)I"⟩
abbrev cX12_sumOf : ByteArray := prog_14_method_59_code
def yX12_sumOf : MethodName := ⟨RX12, "sumOf", "(I)I"⟩
abbrev cX12_tried : ByteArray := prog_14_method_60_code
def yX12_tried : MethodName := ⟨RX12, "tried", "(II)I"⟩
abbrev cX12_feltMost : ByteArray := prog_14_method_61_code
def yX12_feltMost : MethodName := ⟨RX12, "feltMost", "(I)I"⟩
abbrev cX12_roomIs : ByteArray := prog_14_method_62_code
def yX12_roomIs : MethodName := ⟨RX12, "roomIs", "(II)I"⟩
abbrev cX12_feels : ByteArray := prog_14_method_63_code
def yX12_feels : MethodName := ⟨RX12, "feels", "(II)I"⟩
abbrev cX12_way : ByteArray := prog_14_method_64_code
def yX12_way : MethodName := ⟨RX12, "way", "(II)I"⟩
abbrev cX12_gcd : ByteArray := prog_14_method_65_code
def yX12_gcd : MethodName := ⟨RX12, "gcd", "(II)I"⟩
abbrev cX12_odds : ByteArray := prog_14_method_66_code
def yX12_odds : MethodName := ⟨RX12, "odds", "(IIII)I"⟩
abbrev cX12_passes : ByteArray := prog_14_method_67_code
def yX12_passes : MethodName := ⟨RX12, "passes", "(II)Z"⟩
abbrev cX12_fromWhere : ByteArray := prog_14_method_68_code
def yX12_fromWhere : MethodName := ⟨RX12, "fromWhere", "(I)I"⟩
abbrev cX12_meet : ByteArray := prog_14_method_69_code
def yX12_meet : MethodName := ⟨RX12, "meet", "(II)I"⟩
abbrev cX12_cowls : ByteArray := prog_14_method_70_code
def yX12_cowls : MethodName := ⟨RX12, "cowls", "()I"⟩
abbrev cX12_leads : ByteArray := prog_14_method_71_code
def yX12_leads : MethodName := ⟨RX12, "leads", "(III)Z"⟩
abbrev cX12_costOf : ByteArray := prog_14_method_72_code
def yX12_costOf : MethodName := ⟨RX12, "costOf", "(II)I"⟩
abbrev cX12_laysFewest : ByteArray := prog_14_method_73_code
def yX12_laysFewest : MethodName := ⟨RX12, "laysFewest", "(I)V"⟩
abbrev cX12_turn : ByteArray := prog_14_method_74_code
def yX12_turn : MethodName := ⟨RX12, "turn", "(III)I"⟩
abbrev cX12_ways : ByteArray := prog_14_method_75_code
def yX12_ways : MethodName := ⟨RX12, "ways", "(II)I"⟩
abbrev cX12_belowOf : ByteArray := prog_14_method_76_code
def yX12_belowOf : MethodName := ⟨RX12, "belowOf", "(IZ)J"⟩
abbrev cX12_bestOf : ByteArray := prog_14_method_77_code
def yX12_bestOf : MethodName := ⟨RX12, "bestOf", "(IZZ)J"⟩
abbrev cX12_stockings : ByteArray := prog_14_method_78_code
def yX12_stockings : MethodName := ⟨RX12, "stockings", "(II)I"⟩
abbrev cX12_changesWho : ByteArray := prog_14_method_79_code
def yX12_changesWho : MethodName := ⟨RX12, "changesWho", "(II)V"⟩
abbrev cX12_nextWho : ByteArray := prog_14_method_80_code
def yX12_nextWho : MethodName := ⟨RX12, "nextWho", "(I)Z"⟩
abbrev cX12_sleep : ByteArray := prog_14_method_81_code
def yX12_sleep : MethodName := ⟨RX12, "sleep", "(III)J"⟩
abbrev cX12_breakfast : ByteArray := prog_14_method_82_code
def yX12_breakfast : MethodName := ⟨RX12, "breakfast", "(I)I"⟩
abbrev cX12_lowers : ByteArray := prog_14_method_83_code
def yX12_lowers : MethodName := ⟨RX12, "lowers", "(IIII)Z"⟩
abbrev cX12_lowersAll : ByteArray := prog_14_method_84_code
def yX12_lowersAll : MethodName := ⟨RX12, "lowersAll", "(I)Z"⟩
abbrev cX12_ropes : ByteArray := prog_14_method_85_code
def yX12_ropes : MethodName := ⟨RX12, "ropes", "(III)I"⟩
abbrev cX12_readsTaps : ByteArray := prog_14_method_86_code
def yX12_readsTaps : MethodName := ⟨RX12, "readsTaps", "()Z"⟩
abbrev cX12_readsLetter : ByteArray := prog_14_method_87_code
def yX12_readsLetter : MethodName := ⟨RX12, "readsLetter", "()Z"⟩
abbrev cX12_readsPause : ByteArray := prog_14_method_88_code
def yX12_readsPause : MethodName := ⟨RX12, "readsPause", "()Z"⟩
abbrev cX12_taps : ByteArray := prog_14_method_89_code
def yX12_taps : MethodName := ⟨RX12, "taps", "(II)I"⟩
abbrev cX12_tapped : ByteArray := prog_14_method_90_code
def yX12_tapped : MethodName := ⟨RX12, "tapped", "(I)I"⟩
abbrev cX12_roundOf : ByteArray := prog_14_method_91_code
def yX12_roundOf : MethodName := ⟨RX12, "roundOf", "(I)I"⟩
abbrev cX12_isOnceEach : ByteArray := prog_14_method_92_code
def yX12_isOnceEach : MethodName := ⟨RX12, "isOnceEach", "(I)Z"⟩
abbrev cX12_linen : ByteArray := prog_14_method_93_code
def yX12_linen : MethodName := ⟨RX12, "linen", "(III)I"⟩
abbrev cX12_placeOf : ByteArray := prog_14_method_94_code
def yX12_placeOf : MethodName := ⟨RX12, "placeOf", "(I)I"⟩
abbrev cX12_dust : ByteArray := prog_14_method_95_code
def yX12_dust : MethodName := ⟨RX12, "dust", "(I)I"⟩
abbrev cX12_seed : ByteArray := prog_14_method_96_code
def yX12_seed : MethodName := ⟨RX12, "seed", "(I)Z"⟩
abbrev cX12_keep : ByteArray := prog_14_method_97_code
def yX12_keep : MethodName := ⟨RX12, "keep", "()I"⟩
abbrev cX12_undo : ByteArray := prog_14_method_98_code
def yX12_undo : MethodName := ⟨RX12, "undo", "()Z"⟩
abbrev cX12_check : ByteArray := prog_14_method_99_code
def yX12_check : MethodName := ⟨RX12, "check", "(I)I"⟩
abbrev cX12_setOf : ByteArray := prog_14_method_100_code
def yX12_setOf : MethodName := ⟨RX12, "setOf", "(I)I"⟩
abbrev cX12_count : ByteArray := prog_14_method_101_code
def yX12_count : MethodName := ⟨RX12, "count", "(I)I"⟩
def RJ6 : String := "java/lang/Integer"
abbrev cJ6_bitCount_0f7a4 : ByteArray := prog_15_method_49_code
def yJ6_bitCount_0f7a4 : MethodName := ⟨RJ6, "bitCount", "(I)I"⟩
def RJ9 : String := "java/lang/Math"
abbrev cJ9_max_7cf53 : ByteArray := prog_16_method_65_code
def yJ9_max_7cf53 : MethodName := ⟨RJ9, "max", "(II)I"⟩
abbrev cJ9_min_7cf53 : ByteArray := prog_16_method_69_code
def yJ9_min_7cf53 : MethodName := ⟨RJ9, "min", "(II)I"⟩
def RJ10 : String := "java/lang/System"
def RJ7 : String := "java/util/Arrays"
abbrev cJ7_fill_53178 : ByteArray := prog_18_method_103_code
def yJ7_fill_53178 : MethodName := ⟨RJ7, "fill", "([II)V"⟩
def RL : String := "GrilleHotelLaw"
abbrev cL_law : ByteArray := code
def yL_law : MethodName := ⟨RL, "law", "([I)Z"⟩
abbrev vwCl : List vw_C := [(RX0, TX0, 5), (RX1, TX1, 6), (RX2, TX2, 2), (RX3, TX3, 2), (RX4, TX4, 16), (RX5, TX5, 2), (RX6, TX6, 2), (RX7, TX7, 3), (RX8, TX8, 10), (RX10, TX10, 5), (RX11, TX11, 14), (RX12, TX12, 42)]
end
section
theorem dX0_init_0 : decode cX0_init 0 = .ok (.aload_n 0, 1) := by decide +kernel
theorem dX0_init_1 : decode cX0_init 1 = .ok (.invokespecial 3, 3) := by decide +kernel
theorem dX0_init_4 : decode cX0_init 4 = .ok (.aload_n 0, 1) := by decide +kernel
theorem dX0_init_5 : decode cX0_init 5 = .ok (.aload_n 1, 1) := by decide +kernel
theorem dX0_init_6 : decode cX0_init 6 = .ok (.putfield 9, 3) := by decide +kernel
theorem dX0_init_9 : decode cX0_init 9 = .ok (.aload_n 0, 1) := by decide +kernel
theorem dX0_init_10 : decode cX0_init 10 = .ok (.aload_n 2, 1) := by decide +kernel
theorem dX0_init_11 : decode cX0_init 11 = .ok (.putfield 15, 3) := by decide +kernel
theorem dX0_init_14 : decode cX0_init 14 = .ok (.return_, 1) := by decide +kernel
theorem dX0_pass_0 : decode cX0_pass 0 = .ok (.aload_n 0, 1) := by decide +kernel
theorem dX0_pass_1 : decode cX0_pass 1 = .ok (.aload_n 1, 1) := by decide +kernel
theorem dX0_pass_2 : decode cX0_pass 2 = .ok (.putfield 9, 3) := by decide +kernel
theorem dX0_pass_5 : decode cX0_pass 5 = .ok (.aload_n 0, 1) := by decide +kernel
theorem dX0_pass_6 : decode cX0_pass 6 = .ok (.aload_n 2, 1) := by decide +kernel
theorem dX0_pass_7 : decode cX0_pass 7 = .ok (.putfield 15, 3) := by decide +kernel
theorem dX0_pass_10 : decode cX0_pass 10 = .ok (.aload_n 0, 1) := by decide +kernel
theorem dX0_pass_11 : decode cX0_pass 11 = .ok (.iconst 0, 1) := by decide +kernel
theorem dX0_pass_12 : decode cX0_pass 12 = .ok (.putfield 19, 3) := by decide +kernel
theorem dX0_pass_15 : decode cX0_pass 15 = .ok (.aload_n 0, 1) := by decide +kernel
theorem dX0_pass_16 : decode cX0_pass 16 = .ok (.iconst 0, 1) := by decide +kernel
theorem dX0_pass_17 : decode cX0_pass 17 = .ok (.putfield 23, 3) := by decide +kernel
theorem dX0_pass_20 : decode cX0_pass 20 = .ok (.aload_n 0, 1) := by decide +kernel
theorem dX0_pass_21 : decode cX0_pass 21 = .ok (.iconst 0, 1) := by decide +kernel
theorem dX0_pass_22 : decode cX0_pass 22 = .ok (.putfield 26, 3) := by decide +kernel
theorem dX0_pass_25 : decode cX0_pass 25 = .ok (.iconst 0, 1) := by decide +kernel
theorem dX0_pass_26 : decode cX0_pass 26 = .ok (.istore 4, 2) := by decide +kernel
theorem dX0_pass_28 : decode cX0_pass 28 = .ok (.iload 4, 2) := by decide +kernel
theorem dX0_pass_30 : decode cX0_pass 30 = .ok (.iload_n 3, 1) := by decide +kernel
theorem dX0_pass_31 : decode cX0_pass 31 = .ok (.if_icmp .ge 56, 3) := by decide +kernel
theorem dX0_pass_34 : decode cX0_pass 34 = .ok (.aload_n 0, 1) := by decide +kernel
theorem dX0_pass_35 : decode cX0_pass 35 = .ok (.getfield 9, 3) := by decide +kernel
theorem dX0_pass_38 : decode cX0_pass 38 = .ok (.getfield 29, 3) := by decide +kernel
theorem dX0_pass_41 : decode cX0_pass 41 = .ok (.ldc 34, 2) := by decide +kernel
theorem dX0_pass_43 : decode cX0_pass 43 = .ok (.if_icmp .ge 44, 3) := by decide +kernel
theorem dX0_pass_46 : decode cX0_pass 46 = .ok (.iconst 0, 1) := by decide +kernel
theorem dX0_pass_47 : decode cX0_pass 47 = .ok (.istore 5, 2) := by decide +kernel
theorem dX0_pass_49 : decode cX0_pass 49 = .ok (.iload 5, 2) := by decide +kernel
theorem dX0_pass_51 : decode cX0_pass 51 = .ok (.bipush 24, 2) := by decide +kernel
theorem dX0_pass_53 : decode cX0_pass 53 = .ok (.if_icmp .ge 15, 3) := by decide +kernel
theorem dX0_pass_56 : decode cX0_pass 56 = .ok (.aload_n 0, 1) := by decide +kernel
theorem dX0_pass_57 : decode cX0_pass 57 = .ok (.iload 5, 2) := by decide +kernel
theorem dX0_pass_59 : decode cX0_pass 59 = .ok (.invokevirtual 35, 3) := by decide +kernel
theorem dX0_pass_62 : decode cX0_pass 62 = .ok (.iinc 5 1, 3) := by decide +kernel
theorem dX0_pass_65 : decode cX0_pass 65 = .ok (.goto (-16), 3) := by decide +kernel
theorem dX0_pass_68 : decode cX0_pass 68 = .ok (.aload_n 0, 1) := by decide +kernel
theorem dX0_pass_69 : decode cX0_pass 69 = .ok (.getfield 9, 3) := by decide +kernel
theorem dX0_pass_72 : decode cX0_pass 72 = .ok (.dup, 1) := by decide +kernel
theorem dX0_pass_73 : decode cX0_pass 73 = .ok (.getfield 29, 3) := by decide +kernel
theorem dX0_pass_76 : decode cX0_pass 76 = .ok (.iconst 1, 1) := by decide +kernel
theorem dX0_pass_77 : decode cX0_pass 77 = .ok (.iadd, 1) := by decide +kernel
theorem dX0_pass_78 : decode cX0_pass 78 = .ok (.putfield 29, 3) := by decide +kernel
theorem dX0_pass_81 : decode cX0_pass 81 = .ok (.iinc 4 1, 3) := by decide +kernel
theorem dX0_pass_84 : decode cX0_pass 84 = .ok (.goto (-56), 3) := by decide +kernel
theorem dX0_pass_87 : decode cX0_pass 87 = .ok (.return_, 1) := by decide +kernel
theorem dX0_sendUp_0 : decode cX0_sendUp 0 = .ok (.aload_n 0, 1) := by decide +kernel
theorem dX0_sendUp_1 : decode cX0_sendUp 1 = .ok (.getfield 9, 3) := by decide +kernel
theorem dX0_sendUp_4 : decode cX0_sendUp 4 = .ok (.iload_n 1, 1) := by decide +kernel
theorem dX0_sendUp_5 : decode cX0_sendUp 5 = .ok (.invokevirtual 39, 3) := by decide +kernel
theorem dX0_sendUp_8 : decode cX0_sendUp 8 = .ok (.ifCond .eq 15, 3) := by decide +kernel
theorem dX0_sendUp_11 : decode cX0_sendUp 11 = .ok (.aload_n 0, 1) := by decide +kernel
theorem dX0_sendUp_12 : decode cX0_sendUp 12 = .ok (.getfield 9, 3) := by decide +kernel
theorem dX0_sendUp_15 : decode cX0_sendUp 15 = .ok (.getfield 43, 3) := by decide +kernel
theorem dX0_sendUp_18 : decode cX0_sendUp 18 = .ok (.iload_n 1, 1) := by decide +kernel
theorem dX0_sendUp_19 : decode cX0_sendUp 19 = .ok (.iaload, 1) := by decide +kernel
theorem dX0_sendUp_20 : decode cX0_sendUp 20 = .ok (.ifCond .ne 4, 3) := by decide +kernel
theorem dX0_sendUp_23 : decode cX0_sendUp 23 = .ok (.return_, 1) := by decide +kernel
theorem dX0_sendUp_24 : decode cX0_sendUp 24 = .ok (.aload_n 0, 1) := by decide +kernel
theorem dX0_sendUp_25 : decode cX0_sendUp 25 = .ok (.getfield 15, 3) := by decide +kernel
theorem dX0_sendUp_28 : decode cX0_sendUp 28 = .ok (.aload_n 0, 1) := by decide +kernel
theorem dX0_sendUp_29 : decode cX0_sendUp 29 = .ok (.getfield 9, 3) := by decide +kernel
theorem dX0_sendUp_32 : decode cX0_sendUp 32 = .ok (.iload_n 1, 1) := by decide +kernel
theorem dX0_sendUp_33 : decode cX0_sendUp 33 = .ok (.iload_n 1, 1) := by decide +kernel
theorem dX0_sendUp_34 : decode cX0_sendUp 34 = .ok (.iconst 0, 1) := by decide +kernel
theorem dX0_sendUp_35 : decode cX0_sendUp 35 = .ok (.invokevirtual 47, 3) := by decide +kernel
theorem dX0_sendUp_38 : decode cX0_sendUp 38 = .ok (.aload_n 0, 1) := by decide +kernel
theorem dX0_sendUp_39 : decode cX0_sendUp 39 = .ok (.getfield 15, 3) := by decide +kernel
theorem dX0_sendUp_42 : decode cX0_sendUp 42 = .ok (.invokevirtual 53, 3) := by decide +kernel
theorem dX0_sendUp_45 : decode cX0_sendUp 45 = .ok (.ifCond .eq 4, 3) := by decide +kernel
theorem dX0_sendUp_48 : decode cX0_sendUp 48 = .ok (.return_, 1) := by decide +kernel
theorem dX0_sendUp_49 : decode cX0_sendUp 49 = .ok (.aload_n 0, 1) := by decide +kernel
theorem dX0_sendUp_50 : decode cX0_sendUp 50 = .ok (.getfield 15, 3) := by decide +kernel
theorem dX0_sendUp_53 : decode cX0_sendUp 53 = .ok (.bipush 99, 2) := by decide +kernel
theorem dX0_sendUp_55 : decode cX0_sendUp 55 = .ok (.bipush 99, 2) := by decide +kernel
theorem dX0_sendUp_57 : decode cX0_sendUp 57 = .ok (.invokevirtual 57, 3) := by decide +kernel
theorem dX0_sendUp_60 : decode cX0_sendUp 60 = .ok (.aload_n 0, 1) := by decide +kernel
theorem dX0_sendUp_61 : decode cX0_sendUp 61 = .ok (.getfield 9, 3) := by decide +kernel
theorem dX0_sendUp_64 : decode cX0_sendUp 64 = .ok (.getfield 43, 3) := by decide +kernel
theorem dX0_sendUp_67 : decode cX0_sendUp 67 = .ok (.iload_n 1, 1) := by decide +kernel
theorem dX0_sendUp_68 : decode cX0_sendUp 68 = .ok (.iaload, 1) := by decide +kernel
theorem dX0_sendUp_69 : decode cX0_sendUp 69 = .ok (.invokestatic 61, 3) := by decide +kernel
theorem dX0_sendUp_72 : decode cX0_sendUp 72 = .ok (.istore_n 2, 1) := by decide +kernel
theorem dX0_sendUp_73 : decode cX0_sendUp 73 = .ok (.iload_n 2, 1) := by decide +kernel
theorem dX0_sendUp_74 : decode cX0_sendUp 74 = .ok (.ifCond .le 22, 3) := by decide +kernel
theorem dX0_sendUp_77 : decode cX0_sendUp 77 = .ok (.aload_n 0, 1) := by decide +kernel
theorem dX0_sendUp_78 : decode cX0_sendUp 78 = .ok (.getfield 9, 3) := by decide +kernel
theorem dX0_sendUp_81 : decode cX0_sendUp 81 = .ok (.getfield 43, 3) := by decide +kernel
theorem dX0_sendUp_84 : decode cX0_sendUp 84 = .ok (.iload_n 1, 1) := by decide +kernel
theorem dX0_sendUp_85 : decode cX0_sendUp 85 = .ok (.dup2, 1) := by decide +kernel
theorem dX0_sendUp_86 : decode cX0_sendUp 86 = .ok (.iaload, 1) := by decide +kernel
theorem dX0_sendUp_87 : decode cX0_sendUp 87 = .ok (.iload_n 2, 1) := by decide +kernel
theorem dX0_sendUp_88 : decode cX0_sendUp 88 = .ok (.isub, 1) := by decide +kernel
theorem dX0_sendUp_89 : decode cX0_sendUp 89 = .ok (.iastore, 1) := by decide +kernel
theorem dX0_sendUp_90 : decode cX0_sendUp 90 = .ok (.aload_n 0, 1) := by decide +kernel
theorem dX0_sendUp_91 : decode cX0_sendUp 91 = .ok (.iload_n 1, 1) := by decide +kernel
theorem dX0_sendUp_92 : decode cX0_sendUp 92 = .ok (.iload_n 2, 1) := by decide +kernel
theorem dX0_sendUp_93 : decode cX0_sendUp 93 = .ok (.invokevirtual 66, 3) := by decide +kernel
theorem dX0_sendUp_96 : decode cX0_sendUp 96 = .ok (.return_, 1) := by decide +kernel
theorem dX0_rise_0 : decode cX0_rise 0 = .ok (.iload_n 2, 1) := by decide +kernel
theorem dX0_rise_1 : decode cX0_rise 1 = .ok (.istore_n 3, 1) := by decide +kernel
theorem dX0_rise_2 : decode cX0_rise 2 = .ok (.aload_n 0, 1) := by decide +kernel
theorem dX0_rise_3 : decode cX0_rise 3 = .ok (.getfield 9, 3) := by decide +kernel
theorem dX0_rise_6 : decode cX0_rise 6 = .ok (.iload_n 1, 1) := by decide +kernel
theorem dX0_rise_7 : decode cX0_rise 7 = .ok (.invokevirtual 70, 3) := by decide +kernel
theorem dX0_rise_10 : decode cX0_rise 10 = .ok (.istore 4, 2) := by decide +kernel
theorem dX0_rise_12 : decode cX0_rise 12 = .ok (.iconst 0, 1) := by decide +kernel
theorem dX0_rise_13 : decode cX0_rise 13 = .ok (.istore 5, 2) := by decide +kernel
theorem dX0_rise_15 : decode cX0_rise 15 = .ok (.iload 5, 2) := by decide +kernel
theorem dX0_rise_17 : decode cX0_rise 17 = .ok (.iconst 5, 1) := by decide +kernel
theorem dX0_rise_18 : decode cX0_rise 18 = .ok (.if_icmp .ge 162, 3) := by decide +kernel
theorem dX0_rise_21 : decode cX0_rise 21 = .ok (.iload 4, 2) := by decide +kernel
theorem dX0_rise_23 : decode cX0_rise 23 = .ok (.invokestatic 74, 3) := by decide +kernel
theorem dX0_rise_26 : decode cX0_rise 26 = .ok (.ifCond .eq 154, 3) := by decide +kernel
theorem dX0_rise_29 : decode cX0_rise 29 = .ok (.aload_n 0, 1) := by decide +kernel
theorem dX0_rise_30 : decode cX0_rise 30 = .ok (.getfield 15, 3) := by decide +kernel
theorem dX0_rise_33 : decode cX0_rise 33 = .ok (.aload_n 0, 1) := by decide +kernel
theorem dX0_rise_34 : decode cX0_rise 34 = .ok (.getfield 9, 3) := by decide +kernel
theorem dX0_rise_37 : decode cX0_rise 37 = .ok (.iload_n 1, 1) := by decide +kernel
theorem dX0_rise_38 : decode cX0_rise 38 = .ok (.iload 4, 2) := by decide +kernel
theorem dX0_rise_40 : decode cX0_rise 40 = .ok (.iload_n 3, 1) := by decide +kernel
theorem dX0_rise_41 : decode cX0_rise 41 = .ok (.invokevirtual 47, 3) := by decide +kernel
theorem dX0_rise_44 : decode cX0_rise 44 = .ok (.aload_n 0, 1) := by decide +kernel
theorem dX0_rise_45 : decode cX0_rise 45 = .ok (.getfield 15, 3) := by decide +kernel
theorem dX0_rise_48 : decode cX0_rise 48 = .ok (.bipush 107, 2) := by decide +kernel
theorem dX0_rise_50 : decode cX0_rise 50 = .ok (.bipush 99, 2) := by decide +kernel
theorem dX0_rise_52 : decode cX0_rise 52 = .ok (.invokevirtual 57, 3) := by decide +kernel
theorem dX0_rise_55 : decode cX0_rise 55 = .ok (.iload_n 3, 1) := by decide +kernel
theorem dX0_rise_56 : decode cX0_rise 56 = .ok (.invokestatic 61, 3) := by decide +kernel
theorem dX0_rise_59 : decode cX0_rise 59 = .ok (.istore 6, 2) := by decide +kernel
theorem dX0_rise_61 : decode cX0_rise 61 = .ok (.aload_n 0, 1) := by decide +kernel
theorem dX0_rise_62 : decode cX0_rise 62 = .ok (.getfield 9, 3) := by decide +kernel
theorem dX0_rise_65 : decode cX0_rise 65 = .ok (.iload 4, 2) := by decide +kernel
theorem dX0_rise_67 : decode cX0_rise 67 = .ok (.iload 6, 2) := by decide +kernel
theorem dX0_rise_69 : decode cX0_rise 69 = .ok (.invokevirtual 77, 3) := by decide +kernel
theorem dX0_rise_72 : decode cX0_rise 72 = .ok (.aload_n 0, 1) := by decide +kernel
theorem dX0_rise_73 : decode cX0_rise 73 = .ok (.dup, 1) := by decide +kernel
theorem dX0_rise_74 : decode cX0_rise 74 = .ok (.getfield 23, 3) := by decide +kernel
theorem dX0_rise_77 : decode cX0_rise 77 = .ok (.iload 6, 2) := by decide +kernel
theorem dX0_rise_79 : decode cX0_rise 79 = .ok (.iadd, 1) := by decide +kernel
theorem dX0_rise_80 : decode cX0_rise 80 = .ok (.putfield 23, 3) := by decide +kernel
theorem dX0_rise_83 : decode cX0_rise 83 = .ok (.iload_n 3, 1) := by decide +kernel
theorem dX0_rise_84 : decode cX0_rise 84 = .ok (.iload 6, 2) := by decide +kernel
theorem dX0_rise_86 : decode cX0_rise 86 = .ok (.isub, 1) := by decide +kernel
theorem dX0_rise_87 : decode cX0_rise 87 = .ok (.istore_n 3, 1) := by decide +kernel
theorem dX0_rise_88 : decode cX0_rise 88 = .ok (.iload_n 3, 1) := by decide +kernel
theorem dX0_rise_89 : decode cX0_rise 89 = .ok (.ifCond .ne 4, 3) := by decide +kernel
theorem dX0_rise_92 : decode cX0_rise 92 = .ok (.return_, 1) := by decide +kernel
theorem dX0_rise_93 : decode cX0_rise 93 = .ok (.aload_n 0, 1) := by decide +kernel
theorem dX0_rise_94 : decode cX0_rise 94 = .ok (.getfield 15, 3) := by decide +kernel
theorem dX0_rise_97 : decode cX0_rise 97 = .ok (.aload_n 0, 1) := by decide +kernel
theorem dX0_rise_98 : decode cX0_rise 98 = .ok (.getfield 9, 3) := by decide +kernel
theorem dX0_rise_101 : decode cX0_rise 101 = .ok (.iload_n 1, 1) := by decide +kernel
theorem dX0_rise_102 : decode cX0_rise 102 = .ok (.iload 4, 2) := by decide +kernel
theorem dX0_rise_104 : decode cX0_rise 104 = .ok (.iload_n 3, 1) := by decide +kernel
theorem dX0_rise_105 : decode cX0_rise 105 = .ok (.invokevirtual 47, 3) := by decide +kernel
theorem dX0_rise_108 : decode cX0_rise 108 = .ok (.aload_n 0, 1) := by decide +kernel
theorem dX0_rise_109 : decode cX0_rise 109 = .ok (.getfield 9, 3) := by decide +kernel
theorem dX0_rise_112 : decode cX0_rise 112 = .ok (.iload 4, 2) := by decide +kernel
theorem dX0_rise_114 : decode cX0_rise 114 = .ok (.invokevirtual 39, 3) := by decide +kernel
theorem dX0_rise_117 : decode cX0_rise 117 = .ok (.ifCond .eq 46, 3) := by decide +kernel
theorem dX0_rise_120 : decode cX0_rise 120 = .ok (.aload_n 0, 1) := by decide +kernel
theorem dX0_rise_121 : decode cX0_rise 121 = .ok (.getfield 9, 3) := by decide +kernel
theorem dX0_rise_124 : decode cX0_rise 124 = .ok (.invokevirtual 80, 3) := by decide +kernel
theorem dX0_rise_127 : decode cX0_rise 127 = .ok (.aload_n 0, 1) := by decide +kernel
theorem dX0_rise_128 : decode cX0_rise 128 = .ok (.getfield 15, 3) := by decide +kernel
theorem dX0_rise_131 : decode cX0_rise 131 = .ok (.bipush 100, 2) := by decide +kernel
theorem dX0_rise_133 : decode cX0_rise 133 = .ok (.bipush 10, 2) := by decide +kernel
theorem dX0_rise_135 : decode cX0_rise 135 = .ok (.invokevirtual 57, 3) := by decide +kernel
theorem dX0_rise_138 : decode cX0_rise 138 = .ok (.if_icmp .ge 25, 3) := by decide +kernel
theorem dX0_rise_141 : decode cX0_rise 141 = .ok (.aload_n 0, 1) := by decide +kernel
theorem dX0_rise_142 : decode cX0_rise 142 = .ok (.getfield 9, 3) := by decide +kernel
theorem dX0_rise_145 : decode cX0_rise 145 = .ok (.iload 4, 2) := by decide +kernel
theorem dX0_rise_147 : decode cX0_rise 147 = .ok (.iload_n 1, 1) := by decide +kernel
theorem dX0_rise_148 : decode cX0_rise 148 = .ok (.iload_n 3, 1) := by decide +kernel
theorem dX0_rise_149 : decode cX0_rise 149 = .ok (.invokevirtual 84, 3) := by decide +kernel
theorem dX0_rise_152 : decode cX0_rise 152 = .ok (.aload_n 0, 1) := by decide +kernel
theorem dX0_rise_153 : decode cX0_rise 153 = .ok (.dup, 1) := by decide +kernel
theorem dX0_rise_154 : decode cX0_rise 154 = .ok (.getfield 19, 3) := by decide +kernel
theorem dX0_rise_157 : decode cX0_rise 157 = .ok (.iload_n 3, 1) := by decide +kernel
theorem dX0_rise_158 : decode cX0_rise 158 = .ok (.iadd, 1) := by decide +kernel
theorem dX0_rise_159 : decode cX0_rise 159 = .ok (.putfield 19, 3) := by decide +kernel
theorem dX0_rise_162 : decode cX0_rise 162 = .ok (.return_, 1) := by decide +kernel
theorem dX0_rise_163 : decode cX0_rise 163 = .ok (.aload_n 0, 1) := by decide +kernel
theorem dX0_rise_164 : decode cX0_rise 164 = .ok (.getfield 9, 3) := by decide +kernel
theorem dX0_rise_167 : decode cX0_rise 167 = .ok (.iload 4, 2) := by decide +kernel
theorem dX0_rise_169 : decode cX0_rise 169 = .ok (.invokevirtual 70, 3) := by decide +kernel
theorem dX0_rise_172 : decode cX0_rise 172 = .ok (.istore 4, 2) := by decide +kernel
theorem dX0_rise_174 : decode cX0_rise 174 = .ok (.iinc 5 1, 3) := by decide +kernel
theorem dX0_rise_177 : decode cX0_rise 177 = .ok (.goto (-162), 3) := by decide +kernel
theorem dX0_rise_180 : decode cX0_rise 180 = .ok (.aload_n 0, 1) := by decide +kernel
theorem dX0_rise_181 : decode cX0_rise 181 = .ok (.getfield 9, 3) := by decide +kernel
theorem dX0_rise_184 : decode cX0_rise 184 = .ok (.ldc 88, 2) := by decide +kernel
theorem dX0_rise_186 : decode cX0_rise 186 = .ok (.aload_n 0, 1) := by decide +kernel
theorem dX0_rise_187 : decode cX0_rise 187 = .ok (.getfield 9, 3) := by decide +kernel
theorem dX0_rise_190 : decode cX0_rise 190 = .ok (.getfield 89, 3) := by decide +kernel
theorem dX0_rise_193 : decode cX0_rise 193 = .ok (.iload_n 3, 1) := by decide +kernel
theorem dX0_rise_194 : decode cX0_rise 194 = .ok (.iadd, 1) := by decide +kernel
theorem dX0_rise_195 : decode cX0_rise 195 = .ok (.invokestatic 61, 3) := by decide +kernel
theorem dX0_rise_198 : decode cX0_rise 198 = .ok (.putfield 89, 3) := by decide +kernel
theorem dX0_rise_201 : decode cX0_rise 201 = .ok (.aload_n 0, 1) := by decide +kernel
theorem dX0_rise_202 : decode cX0_rise 202 = .ok (.dup, 1) := by decide +kernel
theorem dX0_rise_203 : decode cX0_rise 203 = .ok (.getfield 26, 3) := by decide +kernel
theorem dX0_rise_206 : decode cX0_rise 206 = .ok (.iload_n 3, 1) := by decide +kernel
theorem dX0_rise_207 : decode cX0_rise 207 = .ok (.iadd, 1) := by decide +kernel
theorem dX0_rise_208 : decode cX0_rise 208 = .ok (.putfield 26, 3) := by decide +kernel
theorem dX0_rise_211 : decode cX0_rise 211 = .ok (.return_, 1) := by decide +kernel
theorem dX1_init_0 : decode cX1_init 0 = .ok (.aload_n 0, 1) := by decide +kernel
theorem dX1_init_1 : decode cX1_init 1 = .ok (.invokespecial 3, 3) := by decide +kernel
theorem dX1_init_4 : decode cX1_init 4 = .ok (.aload_n 0, 1) := by decide +kernel
theorem dX1_init_5 : decode cX1_init 5 = .ok (.bipush 6, 2) := by decide +kernel
theorem dX1_init_7 : decode cX1_init 7 = .ok (.newarray .int, 2) := by decide +kernel
theorem dX1_init_9 : decode cX1_init 9 = .ok (.putfield 9, 3) := by decide +kernel
theorem dX1_init_12 : decode cX1_init 12 = .ok (.aload_n 0, 1) := by decide +kernel
theorem dX1_init_13 : decode cX1_init 13 = .ok (.bipush 6, 2) := by decide +kernel
theorem dX1_init_15 : decode cX1_init 15 = .ok (.newarray .int, 2) := by decide +kernel
theorem dX1_init_17 : decode cX1_init 17 = .ok (.putfield 15, 3) := by decide +kernel
theorem dX1_init_20 : decode cX1_init 20 = .ok (.aload_n 0, 1) := by decide +kernel
theorem dX1_init_21 : decode cX1_init 21 = .ok (.bipush 6, 2) := by decide +kernel
theorem dX1_init_23 : decode cX1_init 23 = .ok (.newarray .int, 2) := by decide +kernel
theorem dX1_init_25 : decode cX1_init 25 = .ok (.putfield 18, 3) := by decide +kernel
theorem dX1_init_28 : decode cX1_init 28 = .ok (.aload_n 0, 1) := by decide +kernel
theorem dX1_init_29 : decode cX1_init 29 = .ok (.bipush 6, 2) := by decide +kernel
theorem dX1_init_31 : decode cX1_init 31 = .ok (.newarray .int, 2) := by decide +kernel
theorem dX1_init_33 : decode cX1_init 33 = .ok (.putfield 21, 3) := by decide +kernel
theorem dX1_init_36 : decode cX1_init 36 = .ok (.return_, 1) := by decide +kernel
theorem dX1_share_0 : decode cX1_share 0 = .ok (.aload_n 0, 1) := by decide +kernel
theorem dX1_share_1 : decode cX1_share 1 = .ok (.iload_n 2, 1) := by decide +kernel
theorem dX1_share_2 : decode cX1_share 2 = .ok (.bipush 6, 2) := by decide +kernel
theorem dX1_share_4 : decode cX1_share 4 = .ok (.invokestatic 24, 3) := by decide +kernel
theorem dX1_share_7 : decode cX1_share 7 = .ok (.putfield 30, 3) := by decide +kernel
theorem dX1_share_10 : decode cX1_share 10 = .ok (.iconst 0, 1) := by decide +kernel
theorem dX1_share_11 : decode cX1_share 11 = .ok (.istore 5, 2) := by decide +kernel
theorem dX1_share_13 : decode cX1_share 13 = .ok (.iload 5, 2) := by decide +kernel
theorem dX1_share_15 : decode cX1_share 15 = .ok (.aload_n 0, 1) := by decide +kernel
theorem dX1_share_16 : decode cX1_share 16 = .ok (.getfield 30, 3) := by decide +kernel
theorem dX1_share_19 : decode cX1_share 19 = .ok (.if_icmp .ge 22, 3) := by decide +kernel
theorem dX1_share_22 : decode cX1_share 22 = .ok (.aload_n 0, 1) := by decide +kernel
theorem dX1_share_23 : decode cX1_share 23 = .ok (.getfield 9, 3) := by decide +kernel
theorem dX1_share_26 : decode cX1_share 26 = .ok (.iload 5, 2) := by decide +kernel
theorem dX1_share_28 : decode cX1_share 28 = .ok (.aload_n 1, 1) := by decide +kernel
theorem dX1_share_29 : decode cX1_share 29 = .ok (.iload 5, 2) := by decide +kernel
theorem dX1_share_31 : decode cX1_share 31 = .ok (.invokevirtual 34, 3) := by decide +kernel
theorem dX1_share_34 : decode cX1_share 34 = .ok (.iastore, 1) := by decide +kernel
theorem dX1_share_35 : decode cX1_share 35 = .ok (.iinc 5 1, 3) := by decide +kernel
theorem dX1_share_38 : decode cX1_share 38 = .ok (.goto (-25), 3) := by decide +kernel
theorem dX1_share_41 : decode cX1_share 41 = .ok (.iconst 0, 1) := by decide +kernel
theorem dX1_share_42 : decode cX1_share 42 = .ok (.istore 5, 2) := by decide +kernel
theorem dX1_share_44 : decode cX1_share 44 = .ok (.iconst 0, 1) := by decide +kernel
theorem dX1_share_45 : decode cX1_share 45 = .ok (.istore 6, 2) := by decide +kernel
theorem dX1_share_47 : decode cX1_share 47 = .ok (.iload 6, 2) := by decide +kernel
theorem dX1_share_49 : decode cX1_share 49 = .ok (.bipush 24, 2) := by decide +kernel
theorem dX1_share_51 : decode cX1_share 51 = .ok (.if_icmp .ge 46, 3) := by decide +kernel
theorem dX1_share_54 : decode cX1_share 54 = .ok (.iload 4, 2) := by decide +kernel
theorem dX1_share_56 : decode cX1_share 56 = .ok (.iload 6, 2) := by decide +kernel
theorem dX1_share_58 : decode cX1_share 58 = .ok (.ishr, 1) := by decide +kernel
theorem dX1_share_59 : decode cX1_share 59 = .ok (.iconst 1, 1) := by decide +kernel
theorem dX1_share_60 : decode cX1_share 60 = .ok (.iand, 1) := by decide +kernel
theorem dX1_share_61 : decode cX1_share 61 = .ok (.iconst 1, 1) := by decide +kernel
theorem dX1_share_62 : decode cX1_share 62 = .ok (.if_icmp .ne 29, 3) := by decide +kernel
theorem dX1_share_65 : decode cX1_share 65 = .ok (.iload 5, 2) := by decide +kernel
theorem dX1_share_67 : decode cX1_share 67 = .ok (.aload_n 0, 1) := by decide +kernel
theorem dX1_share_68 : decode cX1_share 68 = .ok (.getfield 30, 3) := by decide +kernel
theorem dX1_share_71 : decode cX1_share 71 = .ok (.if_icmp .ge 20, 3) := by decide +kernel
theorem dX1_share_74 : decode cX1_share 74 = .ok (.aload_n 0, 1) := by decide +kernel
theorem dX1_share_75 : decode cX1_share 75 = .ok (.getfield 15, 3) := by decide +kernel
theorem dX1_share_78 : decode cX1_share 78 = .ok (.iload 5, 2) := by decide +kernel
theorem dX1_share_80 : decode cX1_share 80 = .ok (.aload_n 3, 1) := by decide +kernel
theorem dX1_share_81 : decode cX1_share 81 = .ok (.getfield 40, 3) := by decide +kernel
theorem dX1_share_84 : decode cX1_share 84 = .ok (.iload 6, 2) := by decide +kernel
theorem dX1_share_86 : decode cX1_share 86 = .ok (.iaload, 1) := by decide +kernel
theorem dX1_share_87 : decode cX1_share 87 = .ok (.iastore, 1) := by decide +kernel
theorem dX1_share_88 : decode cX1_share 88 = .ok (.iinc 5 1, 3) := by decide +kernel
theorem dX1_share_91 : decode cX1_share 91 = .ok (.iinc 6 1, 3) := by decide +kernel
theorem dX1_share_94 : decode cX1_share 94 = .ok (.goto (-47), 3) := by decide +kernel
theorem dX1_share_97 : decode cX1_share 97 = .ok (.aload_n 0, 1) := by decide +kernel
theorem dX1_share_98 : decode cX1_share 98 = .ok (.ldc2_w 43, 3) := by decide +kernel
theorem dX1_share_101 : decode cX1_share 101 = .ok (.putfield 45, 3) := by decide +kernel
theorem dX1_share_104 : decode cX1_share 104 = .ok (.aload_n 0, 1) := by decide +kernel
theorem dX1_share_105 : decode cX1_share 105 = .ok (.iconst 0, 1) := by decide +kernel
theorem dX1_share_106 : decode cX1_share 106 = .ok (.iconst 0, 1) := by decide +kernel
theorem dX1_share_107 : decode cX1_share 107 = .ok (.lconst 0, 1) := by decide +kernel
theorem dX1_share_108 : decode cX1_share 108 = .ok (.invokevirtual 49, 3) := by decide +kernel
theorem dX1_share_111 : decode cX1_share 111 = .ok (.return_, 1) := by decide +kernel
theorem dX1_fill_0 : decode cX1_fill 0 = .ok (.iload_n 1, 1) := by decide +kernel
theorem dX1_fill_1 : decode cX1_fill 1 = .ok (.aload_n 0, 1) := by decide +kernel
theorem dX1_fill_2 : decode cX1_fill 2 = .ok (.getfield 30, 3) := by decide +kernel
theorem dX1_fill_5 : decode cX1_fill 5 = .ok (.if_icmp .lt 35, 3) := by decide +kernel
theorem dX1_fill_8 : decode cX1_fill 8 = .ok (.lload_n 3, 1) := by decide +kernel
theorem dX1_fill_9 : decode cX1_fill 9 = .ok (.aload_n 0, 1) := by decide +kernel
theorem dX1_fill_10 : decode cX1_fill 10 = .ok (.getfield 45, 3) := by decide +kernel
theorem dX1_fill_13 : decode cX1_fill 13 = .ok (.lcmp, 1) := by decide +kernel
theorem dX1_fill_14 : decode cX1_fill 14 = .ok (.ifCond .ge 25, 3) := by decide +kernel
theorem dX1_fill_17 : decode cX1_fill 17 = .ok (.aload_n 0, 1) := by decide +kernel
theorem dX1_fill_18 : decode cX1_fill 18 = .ok (.lload_n 3, 1) := by decide +kernel
theorem dX1_fill_19 : decode cX1_fill 19 = .ok (.putfield 45, 3) := by decide +kernel
theorem dX1_fill_22 : decode cX1_fill 22 = .ok (.aload_n 0, 1) := by decide +kernel
theorem dX1_fill_23 : decode cX1_fill 23 = .ok (.getfield 18, 3) := by decide +kernel
theorem dX1_fill_26 : decode cX1_fill 26 = .ok (.iconst 0, 1) := by decide +kernel
theorem dX1_fill_27 : decode cX1_fill 27 = .ok (.aload_n 0, 1) := by decide +kernel
theorem dX1_fill_28 : decode cX1_fill 28 = .ok (.getfield 21, 3) := by decide +kernel
theorem dX1_fill_31 : decode cX1_fill 31 = .ok (.iconst 0, 1) := by decide +kernel
theorem dX1_fill_32 : decode cX1_fill 32 = .ok (.aload_n 0, 1) := by decide +kernel
theorem dX1_fill_33 : decode cX1_fill 33 = .ok (.getfield 30, 3) := by decide +kernel
theorem dX1_fill_36 : decode cX1_fill 36 = .ok (.invokestatic 53, 3) := by decide +kernel
theorem dX1_fill_39 : decode cX1_fill 39 = .ok (.return_, 1) := by decide +kernel
theorem dX1_fill_40 : decode cX1_fill 40 = .ok (.iconst 0, 1) := by decide +kernel
theorem dX1_fill_41 : decode cX1_fill 41 = .ok (.istore 5, 2) := by decide +kernel
theorem dX1_fill_43 : decode cX1_fill 43 = .ok (.iload 5, 2) := by decide +kernel
theorem dX1_fill_45 : decode cX1_fill 45 = .ok (.aload_n 0, 1) := by decide +kernel
theorem dX1_fill_46 : decode cX1_fill 46 = .ok (.getfield 30, 3) := by decide +kernel
theorem dX1_fill_49 : decode cX1_fill 49 = .ok (.if_icmp .ge 57, 3) := by decide +kernel
theorem dX1_fill_52 : decode cX1_fill 52 = .ok (.iload_n 2, 1) := by decide +kernel
theorem dX1_fill_53 : decode cX1_fill 53 = .ok (.iload 5, 2) := by decide +kernel
theorem dX1_fill_55 : decode cX1_fill 55 = .ok (.ishr, 1) := by decide +kernel
theorem dX1_fill_56 : decode cX1_fill 56 = .ok (.iconst 1, 1) := by decide +kernel
theorem dX1_fill_57 : decode cX1_fill 57 = .ok (.iand, 1) := by decide +kernel
theorem dX1_fill_58 : decode cX1_fill 58 = .ok (.ifCond .ne 42, 3) := by decide +kernel
theorem dX1_fill_61 : decode cX1_fill 61 = .ok (.aload_n 0, 1) := by decide +kernel
theorem dX1_fill_62 : decode cX1_fill 62 = .ok (.getfield 18, 3) := by decide +kernel
theorem dX1_fill_65 : decode cX1_fill 65 = .ok (.iload_n 1, 1) := by decide +kernel
theorem dX1_fill_66 : decode cX1_fill 66 = .ok (.iload 5, 2) := by decide +kernel
theorem dX1_fill_68 : decode cX1_fill 68 = .ok (.iastore, 1) := by decide +kernel
theorem dX1_fill_69 : decode cX1_fill 69 = .ok (.aload_n 0, 1) := by decide +kernel
theorem dX1_fill_70 : decode cX1_fill 70 = .ok (.iload_n 1, 1) := by decide +kernel
theorem dX1_fill_71 : decode cX1_fill 71 = .ok (.iconst 1, 1) := by decide +kernel
theorem dX1_fill_72 : decode cX1_fill 72 = .ok (.iadd, 1) := by decide +kernel
theorem dX1_fill_73 : decode cX1_fill 73 = .ok (.iload_n 2, 1) := by decide +kernel
theorem dX1_fill_74 : decode cX1_fill 74 = .ok (.iconst 1, 1) := by decide +kernel
theorem dX1_fill_75 : decode cX1_fill 75 = .ok (.iload 5, 2) := by decide +kernel
theorem dX1_fill_77 : decode cX1_fill 77 = .ok (.ishl, 1) := by decide +kernel
theorem dX1_fill_78 : decode cX1_fill 78 = .ok (.ior, 1) := by decide +kernel
theorem dX1_fill_79 : decode cX1_fill 79 = .ok (.lload_n 3, 1) := by decide +kernel
theorem dX1_fill_80 : decode cX1_fill 80 = .ok (.aload_n 0, 1) := by decide +kernel
theorem dX1_fill_81 : decode cX1_fill 81 = .ok (.getfield 9, 3) := by decide +kernel
theorem dX1_fill_84 : decode cX1_fill 84 = .ok (.iload 5, 2) := by decide +kernel
theorem dX1_fill_86 : decode cX1_fill 86 = .ok (.iaload, 1) := by decide +kernel
theorem dX1_fill_87 : decode cX1_fill 87 = .ok (.i2l, 1) := by decide +kernel
theorem dX1_fill_88 : decode cX1_fill 88 = .ok (.aload_n 0, 1) := by decide +kernel
theorem dX1_fill_89 : decode cX1_fill 89 = .ok (.getfield 15, 3) := by decide +kernel
theorem dX1_fill_92 : decode cX1_fill 92 = .ok (.iload_n 1, 1) := by decide +kernel
theorem dX1_fill_93 : decode cX1_fill 93 = .ok (.iaload, 1) := by decide +kernel
theorem dX1_fill_94 : decode cX1_fill 94 = .ok (.i2l, 1) := by decide +kernel
theorem dX1_fill_95 : decode cX1_fill 95 = .ok (.lmul, 1) := by decide +kernel
theorem dX1_fill_96 : decode cX1_fill 96 = .ok (.ladd, 1) := by decide +kernel
theorem dX1_fill_97 : decode cX1_fill 97 = .ok (.invokevirtual 49, 3) := by decide +kernel
theorem dX1_fill_100 : decode cX1_fill 100 = .ok (.iinc 5 1, 3) := by decide +kernel
theorem dX1_fill_103 : decode cX1_fill 103 = .ok (.goto (-60), 3) := by decide +kernel
theorem dX1_fill_106 : decode cX1_fill 106 = .ok (.return_, 1) := by decide +kernel
theorem dX2_init_0 : decode cX2_init 0 = .ok (.aload_n 0, 1) := by decide +kernel
theorem dX2_init_1 : decode cX2_init 1 = .ok (.invokespecial 3, 3) := by decide +kernel
theorem dX2_init_4 : decode cX2_init 4 = .ok (.aload_n 0, 1) := by decide +kernel
theorem dX2_init_5 : decode cX2_init 5 = .ok (.bipush 24, 2) := by decide +kernel
theorem dX2_init_7 : decode cX2_init 7 = .ok (.newarray .int, 2) := by decide +kernel
theorem dX2_init_9 : decode cX2_init 9 = .ok (.putfield 9, 3) := by decide +kernel
theorem dX2_init_12 : decode cX2_init 12 = .ok (.aload_n 0, 1) := by decide +kernel
theorem dX2_init_13 : decode cX2_init 13 = .ok (.bipush 24, 2) := by decide +kernel
theorem dX2_init_15 : decode cX2_init 15 = .ok (.newarray .int, 2) := by decide +kernel
theorem dX2_init_17 : decode cX2_init 17 = .ok (.putfield 15, 3) := by decide +kernel
theorem dX2_init_20 : decode cX2_init 20 = .ok (.return_, 1) := by decide +kernel
theorem dX2_turned_0 : decode cX2_turned 0 = .ok (.aload_n 0, 1) := by decide +kernel
theorem dX2_turned_1 : decode cX2_turned 1 = .ok (.aload_n 1, 1) := by decide +kernel
theorem dX2_turned_2 : decode cX2_turned 2 = .ok (.iload_n 3, 1) := by decide +kernel
theorem dX2_turned_3 : decode cX2_turned 3 = .ok (.invokevirtual 18, 3) := by decide +kernel
theorem dX2_turned_6 : decode cX2_turned 6 = .ok (.aload_n 0, 1) := by decide +kernel
theorem dX2_turned_7 : decode cX2_turned 7 = .ok (.getfield 9, 3) := by decide +kernel
theorem dX2_turned_10 : decode cX2_turned 10 = .ok (.iload_n 2, 1) := by decide +kernel
theorem dX2_turned_11 : decode cX2_turned 11 = .ok (.iaload, 1) := by decide +kernel
theorem dX2_turned_12 : decode cX2_turned 12 = .ok (.sipush 1000, 3) := by decide +kernel
theorem dX2_turned_15 : decode cX2_turned 15 = .ok (.if_icmp .lt 6, 3) := by decide +kernel
theorem dX2_turned_18 : decode cX2_turned 18 = .ok (.bipush (-2), 2) := by decide +kernel
theorem dX2_turned_20 : decode cX2_turned 20 = .ok (.ireturn, 1) := by decide +kernel
theorem dX2_turned_21 : decode cX2_turned 21 = .ok (.iload 4, 2) := by decide +kernel
theorem dX2_turned_23 : decode cX2_turned 23 = .ok (.bipush 100, 2) := by decide +kernel
theorem dX2_turned_25 : decode cX2_turned 25 = .ok (.if_icmp .ne 10, 3) := by decide +kernel
theorem dX2_turned_28 : decode cX2_turned 28 = .ok (.aload_n 0, 1) := by decide +kernel
theorem dX2_turned_29 : decode cX2_turned 29 = .ok (.getfield 9, 3) := by decide +kernel
theorem dX2_turned_32 : decode cX2_turned 32 = .ok (.iload_n 2, 1) := by decide +kernel
theorem dX2_turned_33 : decode cX2_turned 33 = .ok (.iaload, 1) := by decide +kernel
theorem dX2_turned_34 : decode cX2_turned 34 = .ok (.ireturn, 1) := by decide +kernel
theorem dX2_turned_35 : decode cX2_turned 35 = .ok (.iload 4, 2) := by decide +kernel
theorem dX2_turned_37 : decode cX2_turned 37 = .ok (.iload_n 3, 1) := by decide +kernel
theorem dX2_turned_38 : decode cX2_turned 38 = .ok (.invokestatic 22, 3) := by decide +kernel
theorem dX2_turned_41 : decode cX2_turned 41 = .ok (.iload_n 2, 1) := by decide +kernel
theorem dX2_turned_42 : decode cX2_turned 42 = .ok (.invokestatic 22, 3) := by decide +kernel
theorem dX2_turned_45 : decode cX2_turned 45 = .ok (.isub, 1) := by decide +kernel
theorem dX2_turned_46 : decode cX2_turned 46 = .ok (.if_icmp .lt 6, 3) := by decide +kernel
theorem dX2_turned_49 : decode cX2_turned 49 = .ok (.bipush (-4), 2) := by decide +kernel
theorem dX2_turned_51 : decode cX2_turned 51 = .ok (.ireturn, 1) := by decide +kernel
theorem dX2_turned_52 : decode cX2_turned 52 = .ok (.iload_n 2, 1) := by decide +kernel
theorem dX2_turned_53 : decode cX2_turned 53 = .ok (.istore 5, 2) := by decide +kernel
theorem dX2_turned_55 : decode cX2_turned 55 = .ok (.iconst 0, 1) := by decide +kernel
theorem dX2_turned_56 : decode cX2_turned 56 = .ok (.istore 6, 2) := by decide +kernel
theorem dX2_turned_58 : decode cX2_turned 58 = .ok (.iload 6, 2) := by decide +kernel
theorem dX2_turned_60 : decode cX2_turned 60 = .ok (.iload 4, 2) := by decide +kernel
theorem dX2_turned_62 : decode cX2_turned 62 = .ok (.if_icmp .gt 18, 3) := by decide +kernel
theorem dX2_turned_65 : decode cX2_turned 65 = .ok (.aload_n 0, 1) := by decide +kernel
theorem dX2_turned_66 : decode cX2_turned 66 = .ok (.aload_n 1, 1) := by decide +kernel
theorem dX2_turned_67 : decode cX2_turned 67 = .ok (.iload 5, 2) := by decide +kernel
theorem dX2_turned_69 : decode cX2_turned 69 = .ok (.invokevirtual 26, 3) := by decide +kernel
theorem dX2_turned_72 : decode cX2_turned 72 = .ok (.istore 5, 2) := by decide +kernel
theorem dX2_turned_74 : decode cX2_turned 74 = .ok (.iinc 6 1, 3) := by decide +kernel
theorem dX2_turned_77 : decode cX2_turned 77 = .ok (.goto (-19), 3) := by decide +kernel
theorem dX2_turned_80 : decode cX2_turned 80 = .ok (.iload 5, 2) := by decide +kernel
theorem dX2_turned_82 : decode cX2_turned 82 = .ok (.invokestatic 30, 3) := by decide +kernel
theorem dX2_turned_85 : decode cX2_turned 85 = .ok (.ireturn, 1) := by decide +kernel
theorem dX2_numberOfRows_0 : decode cX2_numberOfRows 0 = .ok (.aload_n 0, 1) := by decide +kernel
theorem dX2_numberOfRows_1 : decode cX2_numberOfRows 1 = .ok (.getfield 9, 3) := by decide +kernel
theorem dX2_numberOfRows_4 : decode cX2_numberOfRows 4 = .ok (.iconst 0, 1) := by decide +kernel
theorem dX2_numberOfRows_5 : decode cX2_numberOfRows 5 = .ok (.invokestatic 33, 3) := by decide +kernel
theorem dX2_numberOfRows_8 : decode cX2_numberOfRows 8 = .ok (.aload_n 0, 1) := by decide +kernel
theorem dX2_numberOfRows_9 : decode cX2_numberOfRows 9 = .ok (.getfield 9, 3) := by decide +kernel
theorem dX2_numberOfRows_12 : decode cX2_numberOfRows 12 = .ok (.iload_n 2, 1) := by decide +kernel
theorem dX2_numberOfRows_13 : decode cX2_numberOfRows 13 = .ok (.iconst 1, 1) := by decide +kernel
theorem dX2_numberOfRows_14 : decode cX2_numberOfRows 14 = .ok (.iastore, 1) := by decide +kernel
theorem dX2_numberOfRows_15 : decode cX2_numberOfRows 15 = .ok (.iload_n 2, 1) := by decide +kernel
theorem dX2_numberOfRows_16 : decode cX2_numberOfRows 16 = .ok (.invokestatic 22, 3) := by decide +kernel
theorem dX2_numberOfRows_19 : decode cX2_numberOfRows 19 = .ok (.iconst 4, 1) := by decide +kernel
theorem dX2_numberOfRows_20 : decode cX2_numberOfRows 20 = .ok (.imul, 1) := by decide +kernel
theorem dX2_numberOfRows_21 : decode cX2_numberOfRows 21 = .ok (.iconst 1, 1) := by decide +kernel
theorem dX2_numberOfRows_22 : decode cX2_numberOfRows 22 = .ok (.isub, 1) := by decide +kernel
theorem dX2_numberOfRows_23 : decode cX2_numberOfRows 23 = .ok (.istore_n 3, 1) := by decide +kernel
theorem dX2_numberOfRows_24 : decode cX2_numberOfRows 24 = .ok (.iload_n 3, 1) := by decide +kernel
theorem dX2_numberOfRows_25 : decode cX2_numberOfRows 25 = .ok (.ifCond .lt 46, 3) := by decide +kernel
theorem dX2_numberOfRows_28 : decode cX2_numberOfRows 28 = .ok (.iload_n 3, 1) := by decide +kernel
theorem dX2_numberOfRows_29 : decode cX2_numberOfRows 29 = .ok (.invokestatic 39, 3) := by decide +kernel
theorem dX2_numberOfRows_32 : decode cX2_numberOfRows 32 = .ok (.istore 4, 2) := by decide +kernel
theorem dX2_numberOfRows_34 : decode cX2_numberOfRows 34 = .ok (.iload 4, 2) := by decide +kernel
theorem dX2_numberOfRows_36 : decode cX2_numberOfRows 36 = .ok (.iload_n 3, 1) := by decide +kernel
theorem dX2_numberOfRows_37 : decode cX2_numberOfRows 37 = .ok (.invokestatic 42, 3) := by decide +kernel
theorem dX2_numberOfRows_40 : decode cX2_numberOfRows 40 = .ok (.if_icmp .gt 25, 3) := by decide +kernel
theorem dX2_numberOfRows_43 : decode cX2_numberOfRows 43 = .ok (.aload_n 0, 1) := by decide +kernel
theorem dX2_numberOfRows_44 : decode cX2_numberOfRows 44 = .ok (.getfield 9, 3) := by decide +kernel
theorem dX2_numberOfRows_47 : decode cX2_numberOfRows 47 = .ok (.iload_n 3, 1) := by decide +kernel
theorem dX2_numberOfRows_48 : decode cX2_numberOfRows 48 = .ok (.dup2, 1) := by decide +kernel
theorem dX2_numberOfRows_49 : decode cX2_numberOfRows 49 = .ok (.iaload, 1) := by decide +kernel
theorem dX2_numberOfRows_50 : decode cX2_numberOfRows 50 = .ok (.aload_n 0, 1) := by decide +kernel
theorem dX2_numberOfRows_51 : decode cX2_numberOfRows 51 = .ok (.getfield 9, 3) := by decide +kernel
theorem dX2_numberOfRows_54 : decode cX2_numberOfRows 54 = .ok (.iload 4, 2) := by decide +kernel
theorem dX2_numberOfRows_56 : decode cX2_numberOfRows 56 = .ok (.iaload, 1) := by decide +kernel
theorem dX2_numberOfRows_57 : decode cX2_numberOfRows 57 = .ok (.iadd, 1) := by decide +kernel
theorem dX2_numberOfRows_58 : decode cX2_numberOfRows 58 = .ok (.iastore, 1) := by decide +kernel
theorem dX2_numberOfRows_59 : decode cX2_numberOfRows 59 = .ok (.iinc 4 1, 3) := by decide +kernel
theorem dX2_numberOfRows_62 : decode cX2_numberOfRows 62 = .ok (.goto (-28), 3) := by decide +kernel
theorem dX2_numberOfRows_65 : decode cX2_numberOfRows 65 = .ok (.iinc 3 (-1), 3) := by decide +kernel
theorem dX2_numberOfRows_68 : decode cX2_numberOfRows 68 = .ok (.goto (-44), 3) := by decide +kernel
theorem dX2_numberOfRows_71 : decode cX2_numberOfRows 71 = .ok (.aload_n 0, 1) := by decide +kernel
theorem dX2_numberOfRows_72 : decode cX2_numberOfRows 72 = .ok (.getfield 9, 3) := by decide +kernel
theorem dX2_numberOfRows_75 : decode cX2_numberOfRows 75 = .ok (.iload_n 1, 1) := by decide +kernel
theorem dX2_numberOfRows_76 : decode cX2_numberOfRows 76 = .ok (.iaload, 1) := by decide +kernel
theorem dX2_numberOfRows_77 : decode cX2_numberOfRows 77 = .ok (.ireturn, 1) := by decide +kernel
theorem dX2_fewestShut_0 : decode cX2_fewestShut 0 = .ok (.aload_n 0, 1) := by decide +kernel
theorem dX2_fewestShut_1 : decode cX2_fewestShut 1 = .ok (.getfield 9, 3) := by decide +kernel
theorem dX2_fewestShut_4 : decode cX2_fewestShut 4 = .ok (.iconst 0, 1) := by decide +kernel
theorem dX2_fewestShut_5 : decode cX2_fewestShut 5 = .ok (.invokestatic 33, 3) := by decide +kernel
theorem dX2_fewestShut_8 : decode cX2_fewestShut 8 = .ok (.aload_n 0, 1) := by decide +kernel
theorem dX2_fewestShut_9 : decode cX2_fewestShut 9 = .ok (.getfield 15, 3) := by decide +kernel
theorem dX2_fewestShut_12 : decode cX2_fewestShut 12 = .ok (.iconst 0, 1) := by decide +kernel
theorem dX2_fewestShut_13 : decode cX2_fewestShut 13 = .ok (.invokestatic 33, 3) := by decide +kernel
theorem dX2_fewestShut_16 : decode cX2_fewestShut 16 = .ok (.iconst 0, 1) := by decide +kernel
theorem dX2_fewestShut_17 : decode cX2_fewestShut 17 = .ok (.istore_n 3, 1) := by decide +kernel
theorem dX2_fewestShut_18 : decode cX2_fewestShut 18 = .ok (.iconst 0, 1) := by decide +kernel
theorem dX2_fewestShut_19 : decode cX2_fewestShut 19 = .ok (.istore 4, 2) := by decide +kernel
theorem dX2_fewestShut_21 : decode cX2_fewestShut 21 = .ok (.iload 4, 2) := by decide +kernel
theorem dX2_fewestShut_23 : decode cX2_fewestShut 23 = .ok (.bipush 24, 2) := by decide +kernel
theorem dX2_fewestShut_25 : decode cX2_fewestShut 25 = .ok (.if_icmp .ge 160, 3) := by decide +kernel
theorem dX2_fewestShut_28 : decode cX2_fewestShut 28 = .ok (.aload_n 1, 1) := by decide +kernel
theorem dX2_fewestShut_29 : decode cX2_fewestShut 29 = .ok (.iload 4, 2) := by decide +kernel
theorem dX2_fewestShut_31 : decode cX2_fewestShut 31 = .ok (.invokevirtual 45, 3) := by decide +kernel
theorem dX2_fewestShut_34 : decode cX2_fewestShut 34 = .ok (.istore 5, 2) := by decide +kernel
theorem dX2_fewestShut_36 : decode cX2_fewestShut 36 = .ok (.ldc 51, 2) := by decide +kernel
theorem dX2_fewestShut_38 : decode cX2_fewestShut 38 = .ok (.iconst 1, 1) := by decide +kernel
theorem dX2_fewestShut_39 : decode cX2_fewestShut 39 = .ok (.iload 4, 2) := by decide +kernel
theorem dX2_fewestShut_41 : decode cX2_fewestShut 41 = .ok (.ishl, 1) := by decide +kernel
theorem dX2_fewestShut_42 : decode cX2_fewestShut 42 = .ok (.ior, 1) := by decide +kernel
theorem dX2_fewestShut_43 : decode cX2_fewestShut 43 = .ok (.istore 6, 2) := by decide +kernel
theorem dX2_fewestShut_45 : decode cX2_fewestShut 45 = .ok (.iload 5, 2) := by decide +kernel
theorem dX2_fewestShut_47 : decode cX2_fewestShut 47 = .ok (.ifCond .eq 26, 3) := by decide +kernel
theorem dX2_fewestShut_50 : decode cX2_fewestShut 50 = .ok (.aload_n 0, 1) := by decide +kernel
theorem dX2_fewestShut_51 : decode cX2_fewestShut 51 = .ok (.getfield 9, 3) := by decide +kernel
theorem dX2_fewestShut_54 : decode cX2_fewestShut 54 = .ok (.iload 4, 2) := by decide +kernel
theorem dX2_fewestShut_56 : decode cX2_fewestShut 56 = .ok (.iaload, 1) := by decide +kernel
theorem dX2_fewestShut_57 : decode cX2_fewestShut 57 = .ok (.iload 6, 2) := by decide +kernel
theorem dX2_fewestShut_59 : decode cX2_fewestShut 59 = .ok (.iadd, 1) := by decide +kernel
theorem dX2_fewestShut_60 : decode cX2_fewestShut 60 = .ok (.aload_n 0, 1) := by decide +kernel
theorem dX2_fewestShut_61 : decode cX2_fewestShut 61 = .ok (.getfield 15, 3) := by decide +kernel
theorem dX2_fewestShut_64 : decode cX2_fewestShut 64 = .ok (.iload 4, 2) := by decide +kernel
theorem dX2_fewestShut_66 : decode cX2_fewestShut 66 = .ok (.iaload, 1) := by decide +kernel
theorem dX2_fewestShut_67 : decode cX2_fewestShut 67 = .ok (.invokestatic 52, 3) := by decide +kernel
theorem dX2_fewestShut_70 : decode cX2_fewestShut 70 = .ok (.goto 10, 3) := by decide +kernel
theorem dX2_fewestShut_73 : decode cX2_fewestShut 73 = .ok (.aload_n 0, 1) := by decide +kernel
theorem dX2_fewestShut_74 : decode cX2_fewestShut 74 = .ok (.getfield 9, 3) := by decide +kernel
theorem dX2_fewestShut_77 : decode cX2_fewestShut 77 = .ok (.iload 4, 2) := by decide +kernel
theorem dX2_fewestShut_79 : decode cX2_fewestShut 79 = .ok (.iaload, 1) := by decide +kernel
theorem dX2_fewestShut_80 : decode cX2_fewestShut 80 = .ok (.istore 7, 2) := by decide +kernel
theorem dX2_fewestShut_82 : decode cX2_fewestShut 82 = .ok (.iload 5, 2) := by decide +kernel
theorem dX2_fewestShut_84 : decode cX2_fewestShut 84 = .ok (.ifCond .eq 17, 3) := by decide +kernel
theorem dX2_fewestShut_87 : decode cX2_fewestShut 87 = .ok (.iload_n 2, 1) := by decide +kernel
theorem dX2_fewestShut_88 : decode cX2_fewestShut 88 = .ok (.iload 4, 2) := by decide +kernel
theorem dX2_fewestShut_90 : decode cX2_fewestShut 90 = .ok (.ishr, 1) := by decide +kernel
theorem dX2_fewestShut_91 : decode cX2_fewestShut 91 = .ok (.iconst 1, 1) := by decide +kernel
theorem dX2_fewestShut_92 : decode cX2_fewestShut 92 = .ok (.iand, 1) := by decide +kernel
theorem dX2_fewestShut_93 : decode cX2_fewestShut 93 = .ok (.iconst 1, 1) := by decide +kernel
theorem dX2_fewestShut_94 : decode cX2_fewestShut 94 = .ok (.if_icmp .ne 7, 3) := by decide +kernel
theorem dX2_fewestShut_97 : decode cX2_fewestShut 97 = .ok (.iconst 1, 1) := by decide +kernel
theorem dX2_fewestShut_98 : decode cX2_fewestShut 98 = .ok (.goto 4, 3) := by decide +kernel
theorem dX2_fewestShut_101 : decode cX2_fewestShut 101 = .ok (.iconst 0, 1) := by decide +kernel
theorem dX2_fewestShut_102 : decode cX2_fewestShut 102 = .ok (.istore 8, 2) := by decide +kernel
theorem dX2_fewestShut_104 : decode cX2_fewestShut 104 = .ok (.iload 8, 2) := by decide +kernel
theorem dX2_fewestShut_106 : decode cX2_fewestShut 106 = .ok (.ifCond .eq 16, 3) := by decide +kernel
theorem dX2_fewestShut_109 : decode cX2_fewestShut 109 = .ok (.aload_n 0, 1) := by decide +kernel
theorem dX2_fewestShut_110 : decode cX2_fewestShut 110 = .ok (.getfield 15, 3) := by decide +kernel
theorem dX2_fewestShut_113 : decode cX2_fewestShut 113 = .ok (.iload 4, 2) := by decide +kernel
theorem dX2_fewestShut_115 : decode cX2_fewestShut 115 = .ok (.iaload, 1) := by decide +kernel
theorem dX2_fewestShut_116 : decode cX2_fewestShut 116 = .ok (.iload 6, 2) := by decide +kernel
theorem dX2_fewestShut_118 : decode cX2_fewestShut 118 = .ok (.iadd, 1) := by decide +kernel
theorem dX2_fewestShut_119 : decode cX2_fewestShut 119 = .ok (.goto 10, 3) := by decide +kernel
theorem dX2_fewestShut_122 : decode cX2_fewestShut 122 = .ok (.aload_n 0, 1) := by decide +kernel
theorem dX2_fewestShut_123 : decode cX2_fewestShut 123 = .ok (.getfield 15, 3) := by decide +kernel
theorem dX2_fewestShut_126 : decode cX2_fewestShut 126 = .ok (.iload 4, 2) := by decide +kernel
theorem dX2_fewestShut_128 : decode cX2_fewestShut 128 = .ok (.iaload, 1) := by decide +kernel
theorem dX2_fewestShut_129 : decode cX2_fewestShut 129 = .ok (.istore 9, 2) := by decide +kernel
theorem dX2_fewestShut_131 : decode cX2_fewestShut 131 = .ok (.aload_n 1, 1) := by decide +kernel
theorem dX2_fewestShut_132 : decode cX2_fewestShut 132 = .ok (.iload 4, 2) := by decide +kernel
theorem dX2_fewestShut_134 : decode cX2_fewestShut 134 = .ok (.invokevirtual 58, 3) := by decide +kernel
theorem dX2_fewestShut_137 : decode cX2_fewestShut 137 = .ok (.istore 10, 2) := by decide +kernel
theorem dX2_fewestShut_139 : decode cX2_fewestShut 139 = .ok (.iload 10, 2) := by decide +kernel
theorem dX2_fewestShut_141 : decode cX2_fewestShut 141 = .ok (.invokestatic 61, 3) := by decide +kernel
theorem dX2_fewestShut_144 : decode cX2_fewestShut 144 = .ok (.ifCond .eq 30, 3) := by decide +kernel
theorem dX2_fewestShut_147 : decode cX2_fewestShut 147 = .ok (.aload_n 0, 1) := by decide +kernel
theorem dX2_fewestShut_148 : decode cX2_fewestShut 148 = .ok (.getfield 9, 3) := by decide +kernel
theorem dX2_fewestShut_151 : decode cX2_fewestShut 151 = .ok (.iload 10, 2) := by decide +kernel
theorem dX2_fewestShut_153 : decode cX2_fewestShut 153 = .ok (.dup2, 1) := by decide +kernel
theorem dX2_fewestShut_154 : decode cX2_fewestShut 154 = .ok (.iaload, 1) := by decide +kernel
theorem dX2_fewestShut_155 : decode cX2_fewestShut 155 = .ok (.iload 7, 2) := by decide +kernel
theorem dX2_fewestShut_157 : decode cX2_fewestShut 157 = .ok (.iadd, 1) := by decide +kernel
theorem dX2_fewestShut_158 : decode cX2_fewestShut 158 = .ok (.iastore, 1) := by decide +kernel
theorem dX2_fewestShut_159 : decode cX2_fewestShut 159 = .ok (.aload_n 0, 1) := by decide +kernel
theorem dX2_fewestShut_160 : decode cX2_fewestShut 160 = .ok (.getfield 15, 3) := by decide +kernel
theorem dX2_fewestShut_163 : decode cX2_fewestShut 163 = .ok (.iload 10, 2) := by decide +kernel
theorem dX2_fewestShut_165 : decode cX2_fewestShut 165 = .ok (.dup2, 1) := by decide +kernel
theorem dX2_fewestShut_166 : decode cX2_fewestShut 166 = .ok (.iaload, 1) := by decide +kernel
theorem dX2_fewestShut_167 : decode cX2_fewestShut 167 = .ok (.iload 9, 2) := by decide +kernel
theorem dX2_fewestShut_169 : decode cX2_fewestShut 169 = .ok (.iadd, 1) := by decide +kernel
theorem dX2_fewestShut_170 : decode cX2_fewestShut 170 = .ok (.iastore, 1) := by decide +kernel
theorem dX2_fewestShut_171 : decode cX2_fewestShut 171 = .ok (.goto 8, 3) := by decide +kernel
theorem dX2_fewestShut_174 : decode cX2_fewestShut 174 = .ok (.iload_n 3, 1) := by decide +kernel
theorem dX2_fewestShut_175 : decode cX2_fewestShut 175 = .ok (.iload 7, 2) := by decide +kernel
theorem dX2_fewestShut_177 : decode cX2_fewestShut 177 = .ok (.iadd, 1) := by decide +kernel
theorem dX2_fewestShut_178 : decode cX2_fewestShut 178 = .ok (.istore_n 3, 1) := by decide +kernel
theorem dX2_fewestShut_179 : decode cX2_fewestShut 179 = .ok (.iinc 4 1, 3) := by decide +kernel
theorem dX2_fewestShut_182 : decode cX2_fewestShut 182 = .ok (.goto (-161), 3) := by decide +kernel
theorem dX2_fewestShut_185 : decode cX2_fewestShut 185 = .ok (.iload_n 3, 1) := by decide +kernel
theorem dX2_fewestShut_186 : decode cX2_fewestShut 186 = .ok (.ldc 64, 2) := by decide +kernel
theorem dX2_fewestShut_188 : decode cX2_fewestShut 188 = .ok (.iand, 1) := by decide +kernel
theorem dX2_fewestShut_189 : decode cX2_fewestShut 189 = .ok (.ireturn, 1) := by decide +kernel
theorem dX2_fillFewestTurns_0 : decode cX2_fillFewestTurns 0 = .ok (.aload_n 0, 1) := by decide +kernel
theorem dX2_fillFewestTurns_1 : decode cX2_fillFewestTurns 1 = .ok (.getfield 9, 3) := by decide +kernel
theorem dX2_fillFewestTurns_4 : decode cX2_fillFewestTurns 4 = .ok (.sipush 1000, 3) := by decide +kernel
theorem dX2_fillFewestTurns_7 : decode cX2_fillFewestTurns 7 = .ok (.invokestatic 33, 3) := by decide +kernel
theorem dX2_fillFewestTurns_10 : decode cX2_fillFewestTurns 10 = .ok (.aload_n 0, 1) := by decide +kernel
theorem dX2_fillFewestTurns_11 : decode cX2_fillFewestTurns 11 = .ok (.getfield 9, 3) := by decide +kernel
theorem dX2_fillFewestTurns_14 : decode cX2_fillFewestTurns 14 = .ok (.iload_n 2, 1) := by decide +kernel
theorem dX2_fillFewestTurns_15 : decode cX2_fillFewestTurns 15 = .ok (.iconst 0, 1) := by decide +kernel
theorem dX2_fillFewestTurns_16 : decode cX2_fillFewestTurns 16 = .ok (.iastore, 1) := by decide +kernel
theorem dX2_fillFewestTurns_17 : decode cX2_fillFewestTurns 17 = .ok (.iload_n 2, 1) := by decide +kernel
theorem dX2_fillFewestTurns_18 : decode cX2_fillFewestTurns 18 = .ok (.invokestatic 22, 3) := by decide +kernel
theorem dX2_fillFewestTurns_21 : decode cX2_fillFewestTurns 21 = .ok (.iconst 4, 1) := by decide +kernel
theorem dX2_fillFewestTurns_22 : decode cX2_fillFewestTurns 22 = .ok (.imul, 1) := by decide +kernel
theorem dX2_fillFewestTurns_23 : decode cX2_fillFewestTurns 23 = .ok (.iconst 1, 1) := by decide +kernel
theorem dX2_fillFewestTurns_24 : decode cX2_fillFewestTurns 24 = .ok (.isub, 1) := by decide +kernel
theorem dX2_fillFewestTurns_25 : decode cX2_fillFewestTurns 25 = .ok (.istore_n 3, 1) := by decide +kernel
theorem dX2_fillFewestTurns_26 : decode cX2_fillFewestTurns 26 = .ok (.iload_n 3, 1) := by decide +kernel
theorem dX2_fillFewestTurns_27 : decode cX2_fillFewestTurns 27 = .ok (.ifCond .lt 53, 3) := by decide +kernel
theorem dX2_fillFewestTurns_30 : decode cX2_fillFewestTurns 30 = .ok (.iload_n 3, 1) := by decide +kernel
theorem dX2_fillFewestTurns_31 : decode cX2_fillFewestTurns 31 = .ok (.invokestatic 39, 3) := by decide +kernel
theorem dX2_fillFewestTurns_34 : decode cX2_fillFewestTurns 34 = .ok (.istore 4, 2) := by decide +kernel
theorem dX2_fillFewestTurns_36 : decode cX2_fillFewestTurns 36 = .ok (.iload 4, 2) := by decide +kernel
theorem dX2_fillFewestTurns_38 : decode cX2_fillFewestTurns 38 = .ok (.iload_n 3, 1) := by decide +kernel
theorem dX2_fillFewestTurns_39 : decode cX2_fillFewestTurns 39 = .ok (.invokestatic 42, 3) := by decide +kernel
theorem dX2_fillFewestTurns_42 : decode cX2_fillFewestTurns 42 = .ok (.if_icmp .gt 32, 3) := by decide +kernel
theorem dX2_fillFewestTurns_45 : decode cX2_fillFewestTurns 45 = .ok (.aload_n 0, 1) := by decide +kernel
theorem dX2_fillFewestTurns_46 : decode cX2_fillFewestTurns 46 = .ok (.getfield 9, 3) := by decide +kernel
theorem dX2_fillFewestTurns_49 : decode cX2_fillFewestTurns 49 = .ok (.iload_n 3, 1) := by decide +kernel
theorem dX2_fillFewestTurns_50 : decode cX2_fillFewestTurns 50 = .ok (.aload_n 0, 1) := by decide +kernel
theorem dX2_fillFewestTurns_51 : decode cX2_fillFewestTurns 51 = .ok (.getfield 9, 3) := by decide +kernel
theorem dX2_fillFewestTurns_54 : decode cX2_fillFewestTurns 54 = .ok (.iload_n 3, 1) := by decide +kernel
theorem dX2_fillFewestTurns_55 : decode cX2_fillFewestTurns 55 = .ok (.iaload, 1) := by decide +kernel
theorem dX2_fillFewestTurns_56 : decode cX2_fillFewestTurns 56 = .ok (.aload_n 0, 1) := by decide +kernel
theorem dX2_fillFewestTurns_57 : decode cX2_fillFewestTurns 57 = .ok (.aload_n 1, 1) := by decide +kernel
theorem dX2_fillFewestTurns_58 : decode cX2_fillFewestTurns 58 = .ok (.iload_n 3, 1) := by decide +kernel
theorem dX2_fillFewestTurns_59 : decode cX2_fillFewestTurns 59 = .ok (.iload 4, 2) := by decide +kernel
theorem dX2_fillFewestTurns_61 : decode cX2_fillFewestTurns 61 = .ok (.invokevirtual 65, 3) := by decide +kernel
theorem dX2_fillFewestTurns_64 : decode cX2_fillFewestTurns 64 = .ok (.invokestatic 52, 3) := by decide +kernel
theorem dX2_fillFewestTurns_67 : decode cX2_fillFewestTurns 67 = .ok (.iastore, 1) := by decide +kernel
theorem dX2_fillFewestTurns_68 : decode cX2_fillFewestTurns 68 = .ok (.iinc 4 1, 3) := by decide +kernel
theorem dX2_fillFewestTurns_71 : decode cX2_fillFewestTurns 71 = .ok (.goto (-35), 3) := by decide +kernel
theorem dX2_fillFewestTurns_74 : decode cX2_fillFewestTurns 74 = .ok (.iinc 3 (-1), 3) := by decide +kernel
theorem dX2_fillFewestTurns_77 : decode cX2_fillFewestTurns 77 = .ok (.goto (-51), 3) := by decide +kernel
theorem dX2_fillFewestTurns_80 : decode cX2_fillFewestTurns 80 = .ok (.return_, 1) := by decide +kernel
theorem dX2_turnsBy_0 : decode cX2_turnsBy 0 = .ok (.aload_n 0, 1) := by decide +kernel
theorem dX2_turnsBy_1 : decode cX2_turnsBy 1 = .ok (.getfield 9, 3) := by decide +kernel
theorem dX2_turnsBy_4 : decode cX2_turnsBy 4 = .ok (.iload_n 3, 1) := by decide +kernel
theorem dX2_turnsBy_5 : decode cX2_turnsBy 5 = .ok (.iaload, 1) := by decide +kernel
theorem dX2_turnsBy_6 : decode cX2_turnsBy 6 = .ok (.aload_n 1, 1) := by decide +kernel
theorem dX2_turnsBy_7 : decode cX2_turnsBy 7 = .ok (.iload_n 2, 1) := by decide +kernel
theorem dX2_turnsBy_8 : decode cX2_turnsBy 8 = .ok (.invokevirtual 58, 3) := by decide +kernel
theorem dX2_turnsBy_11 : decode cX2_turnsBy 11 = .ok (.iload_n 3, 1) := by decide +kernel
theorem dX2_turnsBy_12 : decode cX2_turnsBy 12 = .ok (.if_icmp .ne 7, 3) := by decide +kernel
theorem dX2_turnsBy_15 : decode cX2_turnsBy 15 = .ok (.iconst 0, 1) := by decide +kernel
theorem dX2_turnsBy_16 : decode cX2_turnsBy 16 = .ok (.goto 4, 3) := by decide +kernel
theorem dX2_turnsBy_19 : decode cX2_turnsBy 19 = .ok (.iconst 1, 1) := by decide +kernel
theorem dX2_turnsBy_20 : decode cX2_turnsBy 20 = .ok (.iadd, 1) := by decide +kernel
theorem dX2_turnsBy_21 : decode cX2_turnsBy 21 = .ok (.ireturn, 1) := by decide +kernel
theorem dX2_leastNext_0 : decode cX2_leastNext 0 = .ok (.iload_n 2, 1) := by decide +kernel
theorem dX2_leastNext_1 : decode cX2_leastNext 1 = .ok (.invokestatic 39, 3) := by decide +kernel
theorem dX2_leastNext_4 : decode cX2_leastNext 4 = .ok (.istore_n 3, 1) := by decide +kernel
theorem dX2_leastNext_5 : decode cX2_leastNext 5 = .ok (.iload_n 3, 1) := by decide +kernel
theorem dX2_leastNext_6 : decode cX2_leastNext 6 = .ok (.iload_n 2, 1) := by decide +kernel
theorem dX2_leastNext_7 : decode cX2_leastNext 7 = .ok (.invokestatic 42, 3) := by decide +kernel
theorem dX2_leastNext_10 : decode cX2_leastNext 10 = .ok (.if_icmp .gt 27, 3) := by decide +kernel
theorem dX2_leastNext_13 : decode cX2_leastNext 13 = .ok (.aload_n 0, 1) := by decide +kernel
theorem dX2_leastNext_14 : decode cX2_leastNext 14 = .ok (.aload_n 1, 1) := by decide +kernel
theorem dX2_leastNext_15 : decode cX2_leastNext 15 = .ok (.iload_n 2, 1) := by decide +kernel
theorem dX2_leastNext_16 : decode cX2_leastNext 16 = .ok (.iload_n 3, 1) := by decide +kernel
theorem dX2_leastNext_17 : decode cX2_leastNext 17 = .ok (.invokevirtual 65, 3) := by decide +kernel
theorem dX2_leastNext_20 : decode cX2_leastNext 20 = .ok (.aload_n 0, 1) := by decide +kernel
theorem dX2_leastNext_21 : decode cX2_leastNext 21 = .ok (.getfield 9, 3) := by decide +kernel
theorem dX2_leastNext_24 : decode cX2_leastNext 24 = .ok (.iload_n 2, 1) := by decide +kernel
theorem dX2_leastNext_25 : decode cX2_leastNext 25 = .ok (.iaload, 1) := by decide +kernel
theorem dX2_leastNext_26 : decode cX2_leastNext 26 = .ok (.if_icmp .ne 5, 3) := by decide +kernel
theorem dX2_leastNext_29 : decode cX2_leastNext 29 = .ok (.iload_n 3, 1) := by decide +kernel
theorem dX2_leastNext_30 : decode cX2_leastNext 30 = .ok (.ireturn, 1) := by decide +kernel
theorem dX2_leastNext_31 : decode cX2_leastNext 31 = .ok (.iinc 3 1, 3) := by decide +kernel
theorem dX2_leastNext_34 : decode cX2_leastNext 34 = .ok (.goto (-29), 3) := by decide +kernel
theorem dX2_leastNext_37 : decode cX2_leastNext 37 = .ok (.iload_n 2, 1) := by decide +kernel
theorem dX2_leastNext_38 : decode cX2_leastNext 38 = .ok (.ireturn, 1) := by decide +kernel
theorem dX2_lowestAbove_0 : decode cX2_lowestAbove 0 = .ok (.iload_n 0, 1) := by decide +kernel
theorem dX2_lowestAbove_1 : decode cX2_lowestAbove 1 = .ok (.invokestatic 22, 3) := by decide +kernel
theorem dX2_lowestAbove_4 : decode cX2_lowestAbove 4 = .ok (.iconst 1, 1) := by decide +kernel
theorem dX2_lowestAbove_5 : decode cX2_lowestAbove 5 = .ok (.iadd, 1) := by decide +kernel
theorem dX2_lowestAbove_6 : decode cX2_lowestAbove 6 = .ok (.iconst 5, 1) := by decide +kernel
theorem dX2_lowestAbove_7 : decode cX2_lowestAbove 7 = .ok (.invokestatic 52, 3) := by decide +kernel
theorem dX2_lowestAbove_10 : decode cX2_lowestAbove 10 = .ok (.iconst 4, 1) := by decide +kernel
theorem dX2_lowestAbove_11 : decode cX2_lowestAbove 11 = .ok (.imul, 1) := by decide +kernel
theorem dX2_lowestAbove_12 : decode cX2_lowestAbove 12 = .ok (.iload_n 0, 1) := by decide +kernel
theorem dX2_lowestAbove_13 : decode cX2_lowestAbove 13 = .ok (.invokestatic 30, 3) := by decide +kernel
theorem dX2_lowestAbove_16 : decode cX2_lowestAbove 16 = .ok (.iconst 0, 1) := by decide +kernel
theorem dX2_lowestAbove_17 : decode cX2_lowestAbove 17 = .ok (.invokestatic 69, 3) := by decide +kernel
theorem dX2_lowestAbove_20 : decode cX2_lowestAbove 20 = .ok (.iadd, 1) := by decide +kernel
theorem dX2_lowestAbove_21 : decode cX2_lowestAbove 21 = .ok (.ireturn, 1) := by decide +kernel
theorem dX2_highestAbove_0 : decode cX2_highestAbove 0 = .ok (.iload_n 0, 1) := by decide +kernel
theorem dX2_highestAbove_1 : decode cX2_highestAbove 1 = .ok (.invokestatic 22, 3) := by decide +kernel
theorem dX2_highestAbove_4 : decode cX2_highestAbove 4 = .ok (.iconst 1, 1) := by decide +kernel
theorem dX2_highestAbove_5 : decode cX2_highestAbove 5 = .ok (.iadd, 1) := by decide +kernel
theorem dX2_highestAbove_6 : decode cX2_highestAbove 6 = .ok (.iconst 5, 1) := by decide +kernel
theorem dX2_highestAbove_7 : decode cX2_highestAbove 7 = .ok (.invokestatic 52, 3) := by decide +kernel
theorem dX2_highestAbove_10 : decode cX2_highestAbove 10 = .ok (.iconst 4, 1) := by decide +kernel
theorem dX2_highestAbove_11 : decode cX2_highestAbove 11 = .ok (.imul, 1) := by decide +kernel
theorem dX2_highestAbove_12 : decode cX2_highestAbove 12 = .ok (.iload_n 0, 1) := by decide +kernel
theorem dX2_highestAbove_13 : decode cX2_highestAbove 13 = .ok (.invokestatic 30, 3) := by decide +kernel
theorem dX2_highestAbove_16 : decode cX2_highestAbove 16 = .ok (.iconst 2, 1) := by decide +kernel
theorem dX2_highestAbove_17 : decode cX2_highestAbove 17 = .ok (.invokestatic 69, 3) := by decide +kernel
theorem dX2_highestAbove_20 : decode cX2_highestAbove 20 = .ok (.iadd, 1) := by decide +kernel
theorem dX2_highestAbove_21 : decode cX2_highestAbove 21 = .ok (.ireturn, 1) := by decide +kernel
theorem dX3_init_0 : decode cX3_init 0 = .ok (.aload_n 0, 1) := by decide +kernel
theorem dX3_init_1 : decode cX3_init 1 = .ok (.invokespecial 3, 3) := by decide +kernel
theorem dX3_init_4 : decode cX3_init 4 = .ok (.aload_n 0, 1) := by decide +kernel
theorem dX3_init_5 : decode cX3_init 5 = .ok (.bipush 24, 2) := by decide +kernel
theorem dX3_init_7 : decode cX3_init 7 = .ok (.newarray .int, 2) := by decide +kernel
theorem dX3_init_9 : decode cX3_init 9 = .ok (.putfield 9, 3) := by decide +kernel
theorem dX3_init_12 : decode cX3_init 12 = .ok (.return_, 1) := by decide +kernel
theorem dX3_learn_0 : decode cX3_learn 0 = .ok (.aload_n 0, 1) := by decide +kernel
theorem dX3_learn_1 : decode cX3_learn 1 = .ok (.iload_n 2, 1) := by decide +kernel
theorem dX3_learn_2 : decode cX3_learn 2 = .ok (.bipush 24, 2) := by decide +kernel
theorem dX3_learn_4 : decode cX3_learn 4 = .ok (.invokestatic 15, 3) := by decide +kernel
theorem dX3_learn_7 : decode cX3_learn 7 = .ok (.putfield 21, 3) := by decide +kernel
theorem dX3_learn_10 : decode cX3_learn 10 = .ok (.iconst 0, 1) := by decide +kernel
theorem dX3_learn_11 : decode cX3_learn 11 = .ok (.istore_n 3, 1) := by decide +kernel
theorem dX3_learn_12 : decode cX3_learn 12 = .ok (.iconst 0, 1) := by decide +kernel
theorem dX3_learn_13 : decode cX3_learn 13 = .ok (.istore 4, 2) := by decide +kernel
theorem dX3_learn_15 : decode cX3_learn 15 = .ok (.iload 4, 2) := by decide +kernel
theorem dX3_learn_17 : decode cX3_learn 17 = .ok (.aload_n 0, 1) := by decide +kernel
theorem dX3_learn_18 : decode cX3_learn 18 = .ok (.getfield 21, 3) := by decide +kernel
theorem dX3_learn_21 : decode cX3_learn 21 = .ok (.if_icmp .ge 59, 3) := by decide +kernel
theorem dX3_learn_24 : decode cX3_learn 24 = .ok (.aload_n 1, 1) := by decide +kernel
theorem dX3_learn_25 : decode cX3_learn 25 = .ok (.iload 4, 2) := by decide +kernel
theorem dX3_learn_27 : decode cX3_learn 27 = .ok (.invokevirtual 25, 3) := by decide +kernel
theorem dX3_learn_30 : decode cX3_learn 30 = .ok (.istore 5, 2) := by decide +kernel
theorem dX3_learn_32 : decode cX3_learn 32 = .ok (.iload 5, 2) := by decide +kernel
theorem dX3_learn_34 : decode cX3_learn 34 = .ok (.ifCond .lt 22, 3) := by decide +kernel
theorem dX3_learn_37 : decode cX3_learn 37 = .ok (.iload 5, 2) := by decide +kernel
theorem dX3_learn_39 : decode cX3_learn 39 = .ok (.aload_n 0, 1) := by decide +kernel
theorem dX3_learn_40 : decode cX3_learn 40 = .ok (.getfield 21, 3) := by decide +kernel
theorem dX3_learn_43 : decode cX3_learn 43 = .ok (.if_icmp .ge 13, 3) := by decide +kernel
theorem dX3_learn_46 : decode cX3_learn 46 = .ok (.iload_n 3, 1) := by decide +kernel
theorem dX3_learn_47 : decode cX3_learn 47 = .ok (.iload 5, 2) := by decide +kernel
theorem dX3_learn_49 : decode cX3_learn 49 = .ok (.ishr, 1) := by decide +kernel
theorem dX3_learn_50 : decode cX3_learn 50 = .ok (.iconst 1, 1) := by decide +kernel
theorem dX3_learn_51 : decode cX3_learn 51 = .ok (.iand, 1) := by decide +kernel
theorem dX3_learn_52 : decode cX3_learn 52 = .ok (.iconst 1, 1) := by decide +kernel
theorem dX3_learn_53 : decode cX3_learn 53 = .ok (.if_icmp .ne 5, 3) := by decide +kernel
theorem dX3_learn_56 : decode cX3_learn 56 = .ok (.iconst 0, 1) := by decide +kernel
theorem dX3_learn_57 : decode cX3_learn 57 = .ok (.ireturn, 1) := by decide +kernel
theorem dX3_learn_58 : decode cX3_learn 58 = .ok (.iload_n 3, 1) := by decide +kernel
theorem dX3_learn_59 : decode cX3_learn 59 = .ok (.iconst 1, 1) := by decide +kernel
theorem dX3_learn_60 : decode cX3_learn 60 = .ok (.iload 5, 2) := by decide +kernel
theorem dX3_learn_62 : decode cX3_learn 62 = .ok (.ishl, 1) := by decide +kernel
theorem dX3_learn_63 : decode cX3_learn 63 = .ok (.ior, 1) := by decide +kernel
theorem dX3_learn_64 : decode cX3_learn 64 = .ok (.istore_n 3, 1) := by decide +kernel
theorem dX3_learn_65 : decode cX3_learn 65 = .ok (.aload_n 0, 1) := by decide +kernel
theorem dX3_learn_66 : decode cX3_learn 66 = .ok (.getfield 9, 3) := by decide +kernel
theorem dX3_learn_69 : decode cX3_learn 69 = .ok (.iload 4, 2) := by decide +kernel
theorem dX3_learn_71 : decode cX3_learn 71 = .ok (.iload 5, 2) := by decide +kernel
theorem dX3_learn_73 : decode cX3_learn 73 = .ok (.iastore, 1) := by decide +kernel
theorem dX3_learn_74 : decode cX3_learn 74 = .ok (.iinc 4 1, 3) := by decide +kernel
theorem dX3_learn_77 : decode cX3_learn 77 = .ok (.goto (-62), 3) := by decide +kernel
theorem dX3_learn_80 : decode cX3_learn 80 = .ok (.iconst 1, 1) := by decide +kernel
theorem dX3_learn_81 : decode cX3_learn 81 = .ok (.ireturn, 1) := by decide +kernel
theorem dX3_weeksTillHome_0 : decode cX3_weeksTillHome 0 = .ok (.iconst 1, 1) := by decide +kernel
theorem dX3_weeksTillHome_1 : decode cX3_weeksTillHome 1 = .ok (.istore_n 1, 1) := by decide +kernel
theorem dX3_weeksTillHome_2 : decode cX3_weeksTillHome 2 = .ok (.iconst 0, 1) := by decide +kernel
theorem dX3_weeksTillHome_3 : decode cX3_weeksTillHome 3 = .ok (.istore_n 2, 1) := by decide +kernel
theorem dX3_weeksTillHome_4 : decode cX3_weeksTillHome 4 = .ok (.iload_n 2, 1) := by decide +kernel
theorem dX3_weeksTillHome_5 : decode cX3_weeksTillHome 5 = .ok (.aload_n 0, 1) := by decide +kernel
theorem dX3_weeksTillHome_6 : decode cX3_weeksTillHome 6 = .ok (.getfield 21, 3) := by decide +kernel
theorem dX3_weeksTillHome_9 : decode cX3_weeksTillHome 9 = .ok (.if_icmp .ge 34, 3) := by decide +kernel
theorem dX3_weeksTillHome_12 : decode cX3_weeksTillHome 12 = .ok (.aload_n 0, 1) := by decide +kernel
theorem dX3_weeksTillHome_13 : decode cX3_weeksTillHome 13 = .ok (.iload_n 2, 1) := by decide +kernel
theorem dX3_weeksTillHome_14 : decode cX3_weeksTillHome 14 = .ok (.invokevirtual 31, 3) := by decide +kernel
theorem dX3_weeksTillHome_17 : decode cX3_weeksTillHome 17 = .ok (.istore_n 3, 1) := by decide +kernel
theorem dX3_weeksTillHome_18 : decode cX3_weeksTillHome 18 = .ok (.iload_n 1, 1) := by decide +kernel
theorem dX3_weeksTillHome_19 : decode cX3_weeksTillHome 19 = .ok (.iload_n 3, 1) := by decide +kernel
theorem dX3_weeksTillHome_20 : decode cX3_weeksTillHome 20 = .ok (.invokestatic 34, 3) := by decide +kernel
theorem dX3_weeksTillHome_23 : decode cX3_weeksTillHome 23 = .ok (.istore 4, 2) := by decide +kernel
theorem dX3_weeksTillHome_25 : decode cX3_weeksTillHome 25 = .ok (.iload 4, 2) := by decide +kernel
theorem dX3_weeksTillHome_27 : decode cX3_weeksTillHome 27 = .ok (.ifCond .le 10, 3) := by decide +kernel
theorem dX3_weeksTillHome_30 : decode cX3_weeksTillHome 30 = .ok (.iload_n 1, 1) := by decide +kernel
theorem dX3_weeksTillHome_31 : decode cX3_weeksTillHome 31 = .ok (.iload 4, 2) := by decide +kernel
theorem dX3_weeksTillHome_33 : decode cX3_weeksTillHome 33 = .ok (.idiv, 1) := by decide +kernel
theorem dX3_weeksTillHome_34 : decode cX3_weeksTillHome 34 = .ok (.iload_n 3, 1) := by decide +kernel
theorem dX3_weeksTillHome_35 : decode cX3_weeksTillHome 35 = .ok (.imul, 1) := by decide +kernel
theorem dX3_weeksTillHome_36 : decode cX3_weeksTillHome 36 = .ok (.istore_n 1, 1) := by decide +kernel
theorem dX3_weeksTillHome_37 : decode cX3_weeksTillHome 37 = .ok (.iinc 2 1, 3) := by decide +kernel
theorem dX3_weeksTillHome_40 : decode cX3_weeksTillHome 40 = .ok (.goto (-36), 3) := by decide +kernel
theorem dX3_weeksTillHome_43 : decode cX3_weeksTillHome 43 = .ok (.iload_n 1, 1) := by decide +kernel
theorem dX3_weeksTillHome_44 : decode cX3_weeksTillHome 44 = .ok (.ireturn, 1) := by decide +kernel
theorem dX3_rounds_0 : decode cX3_rounds 0 = .ok (.iconst 0, 1) := by decide +kernel
theorem dX3_rounds_1 : decode cX3_rounds 1 = .ok (.istore_n 1, 1) := by decide +kernel
theorem dX3_rounds_2 : decode cX3_rounds 2 = .ok (.iconst 0, 1) := by decide +kernel
theorem dX3_rounds_3 : decode cX3_rounds 3 = .ok (.istore_n 2, 1) := by decide +kernel
theorem dX3_rounds_4 : decode cX3_rounds 4 = .ok (.iload_n 2, 1) := by decide +kernel
theorem dX3_rounds_5 : decode cX3_rounds 5 = .ok (.aload_n 0, 1) := by decide +kernel
theorem dX3_rounds_6 : decode cX3_rounds 6 = .ok (.getfield 21, 3) := by decide +kernel
theorem dX3_rounds_9 : decode cX3_rounds 9 = .ok (.if_icmp .ge 20, 3) := by decide +kernel
theorem dX3_rounds_12 : decode cX3_rounds 12 = .ok (.aload_n 0, 1) := by decide +kernel
theorem dX3_rounds_13 : decode cX3_rounds 13 = .ok (.iload_n 2, 1) := by decide +kernel
theorem dX3_rounds_14 : decode cX3_rounds 14 = .ok (.invokevirtual 37, 3) := by decide +kernel
theorem dX3_rounds_17 : decode cX3_rounds 17 = .ok (.ifCond .eq 6, 3) := by decide +kernel
theorem dX3_rounds_20 : decode cX3_rounds 20 = .ok (.iinc 1 1, 3) := by decide +kernel
theorem dX3_rounds_23 : decode cX3_rounds 23 = .ok (.iinc 2 1, 3) := by decide +kernel
theorem dX3_rounds_26 : decode cX3_rounds 26 = .ok (.goto (-22), 3) := by decide +kernel
theorem dX3_rounds_29 : decode cX3_rounds 29 = .ok (.iload_n 1, 1) := by decide +kernel
theorem dX3_rounds_30 : decode cX3_rounds 30 = .ok (.ireturn, 1) := by decide +kernel
theorem dX3_placeOf_0 : decode cX3_placeOf 0 = .ok (.aload_n 0, 1) := by decide +kernel
theorem dX3_placeOf_1 : decode cX3_placeOf 1 = .ok (.iload_n 1, 1) := by decide +kernel
theorem dX3_placeOf_2 : decode cX3_placeOf 2 = .ok (.invokevirtual 31, 3) := by decide +kernel
theorem dX3_placeOf_5 : decode cX3_placeOf 5 = .ok (.istore_n 3, 1) := by decide +kernel
theorem dX3_placeOf_6 : decode cX3_placeOf 6 = .ok (.iload_n 3, 1) := by decide +kernel
theorem dX3_placeOf_7 : decode cX3_placeOf 7 = .ok (.ifCond .le 14, 3) := by decide +kernel
theorem dX3_placeOf_10 : decode cX3_placeOf 10 = .ok (.aload_n 0, 1) := by decide +kernel
theorem dX3_placeOf_11 : decode cX3_placeOf 11 = .ok (.iload_n 1, 1) := by decide +kernel
theorem dX3_placeOf_12 : decode cX3_placeOf 12 = .ok (.iload_n 2, 1) := by decide +kernel
theorem dX3_placeOf_13 : decode cX3_placeOf 13 = .ok (.iload_n 3, 1) := by decide +kernel
theorem dX3_placeOf_14 : decode cX3_placeOf 14 = .ok (.irem, 1) := by decide +kernel
theorem dX3_placeOf_15 : decode cX3_placeOf 15 = .ok (.invokevirtual 41, 3) := by decide +kernel
theorem dX3_placeOf_18 : decode cX3_placeOf 18 = .ok (.goto 4, 3) := by decide +kernel
theorem dX3_placeOf_21 : decode cX3_placeOf 21 = .ok (.iload_n 1, 1) := by decide +kernel
theorem dX3_placeOf_22 : decode cX3_placeOf 22 = .ok (.ireturn, 1) := by decide +kernel
theorem dX3_after_0 : decode cX3_after 0 = .ok (.iload_n 1, 1) := by decide +kernel
theorem dX3_after_1 : decode cX3_after 1 = .ok (.istore_n 3, 1) := by decide +kernel
theorem dX3_after_2 : decode cX3_after 2 = .ok (.iconst 0, 1) := by decide +kernel
theorem dX3_after_3 : decode cX3_after 3 = .ok (.istore 4, 2) := by decide +kernel
theorem dX3_after_5 : decode cX3_after 5 = .ok (.iload 4, 2) := by decide +kernel
theorem dX3_after_7 : decode cX3_after 7 = .ok (.iload_n 2, 1) := by decide +kernel
theorem dX3_after_8 : decode cX3_after 8 = .ok (.if_icmp .ge 16, 3) := by decide +kernel
theorem dX3_after_11 : decode cX3_after 11 = .ok (.aload_n 0, 1) := by decide +kernel
theorem dX3_after_12 : decode cX3_after 12 = .ok (.getfield 9, 3) := by decide +kernel
theorem dX3_after_15 : decode cX3_after 15 = .ok (.iload_n 3, 1) := by decide +kernel
theorem dX3_after_16 : decode cX3_after 16 = .ok (.iaload, 1) := by decide +kernel
theorem dX3_after_17 : decode cX3_after 17 = .ok (.istore_n 3, 1) := by decide +kernel
theorem dX3_after_18 : decode cX3_after 18 = .ok (.iinc 4 1, 3) := by decide +kernel
theorem dX3_after_21 : decode cX3_after 21 = .ok (.goto (-16), 3) := by decide +kernel
theorem dX3_after_24 : decode cX3_after 24 = .ok (.iload_n 3, 1) := by decide +kernel
theorem dX3_after_25 : decode cX3_after 25 = .ok (.ireturn, 1) := by decide +kernel
theorem dX3_roundOf_0 : decode cX3_roundOf 0 = .ok (.aload_n 0, 1) := by decide +kernel
theorem dX3_roundOf_1 : decode cX3_roundOf 1 = .ok (.getfield 9, 3) := by decide +kernel
theorem dX3_roundOf_4 : decode cX3_roundOf 4 = .ok (.iload_n 1, 1) := by decide +kernel
theorem dX3_roundOf_5 : decode cX3_roundOf 5 = .ok (.iaload, 1) := by decide +kernel
theorem dX3_roundOf_6 : decode cX3_roundOf 6 = .ok (.istore_n 2, 1) := by decide +kernel
theorem dX3_roundOf_7 : decode cX3_roundOf 7 = .ok (.iconst 1, 1) := by decide +kernel
theorem dX3_roundOf_8 : decode cX3_roundOf 8 = .ok (.istore_n 3, 1) := by decide +kernel
theorem dX3_roundOf_9 : decode cX3_roundOf 9 = .ok (.iconst 1, 1) := by decide +kernel
theorem dX3_roundOf_10 : decode cX3_roundOf 10 = .ok (.istore 4, 2) := by decide +kernel
theorem dX3_roundOf_12 : decode cX3_roundOf 12 = .ok (.iload 4, 2) := by decide +kernel
theorem dX3_roundOf_14 : decode cX3_roundOf 14 = .ok (.aload_n 0, 1) := by decide +kernel
theorem dX3_roundOf_15 : decode cX3_roundOf 15 = .ok (.getfield 21, 3) := by decide +kernel
theorem dX3_roundOf_18 : decode cX3_roundOf 18 = .ok (.if_icmp .ge 24, 3) := by decide +kernel
theorem dX3_roundOf_21 : decode cX3_roundOf 21 = .ok (.iload_n 2, 1) := by decide +kernel
theorem dX3_roundOf_22 : decode cX3_roundOf 22 = .ok (.iload_n 1, 1) := by decide +kernel
theorem dX3_roundOf_23 : decode cX3_roundOf 23 = .ok (.if_icmp .eq 19, 3) := by decide +kernel
theorem dX3_roundOf_26 : decode cX3_roundOf 26 = .ok (.aload_n 0, 1) := by decide +kernel
theorem dX3_roundOf_27 : decode cX3_roundOf 27 = .ok (.getfield 9, 3) := by decide +kernel
theorem dX3_roundOf_30 : decode cX3_roundOf 30 = .ok (.iload_n 2, 1) := by decide +kernel
theorem dX3_roundOf_31 : decode cX3_roundOf 31 = .ok (.iaload, 1) := by decide +kernel
theorem dX3_roundOf_32 : decode cX3_roundOf 32 = .ok (.istore_n 2, 1) := by decide +kernel
theorem dX3_roundOf_33 : decode cX3_roundOf 33 = .ok (.iinc 3 1, 3) := by decide +kernel
theorem dX3_roundOf_36 : decode cX3_roundOf 36 = .ok (.iinc 4 1, 3) := by decide +kernel
theorem dX3_roundOf_39 : decode cX3_roundOf 39 = .ok (.goto (-27), 3) := by decide +kernel
theorem dX3_roundOf_42 : decode cX3_roundOf 42 = .ok (.iload_n 3, 1) := by decide +kernel
theorem dX3_roundOf_43 : decode cX3_roundOf 43 = .ok (.ireturn, 1) := by decide +kernel
theorem dX3_isLowestOfRound_0 : decode cX3_isLowestOfRound 0 = .ok (.aload_n 0, 1) := by decide +kernel
theorem dX3_isLowestOfRound_1 : decode cX3_isLowestOfRound 1 = .ok (.getfield 9, 3) := by decide +kernel
theorem dX3_isLowestOfRound_4 : decode cX3_isLowestOfRound 4 = .ok (.iload_n 1, 1) := by decide +kernel
theorem dX3_isLowestOfRound_5 : decode cX3_isLowestOfRound 5 = .ok (.iaload, 1) := by decide +kernel
theorem dX3_isLowestOfRound_6 : decode cX3_isLowestOfRound 6 = .ok (.istore_n 2, 1) := by decide +kernel
theorem dX3_isLowestOfRound_7 : decode cX3_isLowestOfRound 7 = .ok (.iconst 1, 1) := by decide +kernel
theorem dX3_isLowestOfRound_8 : decode cX3_isLowestOfRound 8 = .ok (.istore_n 3, 1) := by decide +kernel
theorem dX3_isLowestOfRound_9 : decode cX3_isLowestOfRound 9 = .ok (.iload_n 3, 1) := by decide +kernel
theorem dX3_isLowestOfRound_10 : decode cX3_isLowestOfRound 10 = .ok (.aload_n 0, 1) := by decide +kernel
theorem dX3_isLowestOfRound_11 : decode cX3_isLowestOfRound 11 = .ok (.getfield 21, 3) := by decide +kernel
theorem dX3_isLowestOfRound_14 : decode cX3_isLowestOfRound 14 = .ok (.if_icmp .ge 28, 3) := by decide +kernel
theorem dX3_isLowestOfRound_17 : decode cX3_isLowestOfRound 17 = .ok (.iload_n 2, 1) := by decide +kernel
theorem dX3_isLowestOfRound_18 : decode cX3_isLowestOfRound 18 = .ok (.iload_n 1, 1) := by decide +kernel
theorem dX3_isLowestOfRound_19 : decode cX3_isLowestOfRound 19 = .ok (.if_icmp .eq 23, 3) := by decide +kernel
theorem dX3_isLowestOfRound_22 : decode cX3_isLowestOfRound 22 = .ok (.iload_n 2, 1) := by decide +kernel
theorem dX3_isLowestOfRound_23 : decode cX3_isLowestOfRound 23 = .ok (.iload_n 1, 1) := by decide +kernel
theorem dX3_isLowestOfRound_24 : decode cX3_isLowestOfRound 24 = .ok (.if_icmp .ge 5, 3) := by decide +kernel
theorem dX3_isLowestOfRound_27 : decode cX3_isLowestOfRound 27 = .ok (.iconst 0, 1) := by decide +kernel
theorem dX3_isLowestOfRound_28 : decode cX3_isLowestOfRound 28 = .ok (.ireturn, 1) := by decide +kernel
theorem dX3_isLowestOfRound_29 : decode cX3_isLowestOfRound 29 = .ok (.aload_n 0, 1) := by decide +kernel
theorem dX3_isLowestOfRound_30 : decode cX3_isLowestOfRound 30 = .ok (.getfield 9, 3) := by decide +kernel
theorem dX3_isLowestOfRound_33 : decode cX3_isLowestOfRound 33 = .ok (.iload_n 2, 1) := by decide +kernel
theorem dX3_isLowestOfRound_34 : decode cX3_isLowestOfRound 34 = .ok (.iaload, 1) := by decide +kernel
theorem dX3_isLowestOfRound_35 : decode cX3_isLowestOfRound 35 = .ok (.istore_n 2, 1) := by decide +kernel
theorem dX3_isLowestOfRound_36 : decode cX3_isLowestOfRound 36 = .ok (.iinc 3 1, 3) := by decide +kernel
theorem dX3_isLowestOfRound_39 : decode cX3_isLowestOfRound 39 = .ok (.goto (-30), 3) := by decide +kernel
theorem dX3_isLowestOfRound_42 : decode cX3_isLowestOfRound 42 = .ok (.iconst 1, 1) := by decide +kernel
theorem dX3_isLowestOfRound_43 : decode cX3_isLowestOfRound 43 = .ok (.ireturn, 1) := by decide +kernel
theorem dX4_init_0 : decode cX4_init 0 = .ok (.aload_n 0, 1) := by decide +kernel
theorem dX4_init_1 : decode cX4_init 1 = .ok (.invokespecial 3, 3) := by decide +kernel
theorem dX4_init_4 : decode cX4_init 4 = .ok (.aload_n 0, 1) := by decide +kernel
theorem dX4_init_5 : decode cX4_init 5 = .ok (.sipush 240, 3) := by decide +kernel
theorem dX4_init_8 : decode cX4_init 8 = .ok (.newarray .int, 2) := by decide +kernel
theorem dX4_init_10 : decode cX4_init 10 = .ok (.putfield 9, 3) := by decide +kernel
theorem dX4_init_13 : decode cX4_init 13 = .ok (.aload_n 0, 1) := by decide +kernel
theorem dX4_init_14 : decode cX4_init 14 = .ok (.sipush 240, 3) := by decide +kernel
theorem dX4_init_17 : decode cX4_init 17 = .ok (.newarray .int, 2) := by decide +kernel
theorem dX4_init_19 : decode cX4_init 19 = .ok (.putfield 15, 3) := by decide +kernel
theorem dX4_init_22 : decode cX4_init 22 = .ok (.aload_n 0, 1) := by decide +kernel
theorem dX4_init_23 : decode cX4_init 23 = .ok (.bipush 16, 2) := by decide +kernel
theorem dX4_init_25 : decode cX4_init 25 = .ok (.newarray .int, 2) := by decide +kernel
theorem dX4_init_27 : decode cX4_init 27 = .ok (.putfield 18, 3) := by decide +kernel
theorem dX4_init_30 : decode cX4_init 30 = .ok (.aload_n 0, 1) := by decide +kernel
theorem dX4_init_31 : decode cX4_init 31 = .ok (.bipush 16, 2) := by decide +kernel
theorem dX4_init_33 : decode cX4_init 33 = .ok (.newarray .int, 2) := by decide +kernel
theorem dX4_init_35 : decode cX4_init 35 = .ok (.putfield 21, 3) := by decide +kernel
theorem dX4_init_38 : decode cX4_init 38 = .ok (.aload_n 0, 1) := by decide +kernel
theorem dX4_init_39 : decode cX4_init 39 = .ok (.bipush 16, 2) := by decide +kernel
theorem dX4_init_41 : decode cX4_init 41 = .ok (.newarray .int, 2) := by decide +kernel
theorem dX4_init_43 : decode cX4_init 43 = .ok (.putfield 24, 3) := by decide +kernel
theorem dX4_init_46 : decode cX4_init 46 = .ok (.aload_n 0, 1) := by decide +kernel
theorem dX4_init_47 : decode cX4_init 47 = .ok (.bipush 16, 2) := by decide +kernel
theorem dX4_init_49 : decode cX4_init 49 = .ok (.newarray .int, 2) := by decide +kernel
theorem dX4_init_51 : decode cX4_init 51 = .ok (.putfield 27, 3) := by decide +kernel
theorem dX4_init_54 : decode cX4_init 54 = .ok (.aload_n 0, 1) := by decide +kernel
theorem dX4_init_55 : decode cX4_init 55 = .ok (.bipush 15, 2) := by decide +kernel
theorem dX4_init_57 : decode cX4_init 57 = .ok (.newarray .int, 2) := by decide +kernel
theorem dX4_init_59 : decode cX4_init 59 = .ok (.putfield 30, 3) := by decide +kernel
theorem dX4_init_62 : decode cX4_init 62 = .ok (.aload_n 0, 1) := by decide +kernel
theorem dX4_init_63 : decode cX4_init 63 = .ok (.aload_n 1, 1) := by decide +kernel
theorem dX4_init_64 : decode cX4_init 64 = .ok (.putfield 33, 3) := by decide +kernel
theorem dX4_init_67 : decode cX4_init 67 = .ok (.return_, 1) := by decide +kernel
theorem dX4_clear_0 : decode cX4_clear 0 = .ok (.aload_n 0, 1) := by decide +kernel
theorem dX4_clear_1 : decode cX4_clear 1 = .ok (.iconst 0, 1) := by decide +kernel
theorem dX4_clear_2 : decode cX4_clear 2 = .ok (.putfield 37, 3) := by decide +kernel
theorem dX4_clear_5 : decode cX4_clear 5 = .ok (.aload_n 0, 1) := by decide +kernel
theorem dX4_clear_6 : decode cX4_clear 6 = .ok (.iconst 0, 1) := by decide +kernel
theorem dX4_clear_7 : decode cX4_clear 7 = .ok (.putfield 41, 3) := by decide +kernel
theorem dX4_clear_10 : decode cX4_clear 10 = .ok (.return_, 1) := by decide +kernel
theorem dX4_add_0 : decode cX4_add 0 = .ok (.aload_n 0, 1) := by decide +kernel
theorem dX4_add_1 : decode cX4_add 1 = .ok (.getfield 37, 3) := by decide +kernel
theorem dX4_add_4 : decode cX4_add 4 = .ok (.istore_n 3, 1) := by decide +kernel
theorem dX4_add_5 : decode cX4_add 5 = .ok (.iload_n 3, 1) := by decide +kernel
theorem dX4_add_6 : decode cX4_add 6 = .ok (.ifCond .lt 36, 3) := by decide +kernel
theorem dX4_add_9 : decode cX4_add 9 = .ok (.iload_n 3, 1) := by decide +kernel
theorem dX4_add_10 : decode cX4_add 10 = .ok (.aload_n 0, 1) := by decide +kernel
theorem dX4_add_11 : decode cX4_add 11 = .ok (.getfield 9, 3) := by decide +kernel
theorem dX4_add_14 : decode cX4_add 14 = .ok (.arraylength, 1) := by decide +kernel
theorem dX4_add_15 : decode cX4_add 15 = .ok (.if_icmp .ge 27, 3) := by decide +kernel
theorem dX4_add_18 : decode cX4_add 18 = .ok (.aload_n 0, 1) := by decide +kernel
theorem dX4_add_19 : decode cX4_add 19 = .ok (.getfield 9, 3) := by decide +kernel
theorem dX4_add_22 : decode cX4_add 22 = .ok (.iload_n 3, 1) := by decide +kernel
theorem dX4_add_23 : decode cX4_add 23 = .ok (.iload_n 1, 1) := by decide +kernel
theorem dX4_add_24 : decode cX4_add 24 = .ok (.iastore, 1) := by decide +kernel
theorem dX4_add_25 : decode cX4_add 25 = .ok (.aload_n 0, 1) := by decide +kernel
theorem dX4_add_26 : decode cX4_add 26 = .ok (.getfield 15, 3) := by decide +kernel
theorem dX4_add_29 : decode cX4_add 29 = .ok (.iload_n 3, 1) := by decide +kernel
theorem dX4_add_30 : decode cX4_add 30 = .ok (.iload_n 2, 1) := by decide +kernel
theorem dX4_add_31 : decode cX4_add 31 = .ok (.iastore, 1) := by decide +kernel
theorem dX4_add_32 : decode cX4_add 32 = .ok (.aload_n 0, 1) := by decide +kernel
theorem dX4_add_33 : decode cX4_add 33 = .ok (.dup, 1) := by decide +kernel
theorem dX4_add_34 : decode cX4_add 34 = .ok (.getfield 37, 3) := by decide +kernel
theorem dX4_add_37 : decode cX4_add 37 = .ok (.iconst 1, 1) := by decide +kernel
theorem dX4_add_38 : decode cX4_add 38 = .ok (.iadd, 1) := by decide +kernel
theorem dX4_add_39 : decode cX4_add 39 = .ok (.putfield 37, 3) := by decide +kernel
theorem dX4_add_42 : decode cX4_add 42 = .ok (.iload_n 3, 1) := by decide +kernel
theorem dX4_add_43 : decode cX4_add 43 = .ok (.ireturn, 1) := by decide +kernel
theorem dX4_leadToHere_0 : decode cX4_leadToHere 0 = .ok (.iload_n 1, 1) := by decide +kernel
theorem dX4_leadToHere_1 : decode cX4_leadToHere 1 = .ok (.ifCond .lt 21, 3) := by decide +kernel
theorem dX4_leadToHere_4 : decode cX4_leadToHere 4 = .ok (.iload_n 1, 1) := by decide +kernel
theorem dX4_leadToHere_5 : decode cX4_leadToHere 5 = .ok (.aload_n 0, 1) := by decide +kernel
theorem dX4_leadToHere_6 : decode cX4_leadToHere 6 = .ok (.getfield 37, 3) := by decide +kernel
theorem dX4_leadToHere_9 : decode cX4_leadToHere 9 = .ok (.if_icmp .ge 13, 3) := by decide +kernel
theorem dX4_leadToHere_12 : decode cX4_leadToHere 12 = .ok (.aload_n 0, 1) := by decide +kernel
theorem dX4_leadToHere_13 : decode cX4_leadToHere 13 = .ok (.getfield 15, 3) := by decide +kernel
theorem dX4_leadToHere_16 : decode cX4_leadToHere 16 = .ok (.iload_n 1, 1) := by decide +kernel
theorem dX4_leadToHere_17 : decode cX4_leadToHere 17 = .ok (.aload_n 0, 1) := by decide +kernel
theorem dX4_leadToHere_18 : decode cX4_leadToHere 18 = .ok (.getfield 37, 3) := by decide +kernel
theorem dX4_leadToHere_21 : decode cX4_leadToHere 21 = .ok (.iastore, 1) := by decide +kernel
theorem dX4_leadToHere_22 : decode cX4_leadToHere 22 = .ok (.return_, 1) := by decide +kernel
theorem dX4_addRule_0 : decode cX4_addRule 0 = .ok (.aload_n 0, 1) := by decide +kernel
theorem dX4_addRule_1 : decode cX4_addRule 1 = .ok (.getfield 41, 3) := by decide +kernel
theorem dX4_addRule_4 : decode cX4_addRule 4 = .ok (.ifCond .lt 68, 3) := by decide +kernel
theorem dX4_addRule_7 : decode cX4_addRule 7 = .ok (.aload_n 0, 1) := by decide +kernel
theorem dX4_addRule_8 : decode cX4_addRule 8 = .ok (.getfield 41, 3) := by decide +kernel
theorem dX4_addRule_11 : decode cX4_addRule 11 = .ok (.aload_n 0, 1) := by decide +kernel
theorem dX4_addRule_12 : decode cX4_addRule 12 = .ok (.getfield 18, 3) := by decide +kernel
theorem dX4_addRule_15 : decode cX4_addRule 15 = .ok (.arraylength, 1) := by decide +kernel
theorem dX4_addRule_16 : decode cX4_addRule 16 = .ok (.if_icmp .ge 56, 3) := by decide +kernel
theorem dX4_addRule_19 : decode cX4_addRule 19 = .ok (.aload_n 0, 1) := by decide +kernel
theorem dX4_addRule_20 : decode cX4_addRule 20 = .ok (.getfield 18, 3) := by decide +kernel
theorem dX4_addRule_23 : decode cX4_addRule 23 = .ok (.aload_n 0, 1) := by decide +kernel
theorem dX4_addRule_24 : decode cX4_addRule 24 = .ok (.getfield 41, 3) := by decide +kernel
theorem dX4_addRule_27 : decode cX4_addRule 27 = .ok (.iload_n 1, 1) := by decide +kernel
theorem dX4_addRule_28 : decode cX4_addRule 28 = .ok (.iastore, 1) := by decide +kernel
theorem dX4_addRule_29 : decode cX4_addRule 29 = .ok (.aload_n 0, 1) := by decide +kernel
theorem dX4_addRule_30 : decode cX4_addRule 30 = .ok (.getfield 21, 3) := by decide +kernel
theorem dX4_addRule_33 : decode cX4_addRule 33 = .ok (.aload_n 0, 1) := by decide +kernel
theorem dX4_addRule_34 : decode cX4_addRule 34 = .ok (.getfield 41, 3) := by decide +kernel
theorem dX4_addRule_37 : decode cX4_addRule 37 = .ok (.iload_n 2, 1) := by decide +kernel
theorem dX4_addRule_38 : decode cX4_addRule 38 = .ok (.iastore, 1) := by decide +kernel
theorem dX4_addRule_39 : decode cX4_addRule 39 = .ok (.aload_n 0, 1) := by decide +kernel
theorem dX4_addRule_40 : decode cX4_addRule 40 = .ok (.getfield 24, 3) := by decide +kernel
theorem dX4_addRule_43 : decode cX4_addRule 43 = .ok (.aload_n 0, 1) := by decide +kernel
theorem dX4_addRule_44 : decode cX4_addRule 44 = .ok (.getfield 41, 3) := by decide +kernel
theorem dX4_addRule_47 : decode cX4_addRule 47 = .ok (.iload_n 3, 1) := by decide +kernel
theorem dX4_addRule_48 : decode cX4_addRule 48 = .ok (.iastore, 1) := by decide +kernel
theorem dX4_addRule_49 : decode cX4_addRule 49 = .ok (.aload_n 0, 1) := by decide +kernel
theorem dX4_addRule_50 : decode cX4_addRule 50 = .ok (.getfield 27, 3) := by decide +kernel
theorem dX4_addRule_53 : decode cX4_addRule 53 = .ok (.aload_n 0, 1) := by decide +kernel
theorem dX4_addRule_54 : decode cX4_addRule 54 = .ok (.getfield 41, 3) := by decide +kernel
theorem dX4_addRule_57 : decode cX4_addRule 57 = .ok (.aload_n 0, 1) := by decide +kernel
theorem dX4_addRule_58 : decode cX4_addRule 58 = .ok (.getfield 37, 3) := by decide +kernel
theorem dX4_addRule_61 : decode cX4_addRule 61 = .ok (.iastore, 1) := by decide +kernel
theorem dX4_addRule_62 : decode cX4_addRule 62 = .ok (.aload_n 0, 1) := by decide +kernel
theorem dX4_addRule_63 : decode cX4_addRule 63 = .ok (.dup, 1) := by decide +kernel
theorem dX4_addRule_64 : decode cX4_addRule 64 = .ok (.getfield 41, 3) := by decide +kernel
theorem dX4_addRule_67 : decode cX4_addRule 67 = .ok (.iconst 1, 1) := by decide +kernel
theorem dX4_addRule_68 : decode cX4_addRule 68 = .ok (.iadd, 1) := by decide +kernel
theorem dX4_addRule_69 : decode cX4_addRule 69 = .ok (.putfield 41, 3) := by decide +kernel
theorem dX4_addRule_72 : decode cX4_addRule 72 = .ok (.return_, 1) := by decide +kernel
theorem dX4_look_0 : decode cX4_look 0 = .ok (.aload_n 0, 1) := by decide +kernel
theorem dX4_look_1 : decode cX4_look 1 = .ok (.aload_n 1, 1) := by decide +kernel
theorem dX4_look_2 : decode cX4_look 2 = .ok (.putfield 33, 3) := by decide +kernel
theorem dX4_look_5 : decode cX4_look 5 = .ok (.aload_n 0, 1) := by decide +kernel
theorem dX4_look_6 : decode cX4_look 6 = .ok (.iload_n 2, 1) := by decide +kernel
theorem dX4_look_7 : decode cX4_look 7 = .ok (.putfield 44, 3) := by decide +kernel
theorem dX4_look_10 : decode cX4_look 10 = .ok (.aload_n 0, 1) := by decide +kernel
theorem dX4_look_11 : decode cX4_look 11 = .ok (.iload_n 3, 1) := by decide +kernel
theorem dX4_look_12 : decode cX4_look 12 = .ok (.putfield 47, 3) := by decide +kernel
theorem dX4_look_15 : decode cX4_look 15 = .ok (.aload_n 0, 1) := by decide +kernel
theorem dX4_look_16 : decode cX4_look 16 = .ok (.iload 4, 2) := by decide +kernel
theorem dX4_look_18 : decode cX4_look 18 = .ok (.putfield 50, 3) := by decide +kernel
theorem dX4_look_21 : decode cX4_look 21 = .ok (.return_, 1) := by decide +kernel
theorem dX4_isFog_0 : decode cX4_isFog 0 = .ok (.iconst 0, 1) := by decide +kernel
theorem dX4_isFog_1 : decode cX4_isFog 1 = .ok (.istore_n 1, 1) := by decide +kernel
theorem dX4_isFog_2 : decode cX4_isFog 2 = .ok (.iload_n 1, 1) := by decide +kernel
theorem dX4_isFog_3 : decode cX4_isFog 3 = .ok (.aload_n 0, 1) := by decide +kernel
theorem dX4_isFog_4 : decode cX4_isFog 4 = .ok (.getfield 41, 3) := by decide +kernel
theorem dX4_isFog_7 : decode cX4_isFog 7 = .ok (.if_icmp .ge 58, 3) := by decide +kernel
theorem dX4_isFog_10 : decode cX4_isFog 10 = .ok (.iload_n 1, 1) := by decide +kernel
theorem dX4_isFog_11 : decode cX4_isFog 11 = .ok (.bipush 16, 2) := by decide +kernel
theorem dX4_isFog_13 : decode cX4_isFog 13 = .ok (.if_icmp .ge 52, 3) := by decide +kernel
theorem dX4_isFog_16 : decode cX4_isFog 16 = .ok (.aload_n 0, 1) := by decide +kernel
theorem dX4_isFog_17 : decode cX4_isFog 17 = .ok (.getfield 18, 3) := by decide +kernel
theorem dX4_isFog_20 : decode cX4_isFog 20 = .ok (.iload_n 1, 1) := by decide +kernel
theorem dX4_isFog_21 : decode cX4_isFog 21 = .ok (.iaload, 1) := by decide +kernel
theorem dX4_isFog_22 : decode cX4_isFog 22 = .ok (.bipush 120, 2) := by decide +kernel
theorem dX4_isFog_24 : decode cX4_isFog 24 = .ok (.if_icmp .ne 35, 3) := by decide +kernel
theorem dX4_isFog_27 : decode cX4_isFog 27 = .ok (.aload_n 0, 1) := by decide +kernel
theorem dX4_isFog_28 : decode cX4_isFog 28 = .ok (.aload_n 0, 1) := by decide +kernel
theorem dX4_isFog_29 : decode cX4_isFog 29 = .ok (.getfield 24, 3) := by decide +kernel
theorem dX4_isFog_32 : decode cX4_isFog 32 = .ok (.iload_n 1, 1) := by decide +kernel
theorem dX4_isFog_33 : decode cX4_isFog 33 = .ok (.iaload, 1) := by decide +kernel
theorem dX4_isFog_34 : decode cX4_isFog 34 = .ok (.aload_n 0, 1) := by decide +kernel
theorem dX4_isFog_35 : decode cX4_isFog 35 = .ok (.getfield 27, 3) := by decide +kernel
theorem dX4_isFog_38 : decode cX4_isFog 38 = .ok (.iload_n 1, 1) := by decide +kernel
theorem dX4_isFog_39 : decode cX4_isFog 39 = .ok (.iaload, 1) := by decide +kernel
theorem dX4_isFog_40 : decode cX4_isFog 40 = .ok (.invokevirtual 53, 3) := by decide +kernel
theorem dX4_isFog_43 : decode cX4_isFog 43 = .ok (.aload_n 0, 1) := by decide +kernel
theorem dX4_isFog_44 : decode cX4_isFog 44 = .ok (.getfield 57, 3) := by decide +kernel
theorem dX4_isFog_47 : decode cX4_isFog 47 = .ok (.ifCond .eq 12, 3) := by decide +kernel
theorem dX4_isFog_50 : decode cX4_isFog 50 = .ok (.aload_n 0, 1) := by decide +kernel
theorem dX4_isFog_51 : decode cX4_isFog 51 = .ok (.getfield 61, 3) := by decide +kernel
theorem dX4_isFog_54 : decode cX4_isFog 54 = .ok (.ifCond .ne 5, 3) := by decide +kernel
theorem dX4_isFog_57 : decode cX4_isFog 57 = .ok (.iconst 1, 1) := by decide +kernel
theorem dX4_isFog_58 : decode cX4_isFog 58 = .ok (.ireturn, 1) := by decide +kernel
theorem dX4_isFog_59 : decode cX4_isFog 59 = .ok (.iinc 1 1, 3) := by decide +kernel
theorem dX4_isFog_62 : decode cX4_isFog 62 = .ok (.goto (-60), 3) := by decide +kernel
theorem dX4_isFog_65 : decode cX4_isFog 65 = .ok (.iconst 0, 1) := by decide +kernel
theorem dX4_isFog_66 : decode cX4_isFog 66 = .ok (.ireturn, 1) := by decide +kernel
theorem dX4_amountOf_0 : decode cX4_amountOf 0 = .ok (.iconst 0, 1) := by decide +kernel
theorem dX4_amountOf_1 : decode cX4_amountOf 1 = .ok (.istore_n 3, 1) := by decide +kernel
theorem dX4_amountOf_2 : decode cX4_amountOf 2 = .ok (.iload_n 3, 1) := by decide +kernel
theorem dX4_amountOf_3 : decode cX4_amountOf 3 = .ok (.aload_n 0, 1) := by decide +kernel
theorem dX4_amountOf_4 : decode cX4_amountOf 4 = .ok (.getfield 41, 3) := by decide +kernel
theorem dX4_amountOf_7 : decode cX4_amountOf 7 = .ok (.if_icmp .ge 97, 3) := by decide +kernel
theorem dX4_amountOf_10 : decode cX4_amountOf 10 = .ok (.iload_n 3, 1) := by decide +kernel
theorem dX4_amountOf_11 : decode cX4_amountOf 11 = .ok (.bipush 16, 2) := by decide +kernel
theorem dX4_amountOf_13 : decode cX4_amountOf 13 = .ok (.if_icmp .ge 91, 3) := by decide +kernel
theorem dX4_amountOf_16 : decode cX4_amountOf 16 = .ok (.aload_n 0, 1) := by decide +kernel
theorem dX4_amountOf_17 : decode cX4_amountOf 17 = .ok (.getfield 18, 3) := by decide +kernel
theorem dX4_amountOf_20 : decode cX4_amountOf 20 = .ok (.iload_n 3, 1) := by decide +kernel
theorem dX4_amountOf_21 : decode cX4_amountOf 21 = .ok (.iaload, 1) := by decide +kernel
theorem dX4_amountOf_22 : decode cX4_amountOf 22 = .ok (.iload_n 1, 1) := by decide +kernel
theorem dX4_amountOf_23 : decode cX4_amountOf 23 = .ok (.if_icmp .ne 75, 3) := by decide +kernel
theorem dX4_amountOf_26 : decode cX4_amountOf 26 = .ok (.aload_n 0, 1) := by decide +kernel
theorem dX4_amountOf_27 : decode cX4_amountOf 27 = .ok (.aload_n 0, 1) := by decide +kernel
theorem dX4_amountOf_28 : decode cX4_amountOf 28 = .ok (.getfield 24, 3) := by decide +kernel
theorem dX4_amountOf_31 : decode cX4_amountOf 31 = .ok (.iload_n 3, 1) := by decide +kernel
theorem dX4_amountOf_32 : decode cX4_amountOf 32 = .ok (.iaload, 1) := by decide +kernel
theorem dX4_amountOf_33 : decode cX4_amountOf 33 = .ok (.aload_n 0, 1) := by decide +kernel
theorem dX4_amountOf_34 : decode cX4_amountOf 34 = .ok (.getfield 27, 3) := by decide +kernel
theorem dX4_amountOf_37 : decode cX4_amountOf 37 = .ok (.iload_n 3, 1) := by decide +kernel
theorem dX4_amountOf_38 : decode cX4_amountOf 38 = .ok (.iaload, 1) := by decide +kernel
theorem dX4_amountOf_39 : decode cX4_amountOf 39 = .ok (.invokevirtual 53, 3) := by decide +kernel
theorem dX4_amountOf_42 : decode cX4_amountOf 42 = .ok (.aload_n 0, 1) := by decide +kernel
theorem dX4_amountOf_43 : decode cX4_amountOf 43 = .ok (.getfield 57, 3) := by decide +kernel
theorem dX4_amountOf_46 : decode cX4_amountOf 46 = .ok (.ifCond .eq 52, 3) := by decide +kernel
theorem dX4_amountOf_49 : decode cX4_amountOf 49 = .ok (.aload_n 0, 1) := by decide +kernel
theorem dX4_amountOf_50 : decode cX4_amountOf 50 = .ok (.getfield 61, 3) := by decide +kernel
theorem dX4_amountOf_53 : decode cX4_amountOf 53 = .ok (.ifCond .ne 45, 3) := by decide +kernel
theorem dX4_amountOf_56 : decode cX4_amountOf 56 = .ok (.aload_n 0, 1) := by decide +kernel
theorem dX4_amountOf_57 : decode cX4_amountOf 57 = .ok (.aload_n 0, 1) := by decide +kernel
theorem dX4_amountOf_58 : decode cX4_amountOf 58 = .ok (.getfield 21, 3) := by decide +kernel
theorem dX4_amountOf_61 : decode cX4_amountOf 61 = .ok (.iload_n 3, 1) := by decide +kernel
theorem dX4_amountOf_62 : decode cX4_amountOf 62 = .ok (.iaload, 1) := by decide +kernel
theorem dX4_amountOf_63 : decode cX4_amountOf 63 = .ok (.aload_n 0, 1) := by decide +kernel
theorem dX4_amountOf_64 : decode cX4_amountOf 64 = .ok (.getfield 24, 3) := by decide +kernel
theorem dX4_amountOf_67 : decode cX4_amountOf 67 = .ok (.iload_n 3, 1) := by decide +kernel
theorem dX4_amountOf_68 : decode cX4_amountOf 68 = .ok (.iaload, 1) := by decide +kernel
theorem dX4_amountOf_69 : decode cX4_amountOf 69 = .ok (.invokevirtual 53, 3) := by decide +kernel
theorem dX4_amountOf_72 : decode cX4_amountOf 72 = .ok (.aload_n 0, 1) := by decide +kernel
theorem dX4_amountOf_73 : decode cX4_amountOf 73 = .ok (.getfield 61, 3) := by decide +kernel
theorem dX4_amountOf_76 : decode cX4_amountOf 76 = .ok (.ifCond .eq 7, 3) := by decide +kernel
theorem dX4_amountOf_79 : decode cX4_amountOf 79 = .ok (.iconst 0, 1) := by decide +kernel
theorem dX4_amountOf_80 : decode cX4_amountOf 80 = .ok (.goto 17, 3) := by decide +kernel
theorem dX4_amountOf_83 : decode cX4_amountOf 83 = .ok (.iconst 0, 1) := by decide +kernel
theorem dX4_amountOf_84 : decode cX4_amountOf 84 = .ok (.iload_n 2, 1) := by decide +kernel
theorem dX4_amountOf_85 : decode cX4_amountOf 85 = .ok (.aload_n 0, 1) := by decide +kernel
theorem dX4_amountOf_86 : decode cX4_amountOf 86 = .ok (.getfield 30, 3) := by decide +kernel
theorem dX4_amountOf_89 : decode cX4_amountOf 89 = .ok (.iconst 0, 1) := by decide +kernel
theorem dX4_amountOf_90 : decode cX4_amountOf 90 = .ok (.iaload, 1) := by decide +kernel
theorem dX4_amountOf_91 : decode cX4_amountOf 91 = .ok (.invokestatic 64, 3) := by decide +kernel
theorem dX4_amountOf_94 : decode cX4_amountOf 94 = .ok (.invokestatic 70, 3) := by decide +kernel
theorem dX4_amountOf_97 : decode cX4_amountOf 97 = .ok (.ireturn, 1) := by decide +kernel
theorem dX4_amountOf_98 : decode cX4_amountOf 98 = .ok (.iinc 3 1, 3) := by decide +kernel
theorem dX4_amountOf_101 : decode cX4_amountOf 101 = .ok (.goto (-99), 3) := by decide +kernel
theorem dX4_amountOf_104 : decode cX4_amountOf 104 = .ok (.iconst 0, 1) := by decide +kernel
theorem dX4_amountOf_105 : decode cX4_amountOf 105 = .ok (.ireturn, 1) := by decide +kernel
theorem dX4_run_0 : decode cX4_run 0 = .ok (.aload_n 0, 1) := by decide +kernel
theorem dX4_run_1 : decode cX4_run 1 = .ok (.iconst 0, 1) := by decide +kernel
theorem dX4_run_2 : decode cX4_run 2 = .ok (.putfield 73, 3) := by decide +kernel
theorem dX4_run_5 : decode cX4_run 5 = .ok (.aload_n 0, 1) := by decide +kernel
theorem dX4_run_6 : decode cX4_run 6 = .ok (.iconst 0, 1) := by decide +kernel
theorem dX4_run_7 : decode cX4_run 7 = .ok (.putfield 57, 3) := by decide +kernel
theorem dX4_run_10 : decode cX4_run 10 = .ok (.aload_n 0, 1) := by decide +kernel
theorem dX4_run_11 : decode cX4_run 11 = .ok (.iconst 0, 1) := by decide +kernel
theorem dX4_run_12 : decode cX4_run 12 = .ok (.putfield 61, 3) := by decide +kernel
theorem dX4_run_15 : decode cX4_run 15 = .ok (.iload_n 1, 1) := by decide +kernel
theorem dX4_run_16 : decode cX4_run 16 = .ok (.istore_n 3, 1) := by decide +kernel
theorem dX4_run_17 : decode cX4_run 17 = .ok (.iconst 0, 1) := by decide +kernel
theorem dX4_run_18 : decode cX4_run 18 = .ok (.istore 4, 2) := by decide +kernel
theorem dX4_run_20 : decode cX4_run 20 = .ok (.iload 4, 2) := by decide +kernel
theorem dX4_run_22 : decode cX4_run 22 = .ok (.sipush 240, 3) := by decide +kernel
theorem dX4_run_25 : decode cX4_run 25 = .ok (.if_icmp .ge 257, 3) := by decide +kernel
theorem dX4_run_28 : decode cX4_run 28 = .ok (.iload_n 3, 1) := by decide +kernel
theorem dX4_run_29 : decode cX4_run 29 = .ok (.ifCond .lt 253, 3) := by decide +kernel
theorem dX4_run_32 : decode cX4_run 32 = .ok (.iload_n 3, 1) := by decide +kernel
theorem dX4_run_33 : decode cX4_run 33 = .ok (.iload_n 2, 1) := by decide +kernel
theorem dX4_run_34 : decode cX4_run 34 = .ok (.if_icmp .ge 248, 3) := by decide +kernel
theorem dX4_run_37 : decode cX4_run 37 = .ok (.iload_n 3, 1) := by decide +kernel
theorem dX4_run_38 : decode cX4_run 38 = .ok (.aload_n 0, 1) := by decide +kernel
theorem dX4_run_39 : decode cX4_run 39 = .ok (.getfield 37, 3) := by decide +kernel
theorem dX4_run_42 : decode cX4_run 42 = .ok (.if_icmp .ge 240, 3) := by decide +kernel
theorem dX4_run_45 : decode cX4_run 45 = .ok (.aload_n 0, 1) := by decide +kernel
theorem dX4_run_46 : decode cX4_run 46 = .ok (.getfield 61, 3) := by decide +kernel
theorem dX4_run_49 : decode cX4_run 49 = .ok (.ifCond .ne 233, 3) := by decide +kernel
theorem dX4_run_52 : decode cX4_run 52 = .ok (.aload_n 0, 1) := by decide +kernel
theorem dX4_run_53 : decode cX4_run 53 = .ok (.getfield 9, 3) := by decide +kernel
theorem dX4_run_56 : decode cX4_run 56 = .ok (.iload_n 3, 1) := by decide +kernel
theorem dX4_run_57 : decode cX4_run 57 = .ok (.iaload, 1) := by decide +kernel
theorem dX4_run_58 : decode cX4_run 58 = .ok (.istore 5, 2) := by decide +kernel
theorem dX4_run_60 : decode cX4_run 60 = .ok (.iload_n 3, 1) := by decide +kernel
theorem dX4_run_61 : decode cX4_run 61 = .ok (.iconst 1, 1) := by decide +kernel
theorem dX4_run_62 : decode cX4_run 62 = .ok (.iadd, 1) := by decide +kernel
theorem dX4_run_63 : decode cX4_run 63 = .ok (.istore 6, 2) := by decide +kernel
theorem dX4_run_65 : decode cX4_run 65 = .ok (.iload 5, 2) := by decide +kernel
theorem dX4_run_67 : decode cX4_run 67 = .ok (.lookupswitch 180 #[(33, 143), (37, 171), (38, 120), (42, 171), (43, 171), (45, 171), (47, 171), (60, 162), (61, 162), (62, 162), (124, 97)], 97) := by decide +kernel
theorem dX4_run_164 : decode cX4_run 164 = .ok (.aload_n 0, 1) := by decide +kernel
theorem dX4_run_165 : decode cX4_run 165 = .ok (.getfield 57, 3) := by decide +kernel
theorem dX4_run_168 : decode cX4_run 168 = .ok (.ifCond .eq 12, 3) := by decide +kernel
theorem dX4_run_171 : decode cX4_run 171 = .ok (.aload_n 0, 1) := by decide +kernel
theorem dX4_run_172 : decode cX4_run 172 = .ok (.getfield 15, 3) := by decide +kernel
theorem dX4_run_175 : decode cX4_run 175 = .ok (.iload_n 3, 1) := by decide +kernel
theorem dX4_run_176 : decode cX4_run 176 = .ok (.iaload, 1) := by decide +kernel
theorem dX4_run_177 : decode cX4_run 177 = .ok (.goto 5, 3) := by decide +kernel
theorem dX4_run_180 : decode cX4_run 180 = .ok (.iload 6, 2) := by decide +kernel
theorem dX4_run_182 : decode cX4_run 182 = .ok (.istore 6, 2) := by decide +kernel
theorem dX4_run_184 : decode cX4_run 184 = .ok (.goto 89, 3) := by decide +kernel
theorem dX4_run_187 : decode cX4_run 187 = .ok (.aload_n 0, 1) := by decide +kernel
theorem dX4_run_188 : decode cX4_run 188 = .ok (.getfield 57, 3) := by decide +kernel
theorem dX4_run_191 : decode cX4_run 191 = .ok (.ifCond .eq 8, 3) := by decide +kernel
theorem dX4_run_194 : decode cX4_run 194 = .ok (.iload 6, 2) := by decide +kernel
theorem dX4_run_196 : decode cX4_run 196 = .ok (.goto 9, 3) := by decide +kernel
theorem dX4_run_199 : decode cX4_run 199 = .ok (.aload_n 0, 1) := by decide +kernel
theorem dX4_run_200 : decode cX4_run 200 = .ok (.getfield 15, 3) := by decide +kernel
theorem dX4_run_203 : decode cX4_run 203 = .ok (.iload_n 3, 1) := by decide +kernel
theorem dX4_run_204 : decode cX4_run 204 = .ok (.iaload, 1) := by decide +kernel
theorem dX4_run_205 : decode cX4_run 205 = .ok (.istore 6, 2) := by decide +kernel
theorem dX4_run_207 : decode cX4_run 207 = .ok (.goto 66, 3) := by decide +kernel
theorem dX4_run_210 : decode cX4_run 210 = .ok (.aload_n 0, 1) := by decide +kernel
theorem dX4_run_211 : decode cX4_run 211 = .ok (.aload_n 0, 1) := by decide +kernel
theorem dX4_run_212 : decode cX4_run 212 = .ok (.getfield 57, 3) := by decide +kernel
theorem dX4_run_215 : decode cX4_run 215 = .ok (.ifCond .ne 7, 3) := by decide +kernel
theorem dX4_run_218 : decode cX4_run 218 = .ok (.iconst 1, 1) := by decide +kernel
theorem dX4_run_219 : decode cX4_run 219 = .ok (.goto 4, 3) := by decide +kernel
theorem dX4_run_222 : decode cX4_run 222 = .ok (.iconst 0, 1) := by decide +kernel
theorem dX4_run_223 : decode cX4_run 223 = .ok (.putfield 57, 3) := by decide +kernel
theorem dX4_run_226 : decode cX4_run 226 = .ok (.goto 47, 3) := by decide +kernel
theorem dX4_run_229 : decode cX4_run 229 = .ok (.aload_n 0, 1) := by decide +kernel
theorem dX4_run_230 : decode cX4_run 230 = .ok (.iload 5, 2) := by decide +kernel
theorem dX4_run_232 : decode cX4_run 232 = .ok (.invokevirtual 76, 3) := by decide +kernel
theorem dX4_run_235 : decode cX4_run 235 = .ok (.goto 38, 3) := by decide +kernel
theorem dX4_run_238 : decode cX4_run 238 = .ok (.aload_n 0, 1) := by decide +kernel
theorem dX4_run_239 : decode cX4_run 239 = .ok (.iload 5, 2) := by decide +kernel
theorem dX4_run_241 : decode cX4_run 241 = .ok (.invokevirtual 80, 3) := by decide +kernel
theorem dX4_run_244 : decode cX4_run 244 = .ok (.goto 29, 3) := by decide +kernel
theorem dX4_run_247 : decode cX4_run 247 = .ok (.aload_n 0, 1) := by decide +kernel
theorem dX4_run_248 : decode cX4_run 248 = .ok (.iload 5, 2) := by decide +kernel
theorem dX4_run_250 : decode cX4_run 250 = .ok (.bipush 48, 2) := by decide +kernel
theorem dX4_run_252 : decode cX4_run 252 = .ok (.if_icmp .ne 12, 3) := by decide +kernel
theorem dX4_run_255 : decode cX4_run 255 = .ok (.aload_n 0, 1) := by decide +kernel
theorem dX4_run_256 : decode cX4_run 256 = .ok (.getfield 15, 3) := by decide +kernel
theorem dX4_run_259 : decode cX4_run 259 = .ok (.iload_n 3, 1) := by decide +kernel
theorem dX4_run_260 : decode cX4_run 260 = .ok (.iaload, 1) := by decide +kernel
theorem dX4_run_261 : decode cX4_run 261 = .ok (.goto 9, 3) := by decide +kernel
theorem dX4_run_264 : decode cX4_run 264 = .ok (.aload_n 0, 1) := by decide +kernel
theorem dX4_run_265 : decode cX4_run 265 = .ok (.iload 5, 2) := by decide +kernel
theorem dX4_run_267 : decode cX4_run 267 = .ok (.invokevirtual 83, 3) := by decide +kernel
theorem dX4_run_270 : decode cX4_run 270 = .ok (.invokevirtual 87, 3) := by decide +kernel
theorem dX4_run_273 : decode cX4_run 273 = .ok (.iload 6, 2) := by decide +kernel
theorem dX4_run_275 : decode cX4_run 275 = .ok (.istore_n 3, 1) := by decide +kernel
theorem dX4_run_276 : decode cX4_run 276 = .ok (.iinc 4 1, 3) := by decide +kernel
theorem dX4_run_279 : decode cX4_run 279 = .ok (.goto (-259), 3) := by decide +kernel
theorem dX4_run_282 : decode cX4_run 282 = .ok (.return_, 1) := by decide +kernel
theorem dX4_push_0 : decode cX4_push 0 = .ok (.aload_n 0, 1) := by decide +kernel
theorem dX4_push_1 : decode cX4_push 1 = .ok (.getfield 73, 3) := by decide +kernel
theorem dX4_push_4 : decode cX4_push 4 = .ok (.ifCond .lt 32, 3) := by decide +kernel
theorem dX4_push_7 : decode cX4_push 7 = .ok (.aload_n 0, 1) := by decide +kernel
theorem dX4_push_8 : decode cX4_push 8 = .ok (.getfield 73, 3) := by decide +kernel
theorem dX4_push_11 : decode cX4_push 11 = .ok (.bipush 15, 2) := by decide +kernel
theorem dX4_push_13 : decode cX4_push 13 = .ok (.if_icmp .ge 23, 3) := by decide +kernel
theorem dX4_push_16 : decode cX4_push 16 = .ok (.aload_n 0, 1) := by decide +kernel
theorem dX4_push_17 : decode cX4_push 17 = .ok (.getfield 30, 3) := by decide +kernel
theorem dX4_push_20 : decode cX4_push 20 = .ok (.aload_n 0, 1) := by decide +kernel
theorem dX4_push_21 : decode cX4_push 21 = .ok (.getfield 73, 3) := by decide +kernel
theorem dX4_push_24 : decode cX4_push 24 = .ok (.iload_n 1, 1) := by decide +kernel
theorem dX4_push_25 : decode cX4_push 25 = .ok (.iastore, 1) := by decide +kernel
theorem dX4_push_26 : decode cX4_push 26 = .ok (.aload_n 0, 1) := by decide +kernel
theorem dX4_push_27 : decode cX4_push 27 = .ok (.dup, 1) := by decide +kernel
theorem dX4_push_28 : decode cX4_push 28 = .ok (.getfield 73, 3) := by decide +kernel
theorem dX4_push_31 : decode cX4_push 31 = .ok (.iconst 1, 1) := by decide +kernel
theorem dX4_push_32 : decode cX4_push 32 = .ok (.iadd, 1) := by decide +kernel
theorem dX4_push_33 : decode cX4_push 33 = .ok (.putfield 73, 3) := by decide +kernel
theorem dX4_push_36 : decode cX4_push 36 = .ok (.return_, 1) := by decide +kernel
theorem dX4_compareTwo_0 : decode cX4_compareTwo 0 = .ok (.aload_n 0, 1) := by decide +kernel
theorem dX4_compareTwo_1 : decode cX4_compareTwo 1 = .ok (.getfield 73, 3) := by decide +kernel
theorem dX4_compareTwo_4 : decode cX4_compareTwo 4 = .ok (.iconst 2, 1) := by decide +kernel
theorem dX4_compareTwo_5 : decode cX4_compareTwo 5 = .ok (.if_icmp .lt 12, 3) := by decide +kernel
theorem dX4_compareTwo_8 : decode cX4_compareTwo 8 = .ok (.aload_n 0, 1) := by decide +kernel
theorem dX4_compareTwo_9 : decode cX4_compareTwo 9 = .ok (.getfield 73, 3) := by decide +kernel
theorem dX4_compareTwo_12 : decode cX4_compareTwo 12 = .ok (.bipush 15, 2) := by decide +kernel
theorem dX4_compareTwo_14 : decode cX4_compareTwo 14 = .ok (.if_icmp .le 4, 3) := by decide +kernel
theorem dX4_compareTwo_17 : decode cX4_compareTwo 17 = .ok (.return_, 1) := by decide +kernel
theorem dX4_compareTwo_18 : decode cX4_compareTwo 18 = .ok (.aload_n 0, 1) := by decide +kernel
theorem dX4_compareTwo_19 : decode cX4_compareTwo 19 = .ok (.getfield 30, 3) := by decide +kernel
theorem dX4_compareTwo_22 : decode cX4_compareTwo 22 = .ok (.aload_n 0, 1) := by decide +kernel
theorem dX4_compareTwo_23 : decode cX4_compareTwo 23 = .ok (.getfield 73, 3) := by decide +kernel
theorem dX4_compareTwo_26 : decode cX4_compareTwo 26 = .ok (.iconst 1, 1) := by decide +kernel
theorem dX4_compareTwo_27 : decode cX4_compareTwo 27 = .ok (.isub, 1) := by decide +kernel
theorem dX4_compareTwo_28 : decode cX4_compareTwo 28 = .ok (.iaload, 1) := by decide +kernel
theorem dX4_compareTwo_29 : decode cX4_compareTwo 29 = .ok (.istore_n 2, 1) := by decide +kernel
theorem dX4_compareTwo_30 : decode cX4_compareTwo 30 = .ok (.aload_n 0, 1) := by decide +kernel
theorem dX4_compareTwo_31 : decode cX4_compareTwo 31 = .ok (.getfield 30, 3) := by decide +kernel
theorem dX4_compareTwo_34 : decode cX4_compareTwo 34 = .ok (.aload_n 0, 1) := by decide +kernel
theorem dX4_compareTwo_35 : decode cX4_compareTwo 35 = .ok (.getfield 73, 3) := by decide +kernel
theorem dX4_compareTwo_38 : decode cX4_compareTwo 38 = .ok (.iconst 2, 1) := by decide +kernel
theorem dX4_compareTwo_39 : decode cX4_compareTwo 39 = .ok (.isub, 1) := by decide +kernel
theorem dX4_compareTwo_40 : decode cX4_compareTwo 40 = .ok (.iaload, 1) := by decide +kernel
theorem dX4_compareTwo_41 : decode cX4_compareTwo 41 = .ok (.istore_n 3, 1) := by decide +kernel
theorem dX4_compareTwo_42 : decode cX4_compareTwo 42 = .ok (.aload_n 0, 1) := by decide +kernel
theorem dX4_compareTwo_43 : decode cX4_compareTwo 43 = .ok (.dup, 1) := by decide +kernel
theorem dX4_compareTwo_44 : decode cX4_compareTwo 44 = .ok (.getfield 73, 3) := by decide +kernel
theorem dX4_compareTwo_47 : decode cX4_compareTwo 47 = .ok (.iconst 2, 1) := by decide +kernel
theorem dX4_compareTwo_48 : decode cX4_compareTwo 48 = .ok (.isub, 1) := by decide +kernel
theorem dX4_compareTwo_49 : decode cX4_compareTwo 49 = .ok (.putfield 73, 3) := by decide +kernel
theorem dX4_compareTwo_52 : decode cX4_compareTwo 52 = .ok (.aload_n 0, 1) := by decide +kernel
theorem dX4_compareTwo_53 : decode cX4_compareTwo 53 = .ok (.iload_n 1, 1) := by decide +kernel
theorem dX4_compareTwo_54 : decode cX4_compareTwo 54 = .ok (.bipush 60, 2) := by decide +kernel
theorem dX4_compareTwo_56 : decode cX4_compareTwo 56 = .ok (.if_icmp .ne 16, 3) := by decide +kernel
theorem dX4_compareTwo_59 : decode cX4_compareTwo 59 = .ok (.iload_n 3, 1) := by decide +kernel
theorem dX4_compareTwo_60 : decode cX4_compareTwo 60 = .ok (.iload_n 2, 1) := by decide +kernel
theorem dX4_compareTwo_61 : decode cX4_compareTwo 61 = .ok (.if_icmp .ge 7, 3) := by decide +kernel
theorem dX4_compareTwo_64 : decode cX4_compareTwo 64 = .ok (.iconst 1, 1) := by decide +kernel
theorem dX4_compareTwo_65 : decode cX4_compareTwo 65 = .ok (.goto 36, 3) := by decide +kernel
theorem dX4_compareTwo_68 : decode cX4_compareTwo 68 = .ok (.iconst 0, 1) := by decide +kernel
theorem dX4_compareTwo_69 : decode cX4_compareTwo 69 = .ok (.goto 32, 3) := by decide +kernel
theorem dX4_compareTwo_72 : decode cX4_compareTwo 72 = .ok (.iload_n 1, 1) := by decide +kernel
theorem dX4_compareTwo_73 : decode cX4_compareTwo 73 = .ok (.bipush 62, 2) := by decide +kernel
theorem dX4_compareTwo_75 : decode cX4_compareTwo 75 = .ok (.if_icmp .ne 16, 3) := by decide +kernel
theorem dX4_compareTwo_78 : decode cX4_compareTwo 78 = .ok (.iload_n 3, 1) := by decide +kernel
theorem dX4_compareTwo_79 : decode cX4_compareTwo 79 = .ok (.iload_n 2, 1) := by decide +kernel
theorem dX4_compareTwo_80 : decode cX4_compareTwo 80 = .ok (.if_icmp .le 7, 3) := by decide +kernel
theorem dX4_compareTwo_83 : decode cX4_compareTwo 83 = .ok (.iconst 1, 1) := by decide +kernel
theorem dX4_compareTwo_84 : decode cX4_compareTwo 84 = .ok (.goto 17, 3) := by decide +kernel
theorem dX4_compareTwo_87 : decode cX4_compareTwo 87 = .ok (.iconst 0, 1) := by decide +kernel
theorem dX4_compareTwo_88 : decode cX4_compareTwo 88 = .ok (.goto 13, 3) := by decide +kernel
theorem dX4_compareTwo_91 : decode cX4_compareTwo 91 = .ok (.iload_n 3, 1) := by decide +kernel
theorem dX4_compareTwo_92 : decode cX4_compareTwo 92 = .ok (.iload_n 2, 1) := by decide +kernel
theorem dX4_compareTwo_93 : decode cX4_compareTwo 93 = .ok (.if_icmp .ne 7, 3) := by decide +kernel
theorem dX4_compareTwo_96 : decode cX4_compareTwo 96 = .ok (.iconst 1, 1) := by decide +kernel
theorem dX4_compareTwo_97 : decode cX4_compareTwo 97 = .ok (.goto 4, 3) := by decide +kernel
theorem dX4_compareTwo_100 : decode cX4_compareTwo 100 = .ok (.iconst 0, 1) := by decide +kernel
theorem dX4_compareTwo_101 : decode cX4_compareTwo 101 = .ok (.putfield 57, 3) := by decide +kernel
theorem dX4_compareTwo_104 : decode cX4_compareTwo 104 = .ok (.return_, 1) := by decide +kernel
theorem dX4_reckonTwo_0 : decode cX4_reckonTwo 0 = .ok (.aload_n 0, 1) := by decide +kernel
theorem dX4_reckonTwo_1 : decode cX4_reckonTwo 1 = .ok (.getfield 73, 3) := by decide +kernel
theorem dX4_reckonTwo_4 : decode cX4_reckonTwo 4 = .ok (.iconst 2, 1) := by decide +kernel
theorem dX4_reckonTwo_5 : decode cX4_reckonTwo 5 = .ok (.if_icmp .lt 12, 3) := by decide +kernel
theorem dX4_reckonTwo_8 : decode cX4_reckonTwo 8 = .ok (.aload_n 0, 1) := by decide +kernel
theorem dX4_reckonTwo_9 : decode cX4_reckonTwo 9 = .ok (.getfield 73, 3) := by decide +kernel
theorem dX4_reckonTwo_12 : decode cX4_reckonTwo 12 = .ok (.bipush 15, 2) := by decide +kernel
theorem dX4_reckonTwo_14 : decode cX4_reckonTwo 14 = .ok (.if_icmp .le 4, 3) := by decide +kernel
theorem dX4_reckonTwo_17 : decode cX4_reckonTwo 17 = .ok (.return_, 1) := by decide +kernel
theorem dX4_reckonTwo_18 : decode cX4_reckonTwo 18 = .ok (.aload_n 0, 1) := by decide +kernel
theorem dX4_reckonTwo_19 : decode cX4_reckonTwo 19 = .ok (.getfield 30, 3) := by decide +kernel
theorem dX4_reckonTwo_22 : decode cX4_reckonTwo 22 = .ok (.aload_n 0, 1) := by decide +kernel
theorem dX4_reckonTwo_23 : decode cX4_reckonTwo 23 = .ok (.getfield 73, 3) := by decide +kernel
theorem dX4_reckonTwo_26 : decode cX4_reckonTwo 26 = .ok (.iconst 1, 1) := by decide +kernel
theorem dX4_reckonTwo_27 : decode cX4_reckonTwo 27 = .ok (.isub, 1) := by decide +kernel
theorem dX4_reckonTwo_28 : decode cX4_reckonTwo 28 = .ok (.iaload, 1) := by decide +kernel
theorem dX4_reckonTwo_29 : decode cX4_reckonTwo 29 = .ok (.istore_n 2, 1) := by decide +kernel
theorem dX4_reckonTwo_30 : decode cX4_reckonTwo 30 = .ok (.aload_n 0, 1) := by decide +kernel
theorem dX4_reckonTwo_31 : decode cX4_reckonTwo 31 = .ok (.getfield 30, 3) := by decide +kernel
theorem dX4_reckonTwo_34 : decode cX4_reckonTwo 34 = .ok (.aload_n 0, 1) := by decide +kernel
theorem dX4_reckonTwo_35 : decode cX4_reckonTwo 35 = .ok (.getfield 73, 3) := by decide +kernel
theorem dX4_reckonTwo_38 : decode cX4_reckonTwo 38 = .ok (.iconst 2, 1) := by decide +kernel
theorem dX4_reckonTwo_39 : decode cX4_reckonTwo 39 = .ok (.isub, 1) := by decide +kernel
theorem dX4_reckonTwo_40 : decode cX4_reckonTwo 40 = .ok (.iaload, 1) := by decide +kernel
theorem dX4_reckonTwo_41 : decode cX4_reckonTwo 41 = .ok (.istore_n 3, 1) := by decide +kernel
theorem dX4_reckonTwo_42 : decode cX4_reckonTwo 42 = .ok (.aload_n 0, 1) := by decide +kernel
theorem dX4_reckonTwo_43 : decode cX4_reckonTwo 43 = .ok (.dup, 1) := by decide +kernel
theorem dX4_reckonTwo_44 : decode cX4_reckonTwo 44 = .ok (.getfield 73, 3) := by decide +kernel
theorem dX4_reckonTwo_47 : decode cX4_reckonTwo 47 = .ok (.iconst 1, 1) := by decide +kernel
theorem dX4_reckonTwo_48 : decode cX4_reckonTwo 48 = .ok (.isub, 1) := by decide +kernel
theorem dX4_reckonTwo_49 : decode cX4_reckonTwo 49 = .ok (.putfield 73, 3) := by decide +kernel
theorem dX4_reckonTwo_52 : decode cX4_reckonTwo 52 = .ok (.iload_n 1, 1) := by decide +kernel
theorem dX4_reckonTwo_53 : decode cX4_reckonTwo 53 = .ok (.bipush 43, 2) := by decide +kernel
theorem dX4_reckonTwo_55 : decode cX4_reckonTwo 55 = .ok (.if_icmp .ne 20, 3) := by decide +kernel
theorem dX4_reckonTwo_58 : decode cX4_reckonTwo 58 = .ok (.aload_n 0, 1) := by decide +kernel
theorem dX4_reckonTwo_59 : decode cX4_reckonTwo 59 = .ok (.getfield 30, 3) := by decide +kernel
theorem dX4_reckonTwo_62 : decode cX4_reckonTwo 62 = .ok (.aload_n 0, 1) := by decide +kernel
theorem dX4_reckonTwo_63 : decode cX4_reckonTwo 63 = .ok (.getfield 73, 3) := by decide +kernel
theorem dX4_reckonTwo_66 : decode cX4_reckonTwo 66 = .ok (.iconst 1, 1) := by decide +kernel
theorem dX4_reckonTwo_67 : decode cX4_reckonTwo 67 = .ok (.isub, 1) := by decide +kernel
theorem dX4_reckonTwo_68 : decode cX4_reckonTwo 68 = .ok (.iload_n 3, 1) := by decide +kernel
theorem dX4_reckonTwo_69 : decode cX4_reckonTwo 69 = .ok (.iload_n 2, 1) := by decide +kernel
theorem dX4_reckonTwo_70 : decode cX4_reckonTwo 70 = .ok (.iadd, 1) := by decide +kernel
theorem dX4_reckonTwo_71 : decode cX4_reckonTwo 71 = .ok (.iastore, 1) := by decide +kernel
theorem dX4_reckonTwo_72 : decode cX4_reckonTwo 72 = .ok (.goto 87, 3) := by decide +kernel
theorem dX4_reckonTwo_75 : decode cX4_reckonTwo 75 = .ok (.iload_n 1, 1) := by decide +kernel
theorem dX4_reckonTwo_76 : decode cX4_reckonTwo 76 = .ok (.bipush 45, 2) := by decide +kernel
theorem dX4_reckonTwo_78 : decode cX4_reckonTwo 78 = .ok (.if_icmp .ne 20, 3) := by decide +kernel
theorem dX4_reckonTwo_81 : decode cX4_reckonTwo 81 = .ok (.aload_n 0, 1) := by decide +kernel
theorem dX4_reckonTwo_82 : decode cX4_reckonTwo 82 = .ok (.getfield 30, 3) := by decide +kernel
theorem dX4_reckonTwo_85 : decode cX4_reckonTwo 85 = .ok (.aload_n 0, 1) := by decide +kernel
theorem dX4_reckonTwo_86 : decode cX4_reckonTwo 86 = .ok (.getfield 73, 3) := by decide +kernel
theorem dX4_reckonTwo_89 : decode cX4_reckonTwo 89 = .ok (.iconst 1, 1) := by decide +kernel
theorem dX4_reckonTwo_90 : decode cX4_reckonTwo 90 = .ok (.isub, 1) := by decide +kernel
theorem dX4_reckonTwo_91 : decode cX4_reckonTwo 91 = .ok (.iload_n 3, 1) := by decide +kernel
theorem dX4_reckonTwo_92 : decode cX4_reckonTwo 92 = .ok (.iload_n 2, 1) := by decide +kernel
theorem dX4_reckonTwo_93 : decode cX4_reckonTwo 93 = .ok (.isub, 1) := by decide +kernel
theorem dX4_reckonTwo_94 : decode cX4_reckonTwo 94 = .ok (.iastore, 1) := by decide +kernel
theorem dX4_reckonTwo_95 : decode cX4_reckonTwo 95 = .ok (.goto 64, 3) := by decide +kernel
theorem dX4_reckonTwo_98 : decode cX4_reckonTwo 98 = .ok (.iload_n 1, 1) := by decide +kernel
theorem dX4_reckonTwo_99 : decode cX4_reckonTwo 99 = .ok (.bipush 42, 2) := by decide +kernel
theorem dX4_reckonTwo_101 : decode cX4_reckonTwo 101 = .ok (.if_icmp .ne 20, 3) := by decide +kernel
theorem dX4_reckonTwo_104 : decode cX4_reckonTwo 104 = .ok (.aload_n 0, 1) := by decide +kernel
theorem dX4_reckonTwo_105 : decode cX4_reckonTwo 105 = .ok (.getfield 30, 3) := by decide +kernel
theorem dX4_reckonTwo_108 : decode cX4_reckonTwo 108 = .ok (.aload_n 0, 1) := by decide +kernel
theorem dX4_reckonTwo_109 : decode cX4_reckonTwo 109 = .ok (.getfield 73, 3) := by decide +kernel
theorem dX4_reckonTwo_112 : decode cX4_reckonTwo 112 = .ok (.iconst 1, 1) := by decide +kernel
theorem dX4_reckonTwo_113 : decode cX4_reckonTwo 113 = .ok (.isub, 1) := by decide +kernel
theorem dX4_reckonTwo_114 : decode cX4_reckonTwo 114 = .ok (.iload_n 3, 1) := by decide +kernel
theorem dX4_reckonTwo_115 : decode cX4_reckonTwo 115 = .ok (.iload_n 2, 1) := by decide +kernel
theorem dX4_reckonTwo_116 : decode cX4_reckonTwo 116 = .ok (.imul, 1) := by decide +kernel
theorem dX4_reckonTwo_117 : decode cX4_reckonTwo 117 = .ok (.iastore, 1) := by decide +kernel
theorem dX4_reckonTwo_118 : decode cX4_reckonTwo 118 = .ok (.goto 41, 3) := by decide +kernel
theorem dX4_reckonTwo_121 : decode cX4_reckonTwo 121 = .ok (.iload_n 2, 1) := by decide +kernel
theorem dX4_reckonTwo_122 : decode cX4_reckonTwo 122 = .ok (.ifCond .ne 11, 3) := by decide +kernel
theorem dX4_reckonTwo_125 : decode cX4_reckonTwo 125 = .ok (.aload_n 0, 1) := by decide +kernel
theorem dX4_reckonTwo_126 : decode cX4_reckonTwo 126 = .ok (.iconst 1, 1) := by decide +kernel
theorem dX4_reckonTwo_127 : decode cX4_reckonTwo 127 = .ok (.putfield 61, 3) := by decide +kernel
theorem dX4_reckonTwo_130 : decode cX4_reckonTwo 130 = .ok (.goto 29, 3) := by decide +kernel
theorem dX4_reckonTwo_133 : decode cX4_reckonTwo 133 = .ok (.aload_n 0, 1) := by decide +kernel
theorem dX4_reckonTwo_134 : decode cX4_reckonTwo 134 = .ok (.getfield 30, 3) := by decide +kernel
theorem dX4_reckonTwo_137 : decode cX4_reckonTwo 137 = .ok (.aload_n 0, 1) := by decide +kernel
theorem dX4_reckonTwo_138 : decode cX4_reckonTwo 138 = .ok (.getfield 73, 3) := by decide +kernel
theorem dX4_reckonTwo_141 : decode cX4_reckonTwo 141 = .ok (.iconst 1, 1) := by decide +kernel
theorem dX4_reckonTwo_142 : decode cX4_reckonTwo 142 = .ok (.isub, 1) := by decide +kernel
theorem dX4_reckonTwo_143 : decode cX4_reckonTwo 143 = .ok (.iload_n 1, 1) := by decide +kernel
theorem dX4_reckonTwo_144 : decode cX4_reckonTwo 144 = .ok (.bipush 47, 2) := by decide +kernel
theorem dX4_reckonTwo_146 : decode cX4_reckonTwo 146 = .ok (.if_icmp .ne 9, 3) := by decide +kernel
theorem dX4_reckonTwo_149 : decode cX4_reckonTwo 149 = .ok (.iload_n 3, 1) := by decide +kernel
theorem dX4_reckonTwo_150 : decode cX4_reckonTwo 150 = .ok (.iload_n 2, 1) := by decide +kernel
theorem dX4_reckonTwo_151 : decode cX4_reckonTwo 151 = .ok (.idiv, 1) := by decide +kernel
theorem dX4_reckonTwo_152 : decode cX4_reckonTwo 152 = .ok (.goto 6, 3) := by decide +kernel
theorem dX4_reckonTwo_155 : decode cX4_reckonTwo 155 = .ok (.iload_n 3, 1) := by decide +kernel
theorem dX4_reckonTwo_156 : decode cX4_reckonTwo 156 = .ok (.iload_n 2, 1) := by decide +kernel
theorem dX4_reckonTwo_157 : decode cX4_reckonTwo 157 = .ok (.irem, 1) := by decide +kernel
theorem dX4_reckonTwo_158 : decode cX4_reckonTwo 158 = .ok (.iastore, 1) := by decide +kernel
theorem dX4_reckonTwo_159 : decode cX4_reckonTwo 159 = .ok (.return_, 1) := by decide +kernel
theorem dX4_letter_0 : decode cX4_letter 0 = .ok (.aload_n 0, 1) := by decide +kernel
theorem dX4_letter_1 : decode cX4_letter 1 = .ok (.getfield 44, 3) := by decide +kernel
theorem dX4_letter_4 : decode cX4_letter 4 = .ok (.ifCond .lt 28, 3) := by decide +kernel
theorem dX4_letter_7 : decode cX4_letter 7 = .ok (.aload_n 0, 1) := by decide +kernel
theorem dX4_letter_8 : decode cX4_letter 8 = .ok (.getfield 44, 3) := by decide +kernel
theorem dX4_letter_11 : decode cX4_letter 11 = .ok (.bipush 24, 2) := by decide +kernel
theorem dX4_letter_13 : decode cX4_letter 13 = .ok (.if_icmp .ge 19, 3) := by decide +kernel
theorem dX4_letter_16 : decode cX4_letter 16 = .ok (.aload_n 0, 1) := by decide +kernel
theorem dX4_letter_17 : decode cX4_letter 17 = .ok (.getfield 47, 3) := by decide +kernel
theorem dX4_letter_20 : decode cX4_letter 20 = .ok (.ifCond .lt 12, 3) := by decide +kernel
theorem dX4_letter_23 : decode cX4_letter 23 = .ok (.aload_n 0, 1) := by decide +kernel
theorem dX4_letter_24 : decode cX4_letter 24 = .ok (.getfield 47, 3) := by decide +kernel
theorem dX4_letter_27 : decode cX4_letter 27 = .ok (.bipush 24, 2) := by decide +kernel
theorem dX4_letter_29 : decode cX4_letter 29 = .ok (.if_icmp .lt 5, 3) := by decide +kernel
theorem dX4_letter_32 : decode cX4_letter 32 = .ok (.iconst 0, 1) := by decide +kernel
theorem dX4_letter_33 : decode cX4_letter 33 = .ok (.ireturn, 1) := by decide +kernel
theorem dX4_letter_34 : decode cX4_letter 34 = .ok (.iload_n 1, 1) := by decide +kernel
theorem dX4_letter_35 : decode cX4_letter 35 = .ok (.tableswitch 177 97 119 #[161, 177, 177, 177, 177, 128, 148, 166, 177, 177, 177, 177, 177, 177, 177, 123, 177, 105, 110, 177, 177, 177, 135], 105) := by decide +kernel
theorem dX4_letter_140 : decode cX4_letter 140 = .ok (.aload_n 0, 1) := by decide +kernel
theorem dX4_letter_141 : decode cX4_letter 141 = .ok (.getfield 44, 3) := by decide +kernel
theorem dX4_letter_144 : decode cX4_letter 144 = .ok (.ireturn, 1) := by decide +kernel
theorem dX4_letter_145 : decode cX4_letter 145 = .ok (.aload_n 0, 1) := by decide +kernel
theorem dX4_letter_146 : decode cX4_letter 146 = .ok (.getfield 33, 3) := by decide +kernel
theorem dX4_letter_149 : decode cX4_letter 149 = .ok (.getfield 90, 3) := by decide +kernel
theorem dX4_letter_152 : decode cX4_letter 152 = .ok (.aload_n 0, 1) := by decide +kernel
theorem dX4_letter_153 : decode cX4_letter 153 = .ok (.getfield 44, 3) := by decide +kernel
theorem dX4_letter_156 : decode cX4_letter 156 = .ok (.iaload, 1) := by decide +kernel
theorem dX4_letter_157 : decode cX4_letter 157 = .ok (.ireturn, 1) := by decide +kernel
theorem dX4_letter_158 : decode cX4_letter 158 = .ok (.aload_n 0, 1) := by decide +kernel
theorem dX4_letter_159 : decode cX4_letter 159 = .ok (.getfield 47, 3) := by decide +kernel
theorem dX4_letter_162 : decode cX4_letter 162 = .ok (.ireturn, 1) := by decide +kernel
theorem dX4_letter_163 : decode cX4_letter 163 = .ok (.aload_n 0, 1) := by decide +kernel
theorem dX4_letter_164 : decode cX4_letter 164 = .ok (.getfield 47, 3) := by decide +kernel
theorem dX4_letter_167 : decode cX4_letter 167 = .ok (.iconst 4, 1) := by decide +kernel
theorem dX4_letter_168 : decode cX4_letter 168 = .ok (.idiv, 1) := by decide +kernel
theorem dX4_letter_169 : decode cX4_letter 169 = .ok (.ireturn, 1) := by decide +kernel
theorem dX4_letter_170 : decode cX4_letter 170 = .ok (.aload_n 0, 1) := by decide +kernel
theorem dX4_letter_171 : decode cX4_letter 171 = .ok (.getfield 33, 3) := by decide +kernel
theorem dX4_letter_174 : decode cX4_letter 174 = .ok (.getfield 95, 3) := by decide +kernel
theorem dX4_letter_177 : decode cX4_letter 177 = .ok (.aload_n 0, 1) := by decide +kernel
theorem dX4_letter_178 : decode cX4_letter 178 = .ok (.getfield 47, 3) := by decide +kernel
theorem dX4_letter_181 : decode cX4_letter 181 = .ok (.iaload, 1) := by decide +kernel
theorem dX4_letter_182 : decode cX4_letter 182 = .ok (.ireturn, 1) := by decide +kernel
theorem dX4_letter_183 : decode cX4_letter 183 = .ok (.aload_n 0, 1) := by decide +kernel
theorem dX4_letter_184 : decode cX4_letter 184 = .ok (.getfield 33, 3) := by decide +kernel
theorem dX4_letter_187 : decode cX4_letter 187 = .ok (.getfield 98, 3) := by decide +kernel
theorem dX4_letter_190 : decode cX4_letter 190 = .ok (.aload_n 0, 1) := by decide +kernel
theorem dX4_letter_191 : decode cX4_letter 191 = .ok (.getfield 47, 3) := by decide +kernel
theorem dX4_letter_194 : decode cX4_letter 194 = .ok (.iaload, 1) := by decide +kernel
theorem dX4_letter_195 : decode cX4_letter 195 = .ok (.ireturn, 1) := by decide +kernel
theorem dX4_letter_196 : decode cX4_letter 196 = .ok (.aload_n 0, 1) := by decide +kernel
theorem dX4_letter_197 : decode cX4_letter 197 = .ok (.getfield 50, 3) := by decide +kernel
theorem dX4_letter_200 : decode cX4_letter 200 = .ok (.ireturn, 1) := by decide +kernel
theorem dX4_letter_201 : decode cX4_letter 201 = .ok (.aload_n 0, 1) := by decide +kernel
theorem dX4_letter_202 : decode cX4_letter 202 = .ok (.getfield 33, 3) := by decide +kernel
theorem dX4_letter_205 : decode cX4_letter 205 = .ok (.getfield 101, 3) := by decide +kernel
theorem dX4_letter_208 : decode cX4_letter 208 = .ok (.bipush 24, 2) := by decide +kernel
theorem dX4_letter_210 : decode cX4_letter 210 = .ok (.irem, 1) := by decide +kernel
theorem dX4_letter_211 : decode cX4_letter 211 = .ok (.ireturn, 1) := by decide +kernel
theorem dX4_letter_212 : decode cX4_letter 212 = .ok (.iconst 0, 1) := by decide +kernel
theorem dX4_letter_213 : decode cX4_letter 213 = .ok (.ireturn, 1) := by decide +kernel
theorem dX5_init_0 : decode cX5_init 0 = .ok (.aload_n 0, 1) := by decide +kernel
theorem dX5_init_1 : decode cX5_init 1 = .ok (.invokespecial 3, 3) := by decide +kernel
theorem dX5_init_4 : decode cX5_init 4 = .ok (.aload_n 0, 1) := by decide +kernel
theorem dX5_init_5 : decode cX5_init 5 = .ok (.aload_n 1, 1) := by decide +kernel
theorem dX5_init_6 : decode cX5_init 6 = .ok (.putfield 9, 3) := by decide +kernel
theorem dX5_init_9 : decode cX5_init 9 = .ok (.aload_n 0, 1) := by decide +kernel
theorem dX5_init_10 : decode cX5_init 10 = .ok (.aload_n 2, 1) := by decide +kernel
theorem dX5_init_11 : decode cX5_init 11 = .ok (.putfield 15, 3) := by decide +kernel
theorem dX5_init_14 : decode cX5_init 14 = .ok (.return_, 1) := by decide +kernel
theorem dX5_read_0 : decode cX5_read 0 = .ok (.aload_n 0, 1) := by decide +kernel
theorem dX5_read_1 : decode cX5_read 1 = .ok (.aload_n 1, 1) := by decide +kernel
theorem dX5_read_2 : decode cX5_read 2 = .ok (.putfield 15, 3) := by decide +kernel
theorem dX5_read_5 : decode cX5_read 5 = .ok (.aload_n 0, 1) := by decide +kernel
theorem dX5_read_6 : decode cX5_read 6 = .ok (.getfield 15, 3) := by decide +kernel
theorem dX5_read_9 : decode cX5_read 9 = .ok (.invokevirtual 19, 3) := by decide +kernel
theorem dX5_read_12 : decode cX5_read 12 = .ok (.iconst 0, 1) := by decide +kernel
theorem dX5_read_13 : decode cX5_read 13 = .ok (.istore_n 2, 1) := by decide +kernel
theorem dX5_read_14 : decode cX5_read 14 = .ok (.iload_n 2, 1) := by decide +kernel
theorem dX5_read_15 : decode cX5_read 15 = .ok (.bipush 16, 2) := by decide +kernel
theorem dX5_read_17 : decode cX5_read 17 = .ok (.if_icmp .gt 33, 3) := by decide +kernel
theorem dX5_read_20 : decode cX5_read 20 = .ok (.aload_n 0, 1) := by decide +kernel
theorem dX5_read_21 : decode cX5_read 21 = .ok (.invokevirtual 24, 3) := by decide +kernel
theorem dX5_read_24 : decode cX5_read 24 = .ok (.aload_n 0, 1) := by decide +kernel
theorem dX5_read_25 : decode cX5_read 25 = .ok (.getfield 9, 3) := by decide +kernel
theorem dX5_read_28 : decode cX5_read 28 = .ok (.invokevirtual 27, 3) := by decide +kernel
theorem dX5_read_31 : decode cX5_read 31 = .ok (.ifCond .eq 4, 3) := by decide +kernel
theorem dX5_read_34 : decode cX5_read 34 = .ok (.return_, 1) := by decide +kernel
theorem dX5_read_35 : decode cX5_read 35 = .ok (.aload_n 0, 1) := by decide +kernel
theorem dX5_read_36 : decode cX5_read 36 = .ok (.getfield 9, 3) := by decide +kernel
theorem dX5_read_39 : decode cX5_read 39 = .ok (.bipush 59, 2) := by decide +kernel
theorem dX5_read_41 : decode cX5_read 41 = .ok (.invokevirtual 33, 3) := by decide +kernel
theorem dX5_read_44 : decode cX5_read 44 = .ok (.iinc 2 1, 3) := by decide +kernel
theorem dX5_read_47 : decode cX5_read 47 = .ok (.goto (-33), 3) := by decide +kernel
theorem dX5_read_50 : decode cX5_read 50 = .ok (.return_, 1) := by decide +kernel
theorem dX5_readRule_0 : decode cX5_readRule 0 = .ok (.aload_n 0, 1) := by decide +kernel
theorem dX5_readRule_1 : decode cX5_readRule 1 = .ok (.getfield 9, 3) := by decide +kernel
theorem dX5_readRule_4 : decode cX5_readRule 4 = .ok (.invokevirtual 37, 3) := by decide +kernel
theorem dX5_readRule_7 : decode cX5_readRule 7 = .ok (.istore_n 1, 1) := by decide +kernel
theorem dX5_readRule_8 : decode cX5_readRule 8 = .ok (.iload_n 1, 1) := by decide +kernel
theorem dX5_readRule_9 : decode cX5_readRule 9 = .ok (.bipush 99, 2) := by decide +kernel
theorem dX5_readRule_11 : decode cX5_readRule 11 = .ok (.if_icmp .eq 37, 3) := by decide +kernel
theorem dX5_readRule_14 : decode cX5_readRule 14 = .ok (.iload_n 1, 1) := by decide +kernel
theorem dX5_readRule_15 : decode cX5_readRule 15 = .ok (.bipush 107, 2) := by decide +kernel
theorem dX5_readRule_17 : decode cX5_readRule 17 = .ok (.if_icmp .eq 31, 3) := by decide +kernel
theorem dX5_readRule_20 : decode cX5_readRule 20 = .ok (.iload_n 1, 1) := by decide +kernel
theorem dX5_readRule_21 : decode cX5_readRule 21 = .ok (.bipush 100, 2) := by decide +kernel
theorem dX5_readRule_23 : decode cX5_readRule 23 = .ok (.if_icmp .eq 25, 3) := by decide +kernel
theorem dX5_readRule_26 : decode cX5_readRule 26 = .ok (.iload_n 1, 1) := by decide +kernel
theorem dX5_readRule_27 : decode cX5_readRule 27 = .ok (.bipush 120, 2) := by decide +kernel
theorem dX5_readRule_29 : decode cX5_readRule 29 = .ok (.if_icmp .eq 19, 3) := by decide +kernel
theorem dX5_readRule_32 : decode cX5_readRule 32 = .ok (.aload_n 0, 1) := by decide +kernel
theorem dX5_readRule_33 : decode cX5_readRule 33 = .ok (.getfield 9, 3) := by decide +kernel
theorem dX5_readRule_36 : decode cX5_readRule 36 = .ok (.iconst 1, 1) := by decide +kernel
theorem dX5_readRule_37 : decode cX5_readRule 37 = .ok (.aload_n 0, 1) := by decide +kernel
theorem dX5_readRule_38 : decode cX5_readRule 38 = .ok (.getfield 9, 3) := by decide +kernel
theorem dX5_readRule_41 : decode cX5_readRule 41 = .ok (.getfield 41, 3) := by decide +kernel
theorem dX5_readRule_44 : decode cX5_readRule 44 = .ok (.invokevirtual 45, 3) := by decide +kernel
theorem dX5_readRule_47 : decode cX5_readRule 47 = .ok (.return_, 1) := by decide +kernel
theorem dX5_readRule_48 : decode cX5_readRule 48 = .ok (.aload_n 0, 1) := by decide +kernel
theorem dX5_readRule_49 : decode cX5_readRule 49 = .ok (.getfield 15, 3) := by decide +kernel
theorem dX5_readRule_52 : decode cX5_readRule 52 = .ok (.getfield 49, 3) := by decide +kernel
theorem dX5_readRule_55 : decode cX5_readRule 55 = .ok (.bipush 16, 2) := by decide +kernel
theorem dX5_readRule_57 : decode cX5_readRule 57 = .ok (.if_icmp .ne 19, 3) := by decide +kernel
theorem dX5_readRule_60 : decode cX5_readRule 60 = .ok (.aload_n 0, 1) := by decide +kernel
theorem dX5_readRule_61 : decode cX5_readRule 61 = .ok (.getfield 9, 3) := by decide +kernel
theorem dX5_readRule_64 : decode cX5_readRule 64 = .ok (.iconst 4, 1) := by decide +kernel
theorem dX5_readRule_65 : decode cX5_readRule 65 = .ok (.aload_n 0, 1) := by decide +kernel
theorem dX5_readRule_66 : decode cX5_readRule 66 = .ok (.getfield 9, 3) := by decide +kernel
theorem dX5_readRule_69 : decode cX5_readRule 69 = .ok (.getfield 41, 3) := by decide +kernel
theorem dX5_readRule_72 : decode cX5_readRule 72 = .ok (.invokevirtual 45, 3) := by decide +kernel
theorem dX5_readRule_75 : decode cX5_readRule 75 = .ok (.return_, 1) := by decide +kernel
theorem dX5_readRule_76 : decode cX5_readRule 76 = .ok (.aload_n 0, 1) := by decide +kernel
theorem dX5_readRule_77 : decode cX5_readRule 77 = .ok (.getfield 9, 3) := by decide +kernel
theorem dX5_readRule_80 : decode cX5_readRule 80 = .ok (.invokevirtual 52, 3) := by decide +kernel
theorem dX5_readRule_83 : decode cX5_readRule 83 = .ok (.aload_n 0, 1) := by decide +kernel
theorem dX5_readRule_84 : decode cX5_readRule 84 = .ok (.getfield 15, 3) := by decide +kernel
theorem dX5_readRule_87 : decode cX5_readRule 87 = .ok (.getfield 55, 3) := by decide +kernel
theorem dX5_readRule_90 : decode cX5_readRule 90 = .ok (.istore_n 2, 1) := by decide +kernel
theorem dX5_readRule_91 : decode cX5_readRule 91 = .ok (.iload_n 1, 1) := by decide +kernel
theorem dX5_readRule_92 : decode cX5_readRule 92 = .ok (.bipush 120, 2) := by decide +kernel
theorem dX5_readRule_94 : decode cX5_readRule 94 = .ok (.if_icmp .eq 8, 3) := by decide +kernel
theorem dX5_readRule_97 : decode cX5_readRule 97 = .ok (.aload_n 0, 1) := by decide +kernel
theorem dX5_readRule_98 : decode cX5_readRule 98 = .ok (.iconst 0, 1) := by decide +kernel
theorem dX5_readRule_99 : decode cX5_readRule 99 = .ok (.invokevirtual 58, 3) := by decide +kernel
theorem dX5_readRule_102 : decode cX5_readRule 102 = .ok (.aload_n 0, 1) := by decide +kernel
theorem dX5_readRule_103 : decode cX5_readRule 103 = .ok (.getfield 15, 3) := by decide +kernel
theorem dX5_readRule_106 : decode cX5_readRule 106 = .ok (.getfield 55, 3) := by decide +kernel
theorem dX5_readRule_109 : decode cX5_readRule 109 = .ok (.istore_n 3, 1) := by decide +kernel
theorem dX5_readRule_110 : decode cX5_readRule 110 = .ok (.aload_n 0, 1) := by decide +kernel
theorem dX5_readRule_111 : decode cX5_readRule 111 = .ok (.getfield 9, 3) := by decide +kernel
theorem dX5_readRule_114 : decode cX5_readRule 114 = .ok (.bipush 40, 2) := by decide +kernel
theorem dX5_readRule_116 : decode cX5_readRule 116 = .ok (.invokevirtual 33, 3) := by decide +kernel
theorem dX5_readRule_119 : decode cX5_readRule 119 = .ok (.aload_n 0, 1) := by decide +kernel
theorem dX5_readRule_120 : decode cX5_readRule 120 = .ok (.iconst 1, 1) := by decide +kernel
theorem dX5_readRule_121 : decode cX5_readRule 121 = .ok (.invokevirtual 61, 3) := by decide +kernel
theorem dX5_readRule_124 : decode cX5_readRule 124 = .ok (.aload_n 0, 1) := by decide +kernel
theorem dX5_readRule_125 : decode cX5_readRule 125 = .ok (.getfield 9, 3) := by decide +kernel
theorem dX5_readRule_128 : decode cX5_readRule 128 = .ok (.bipush 41, 2) := by decide +kernel
theorem dX5_readRule_130 : decode cX5_readRule 130 = .ok (.invokevirtual 33, 3) := by decide +kernel
theorem dX5_readRule_133 : decode cX5_readRule 133 = .ok (.aload_n 0, 1) := by decide +kernel
theorem dX5_readRule_134 : decode cX5_readRule 134 = .ok (.getfield 15, 3) := by decide +kernel
theorem dX5_readRule_137 : decode cX5_readRule 137 = .ok (.iload_n 1, 1) := by decide +kernel
theorem dX5_readRule_138 : decode cX5_readRule 138 = .ok (.iload_n 2, 1) := by decide +kernel
theorem dX5_readRule_139 : decode cX5_readRule 139 = .ok (.iload_n 3, 1) := by decide +kernel
theorem dX5_readRule_140 : decode cX5_readRule 140 = .ok (.invokevirtual 64, 3) := by decide +kernel
theorem dX5_readRule_143 : decode cX5_readRule 143 = .ok (.return_, 1) := by decide +kernel
theorem dX5_readCondition_0 : decode cX5_readCondition 0 = .ok (.aload_n 0, 1) := by decide +kernel
theorem dX5_readCondition_1 : decode cX5_readCondition 1 = .ok (.iload_n 1, 1) := by decide +kernel
theorem dX5_readCondition_2 : decode cX5_readCondition 2 = .ok (.invokevirtual 68, 3) := by decide +kernel
theorem dX5_readCondition_5 : decode cX5_readCondition 5 = .ok (.iconst 0, 1) := by decide +kernel
theorem dX5_readCondition_6 : decode cX5_readCondition 6 = .ok (.istore_n 2, 1) := by decide +kernel
theorem dX5_readCondition_7 : decode cX5_readCondition 7 = .ok (.iload_n 2, 1) := by decide +kernel
theorem dX5_readCondition_8 : decode cX5_readCondition 8 = .ok (.sipush 240, 3) := by decide +kernel
theorem dX5_readCondition_11 : decode cX5_readCondition 11 = .ok (.if_icmp .ge 52, 3) := by decide +kernel
theorem dX5_readCondition_14 : decode cX5_readCondition 14 = .ok (.aload_n 0, 1) := by decide +kernel
theorem dX5_readCondition_15 : decode cX5_readCondition 15 = .ok (.getfield 9, 3) := by decide +kernel
theorem dX5_readCondition_18 : decode cX5_readCondition 18 = .ok (.invokevirtual 37, 3) := by decide +kernel
theorem dX5_readCondition_21 : decode cX5_readCondition 21 = .ok (.bipush 124, 2) := by decide +kernel
theorem dX5_readCondition_23 : decode cX5_readCondition 23 = .ok (.if_icmp .ne 40, 3) := by decide +kernel
theorem dX5_readCondition_26 : decode cX5_readCondition 26 = .ok (.aload_n 0, 1) := by decide +kernel
theorem dX5_readCondition_27 : decode cX5_readCondition 27 = .ok (.getfield 9, 3) := by decide +kernel
theorem dX5_readCondition_30 : decode cX5_readCondition 30 = .ok (.invokevirtual 52, 3) := by decide +kernel
theorem dX5_readCondition_33 : decode cX5_readCondition 33 = .ok (.aload_n 0, 1) := by decide +kernel
theorem dX5_readCondition_34 : decode cX5_readCondition 34 = .ok (.getfield 15, 3) := by decide +kernel
theorem dX5_readCondition_37 : decode cX5_readCondition 37 = .ok (.bipush 124, 2) := by decide +kernel
theorem dX5_readCondition_39 : decode cX5_readCondition 39 = .ok (.iconst 0, 1) := by decide +kernel
theorem dX5_readCondition_40 : decode cX5_readCondition 40 = .ok (.invokevirtual 71, 3) := by decide +kernel
theorem dX5_readCondition_43 : decode cX5_readCondition 43 = .ok (.istore_n 3, 1) := by decide +kernel
theorem dX5_readCondition_44 : decode cX5_readCondition 44 = .ok (.aload_n 0, 1) := by decide +kernel
theorem dX5_readCondition_45 : decode cX5_readCondition 45 = .ok (.iload_n 1, 1) := by decide +kernel
theorem dX5_readCondition_46 : decode cX5_readCondition 46 = .ok (.invokevirtual 68, 3) := by decide +kernel
theorem dX5_readCondition_49 : decode cX5_readCondition 49 = .ok (.aload_n 0, 1) := by decide +kernel
theorem dX5_readCondition_50 : decode cX5_readCondition 50 = .ok (.getfield 15, 3) := by decide +kernel
theorem dX5_readCondition_53 : decode cX5_readCondition 53 = .ok (.iload_n 3, 1) := by decide +kernel
theorem dX5_readCondition_54 : decode cX5_readCondition 54 = .ok (.invokevirtual 75, 3) := by decide +kernel
theorem dX5_readCondition_57 : decode cX5_readCondition 57 = .ok (.iinc 2 1, 3) := by decide +kernel
theorem dX5_readCondition_60 : decode cX5_readCondition 60 = .ok (.goto (-53), 3) := by decide +kernel
theorem dX5_readCondition_63 : decode cX5_readCondition 63 = .ok (.return_, 1) := by decide +kernel
theorem dX5_readPart_0 : decode cX5_readPart 0 = .ok (.aload_n 0, 1) := by decide +kernel
theorem dX5_readPart_1 : decode cX5_readPart 1 = .ok (.iload_n 1, 1) := by decide +kernel
theorem dX5_readPart_2 : decode cX5_readPart 2 = .ok (.invokevirtual 78, 3) := by decide +kernel
theorem dX5_readPart_5 : decode cX5_readPart 5 = .ok (.iconst 0, 1) := by decide +kernel
theorem dX5_readPart_6 : decode cX5_readPart 6 = .ok (.istore_n 2, 1) := by decide +kernel
theorem dX5_readPart_7 : decode cX5_readPart 7 = .ok (.iload_n 2, 1) := by decide +kernel
theorem dX5_readPart_8 : decode cX5_readPart 8 = .ok (.sipush 240, 3) := by decide +kernel
theorem dX5_readPart_11 : decode cX5_readPart 11 = .ok (.if_icmp .ge 52, 3) := by decide +kernel
theorem dX5_readPart_14 : decode cX5_readPart 14 = .ok (.aload_n 0, 1) := by decide +kernel
theorem dX5_readPart_15 : decode cX5_readPart 15 = .ok (.getfield 9, 3) := by decide +kernel
theorem dX5_readPart_18 : decode cX5_readPart 18 = .ok (.invokevirtual 37, 3) := by decide +kernel
theorem dX5_readPart_21 : decode cX5_readPart 21 = .ok (.bipush 38, 2) := by decide +kernel
theorem dX5_readPart_23 : decode cX5_readPart 23 = .ok (.if_icmp .ne 40, 3) := by decide +kernel
theorem dX5_readPart_26 : decode cX5_readPart 26 = .ok (.aload_n 0, 1) := by decide +kernel
theorem dX5_readPart_27 : decode cX5_readPart 27 = .ok (.getfield 9, 3) := by decide +kernel
theorem dX5_readPart_30 : decode cX5_readPart 30 = .ok (.invokevirtual 52, 3) := by decide +kernel
theorem dX5_readPart_33 : decode cX5_readPart 33 = .ok (.aload_n 0, 1) := by decide +kernel
theorem dX5_readPart_34 : decode cX5_readPart 34 = .ok (.getfield 15, 3) := by decide +kernel
theorem dX5_readPart_37 : decode cX5_readPart 37 = .ok (.bipush 38, 2) := by decide +kernel
theorem dX5_readPart_39 : decode cX5_readPart 39 = .ok (.iconst 0, 1) := by decide +kernel
theorem dX5_readPart_40 : decode cX5_readPart 40 = .ok (.invokevirtual 71, 3) := by decide +kernel
theorem dX5_readPart_43 : decode cX5_readPart 43 = .ok (.istore_n 3, 1) := by decide +kernel
theorem dX5_readPart_44 : decode cX5_readPart 44 = .ok (.aload_n 0, 1) := by decide +kernel
theorem dX5_readPart_45 : decode cX5_readPart 45 = .ok (.iload_n 1, 1) := by decide +kernel
theorem dX5_readPart_46 : decode cX5_readPart 46 = .ok (.invokevirtual 78, 3) := by decide +kernel
theorem dX5_readPart_49 : decode cX5_readPart 49 = .ok (.aload_n 0, 1) := by decide +kernel
theorem dX5_readPart_50 : decode cX5_readPart 50 = .ok (.getfield 15, 3) := by decide +kernel
theorem dX5_readPart_53 : decode cX5_readPart 53 = .ok (.iload_n 3, 1) := by decide +kernel
theorem dX5_readPart_54 : decode cX5_readPart 54 = .ok (.invokevirtual 75, 3) := by decide +kernel
theorem dX5_readPart_57 : decode cX5_readPart 57 = .ok (.iinc 2 1, 3) := by decide +kernel
theorem dX5_readPart_60 : decode cX5_readPart 60 = .ok (.goto (-53), 3) := by decide +kernel
theorem dX5_readPart_63 : decode cX5_readPart 63 = .ok (.return_, 1) := by decide +kernel
theorem dX5_readTest_0 : decode cX5_readTest 0 = .ok (.aload_n 0, 1) := by decide +kernel
theorem dX5_readTest_1 : decode cX5_readTest 1 = .ok (.getfield 9, 3) := by decide +kernel
theorem dX5_readTest_4 : decode cX5_readTest 4 = .ok (.invokevirtual 37, 3) := by decide +kernel
theorem dX5_readTest_7 : decode cX5_readTest 7 = .ok (.istore_n 2, 1) := by decide +kernel
theorem dX5_readTest_8 : decode cX5_readTest 8 = .ok (.iload_n 2, 1) := by decide +kernel
theorem dX5_readTest_9 : decode cX5_readTest 9 = .ok (.bipush 33, 2) := by decide +kernel
theorem dX5_readTest_11 : decode cX5_readTest 11 = .ok (.if_icmp .ne 30, 3) := by decide +kernel
theorem dX5_readTest_14 : decode cX5_readTest 14 = .ok (.aload_n 0, 1) := by decide +kernel
theorem dX5_readTest_15 : decode cX5_readTest 15 = .ok (.iload_n 1, 1) := by decide +kernel
theorem dX5_readTest_16 : decode cX5_readTest 16 = .ok (.invokevirtual 81, 3) := by decide +kernel
theorem dX5_readTest_19 : decode cX5_readTest 19 = .ok (.ifCond .eq 21, 3) := by decide +kernel
theorem dX5_readTest_22 : decode cX5_readTest 22 = .ok (.aload_n 0, 1) := by decide +kernel
theorem dX5_readTest_23 : decode cX5_readTest 23 = .ok (.iload_n 1, 1) := by decide +kernel
theorem dX5_readTest_24 : decode cX5_readTest 24 = .ok (.iconst 1, 1) := by decide +kernel
theorem dX5_readTest_25 : decode cX5_readTest 25 = .ok (.iadd, 1) := by decide +kernel
theorem dX5_readTest_26 : decode cX5_readTest 26 = .ok (.invokevirtual 78, 3) := by decide +kernel
theorem dX5_readTest_29 : decode cX5_readTest 29 = .ok (.aload_n 0, 1) := by decide +kernel
theorem dX5_readTest_30 : decode cX5_readTest 30 = .ok (.getfield 15, 3) := by decide +kernel
theorem dX5_readTest_33 : decode cX5_readTest 33 = .ok (.bipush 33, 2) := by decide +kernel
theorem dX5_readTest_35 : decode cX5_readTest 35 = .ok (.iconst 0, 1) := by decide +kernel
theorem dX5_readTest_36 : decode cX5_readTest 36 = .ok (.invokevirtual 71, 3) := by decide +kernel
theorem dX5_readTest_39 : decode cX5_readTest 39 = .ok (.pop, 1) := by decide +kernel
theorem dX5_readTest_40 : decode cX5_readTest 40 = .ok (.return_, 1) := by decide +kernel
theorem dX5_readTest_41 : decode cX5_readTest 41 = .ok (.iload_n 2, 1) := by decide +kernel
theorem dX5_readTest_42 : decode cX5_readTest 42 = .ok (.bipush 40, 2) := by decide +kernel
theorem dX5_readTest_44 : decode cX5_readTest 44 = .ok (.if_icmp .ne 28, 3) := by decide +kernel
theorem dX5_readTest_47 : decode cX5_readTest 47 = .ok (.aload_n 0, 1) := by decide +kernel
theorem dX5_readTest_48 : decode cX5_readTest 48 = .ok (.iload_n 1, 1) := by decide +kernel
theorem dX5_readTest_49 : decode cX5_readTest 49 = .ok (.invokevirtual 81, 3) := by decide +kernel
theorem dX5_readTest_52 : decode cX5_readTest 52 = .ok (.ifCond .eq 19, 3) := by decide +kernel
theorem dX5_readTest_55 : decode cX5_readTest 55 = .ok (.aload_n 0, 1) := by decide +kernel
theorem dX5_readTest_56 : decode cX5_readTest 56 = .ok (.iload_n 1, 1) := by decide +kernel
theorem dX5_readTest_57 : decode cX5_readTest 57 = .ok (.iconst 1, 1) := by decide +kernel
theorem dX5_readTest_58 : decode cX5_readTest 58 = .ok (.iadd, 1) := by decide +kernel
theorem dX5_readTest_59 : decode cX5_readTest 59 = .ok (.invokevirtual 61, 3) := by decide +kernel
theorem dX5_readTest_62 : decode cX5_readTest 62 = .ok (.aload_n 0, 1) := by decide +kernel
theorem dX5_readTest_63 : decode cX5_readTest 63 = .ok (.getfield 9, 3) := by decide +kernel
theorem dX5_readTest_66 : decode cX5_readTest 66 = .ok (.bipush 41, 2) := by decide +kernel
theorem dX5_readTest_68 : decode cX5_readTest 68 = .ok (.invokevirtual 33, 3) := by decide +kernel
theorem dX5_readTest_71 : decode cX5_readTest 71 = .ok (.return_, 1) := by decide +kernel
theorem dX5_readTest_72 : decode cX5_readTest 72 = .ok (.aload_n 0, 1) := by decide +kernel
theorem dX5_readTest_73 : decode cX5_readTest 73 = .ok (.iload_n 1, 1) := by decide +kernel
theorem dX5_readTest_74 : decode cX5_readTest 74 = .ok (.invokevirtual 58, 3) := by decide +kernel
theorem dX5_readTest_77 : decode cX5_readTest 77 = .ok (.aload_n 0, 1) := by decide +kernel
theorem dX5_readTest_78 : decode cX5_readTest 78 = .ok (.getfield 9, 3) := by decide +kernel
theorem dX5_readTest_81 : decode cX5_readTest 81 = .ok (.invokevirtual 37, 3) := by decide +kernel
theorem dX5_readTest_84 : decode cX5_readTest 84 = .ok (.istore_n 3, 1) := by decide +kernel
theorem dX5_readTest_85 : decode cX5_readTest 85 = .ok (.iload_n 3, 1) := by decide +kernel
theorem dX5_readTest_86 : decode cX5_readTest 86 = .ok (.bipush 60, 2) := by decide +kernel
theorem dX5_readTest_88 : decode cX5_readTest 88 = .ok (.if_icmp .eq 31, 3) := by decide +kernel
theorem dX5_readTest_91 : decode cX5_readTest 91 = .ok (.iload_n 3, 1) := by decide +kernel
theorem dX5_readTest_92 : decode cX5_readTest 92 = .ok (.bipush 62, 2) := by decide +kernel
theorem dX5_readTest_94 : decode cX5_readTest 94 = .ok (.if_icmp .eq 25, 3) := by decide +kernel
theorem dX5_readTest_97 : decode cX5_readTest 97 = .ok (.iload_n 3, 1) := by decide +kernel
theorem dX5_readTest_98 : decode cX5_readTest 98 = .ok (.bipush 61, 2) := by decide +kernel
theorem dX5_readTest_100 : decode cX5_readTest 100 = .ok (.if_icmp .eq 19, 3) := by decide +kernel
theorem dX5_readTest_103 : decode cX5_readTest 103 = .ok (.aload_n 0, 1) := by decide +kernel
theorem dX5_readTest_104 : decode cX5_readTest 104 = .ok (.getfield 9, 3) := by decide +kernel
theorem dX5_readTest_107 : decode cX5_readTest 107 = .ok (.iconst 1, 1) := by decide +kernel
theorem dX5_readTest_108 : decode cX5_readTest 108 = .ok (.aload_n 0, 1) := by decide +kernel
theorem dX5_readTest_109 : decode cX5_readTest 109 = .ok (.getfield 9, 3) := by decide +kernel
theorem dX5_readTest_112 : decode cX5_readTest 112 = .ok (.getfield 41, 3) := by decide +kernel
theorem dX5_readTest_115 : decode cX5_readTest 115 = .ok (.invokevirtual 45, 3) := by decide +kernel
theorem dX5_readTest_118 : decode cX5_readTest 118 = .ok (.return_, 1) := by decide +kernel
theorem dX5_readTest_119 : decode cX5_readTest 119 = .ok (.aload_n 0, 1) := by decide +kernel
theorem dX5_readTest_120 : decode cX5_readTest 120 = .ok (.getfield 9, 3) := by decide +kernel
theorem dX5_readTest_123 : decode cX5_readTest 123 = .ok (.invokevirtual 52, 3) := by decide +kernel
theorem dX5_readTest_126 : decode cX5_readTest 126 = .ok (.aload_n 0, 1) := by decide +kernel
theorem dX5_readTest_127 : decode cX5_readTest 127 = .ok (.iload_n 1, 1) := by decide +kernel
theorem dX5_readTest_128 : decode cX5_readTest 128 = .ok (.invokevirtual 58, 3) := by decide +kernel
theorem dX5_readTest_131 : decode cX5_readTest 131 = .ok (.aload_n 0, 1) := by decide +kernel
theorem dX5_readTest_132 : decode cX5_readTest 132 = .ok (.getfield 15, 3) := by decide +kernel
theorem dX5_readTest_135 : decode cX5_readTest 135 = .ok (.iload_n 3, 1) := by decide +kernel
theorem dX5_readTest_136 : decode cX5_readTest 136 = .ok (.iconst 0, 1) := by decide +kernel
theorem dX5_readTest_137 : decode cX5_readTest 137 = .ok (.invokevirtual 71, 3) := by decide +kernel
theorem dX5_readTest_140 : decode cX5_readTest 140 = .ok (.pop, 1) := by decide +kernel
theorem dX5_readTest_141 : decode cX5_readTest 141 = .ok (.return_, 1) := by decide +kernel
theorem dX5_readAmount_0 : decode cX5_readAmount 0 = .ok (.aload_n 0, 1) := by decide +kernel
theorem dX5_readAmount_1 : decode cX5_readAmount 1 = .ok (.iload_n 1, 1) := by decide +kernel
theorem dX5_readAmount_2 : decode cX5_readAmount 2 = .ok (.invokevirtual 85, 3) := by decide +kernel
theorem dX5_readAmount_5 : decode cX5_readAmount 5 = .ok (.iconst 0, 1) := by decide +kernel
theorem dX5_readAmount_6 : decode cX5_readAmount 6 = .ok (.istore_n 2, 1) := by decide +kernel
theorem dX5_readAmount_7 : decode cX5_readAmount 7 = .ok (.iload_n 2, 1) := by decide +kernel
theorem dX5_readAmount_8 : decode cX5_readAmount 8 = .ok (.sipush 240, 3) := by decide +kernel
theorem dX5_readAmount_11 : decode cX5_readAmount 11 = .ok (.if_icmp .ge 63, 3) := by decide +kernel
theorem dX5_readAmount_14 : decode cX5_readAmount 14 = .ok (.aload_n 0, 1) := by decide +kernel
theorem dX5_readAmount_15 : decode cX5_readAmount 15 = .ok (.getfield 9, 3) := by decide +kernel
theorem dX5_readAmount_18 : decode cX5_readAmount 18 = .ok (.invokevirtual 37, 3) := by decide +kernel
theorem dX5_readAmount_21 : decode cX5_readAmount 21 = .ok (.bipush 43, 2) := by decide +kernel
theorem dX5_readAmount_23 : decode cX5_readAmount 23 = .ok (.if_icmp .eq 15, 3) := by decide +kernel
theorem dX5_readAmount_26 : decode cX5_readAmount 26 = .ok (.aload_n 0, 1) := by decide +kernel
theorem dX5_readAmount_27 : decode cX5_readAmount 27 = .ok (.getfield 9, 3) := by decide +kernel
theorem dX5_readAmount_30 : decode cX5_readAmount 30 = .ok (.invokevirtual 37, 3) := by decide +kernel
theorem dX5_readAmount_33 : decode cX5_readAmount 33 = .ok (.bipush 45, 2) := by decide +kernel
theorem dX5_readAmount_35 : decode cX5_readAmount 35 = .ok (.if_icmp .ne 39, 3) := by decide +kernel
theorem dX5_readAmount_38 : decode cX5_readAmount 38 = .ok (.aload_n 0, 1) := by decide +kernel
theorem dX5_readAmount_39 : decode cX5_readAmount 39 = .ok (.getfield 9, 3) := by decide +kernel
theorem dX5_readAmount_42 : decode cX5_readAmount 42 = .ok (.invokevirtual 37, 3) := by decide +kernel
theorem dX5_readAmount_45 : decode cX5_readAmount 45 = .ok (.istore_n 3, 1) := by decide +kernel
theorem dX5_readAmount_46 : decode cX5_readAmount 46 = .ok (.aload_n 0, 1) := by decide +kernel
theorem dX5_readAmount_47 : decode cX5_readAmount 47 = .ok (.getfield 9, 3) := by decide +kernel
theorem dX5_readAmount_50 : decode cX5_readAmount 50 = .ok (.invokevirtual 52, 3) := by decide +kernel
theorem dX5_readAmount_53 : decode cX5_readAmount 53 = .ok (.aload_n 0, 1) := by decide +kernel
theorem dX5_readAmount_54 : decode cX5_readAmount 54 = .ok (.iload_n 1, 1) := by decide +kernel
theorem dX5_readAmount_55 : decode cX5_readAmount 55 = .ok (.invokevirtual 85, 3) := by decide +kernel
theorem dX5_readAmount_58 : decode cX5_readAmount 58 = .ok (.aload_n 0, 1) := by decide +kernel
theorem dX5_readAmount_59 : decode cX5_readAmount 59 = .ok (.getfield 15, 3) := by decide +kernel
theorem dX5_readAmount_62 : decode cX5_readAmount 62 = .ok (.iload_n 3, 1) := by decide +kernel
theorem dX5_readAmount_63 : decode cX5_readAmount 63 = .ok (.iconst 0, 1) := by decide +kernel
theorem dX5_readAmount_64 : decode cX5_readAmount 64 = .ok (.invokevirtual 71, 3) := by decide +kernel
theorem dX5_readAmount_67 : decode cX5_readAmount 67 = .ok (.pop, 1) := by decide +kernel
theorem dX5_readAmount_68 : decode cX5_readAmount 68 = .ok (.iinc 2 1, 3) := by decide +kernel
theorem dX5_readAmount_71 : decode cX5_readAmount 71 = .ok (.goto (-64), 3) := by decide +kernel
theorem dX5_readAmount_74 : decode cX5_readAmount 74 = .ok (.return_, 1) := by decide +kernel
theorem dX5_readTerm_0 : decode cX5_readTerm 0 = .ok (.aload_n 0, 1) := by decide +kernel
theorem dX5_readTerm_1 : decode cX5_readTerm 1 = .ok (.iload_n 1, 1) := by decide +kernel
theorem dX5_readTerm_2 : decode cX5_readTerm 2 = .ok (.invokevirtual 88, 3) := by decide +kernel
theorem dX5_readTerm_5 : decode cX5_readTerm 5 = .ok (.iconst 0, 1) := by decide +kernel
theorem dX5_readTerm_6 : decode cX5_readTerm 6 = .ok (.istore_n 2, 1) := by decide +kernel
theorem dX5_readTerm_7 : decode cX5_readTerm 7 = .ok (.iload_n 2, 1) := by decide +kernel
theorem dX5_readTerm_8 : decode cX5_readTerm 8 = .ok (.sipush 240, 3) := by decide +kernel
theorem dX5_readTerm_11 : decode cX5_readTerm 11 = .ok (.if_icmp .ge 52, 3) := by decide +kernel
theorem dX5_readTerm_14 : decode cX5_readTerm 14 = .ok (.aload_n 0, 1) := by decide +kernel
theorem dX5_readTerm_15 : decode cX5_readTerm 15 = .ok (.getfield 9, 3) := by decide +kernel
theorem dX5_readTerm_18 : decode cX5_readTerm 18 = .ok (.invokevirtual 37, 3) := by decide +kernel
theorem dX5_readTerm_21 : decode cX5_readTerm 21 = .ok (.invokestatic 91, 3) := by decide +kernel
theorem dX5_readTerm_24 : decode cX5_readTerm 24 = .ok (.ifCond .eq 39, 3) := by decide +kernel
theorem dX5_readTerm_27 : decode cX5_readTerm 27 = .ok (.aload_n 0, 1) := by decide +kernel
theorem dX5_readTerm_28 : decode cX5_readTerm 28 = .ok (.getfield 9, 3) := by decide +kernel
theorem dX5_readTerm_31 : decode cX5_readTerm 31 = .ok (.invokevirtual 37, 3) := by decide +kernel
theorem dX5_readTerm_34 : decode cX5_readTerm 34 = .ok (.istore_n 3, 1) := by decide +kernel
theorem dX5_readTerm_35 : decode cX5_readTerm 35 = .ok (.aload_n 0, 1) := by decide +kernel
theorem dX5_readTerm_36 : decode cX5_readTerm 36 = .ok (.getfield 9, 3) := by decide +kernel
theorem dX5_readTerm_39 : decode cX5_readTerm 39 = .ok (.invokevirtual 52, 3) := by decide +kernel
theorem dX5_readTerm_42 : decode cX5_readTerm 42 = .ok (.aload_n 0, 1) := by decide +kernel
theorem dX5_readTerm_43 : decode cX5_readTerm 43 = .ok (.iload_n 1, 1) := by decide +kernel
theorem dX5_readTerm_44 : decode cX5_readTerm 44 = .ok (.invokevirtual 88, 3) := by decide +kernel
theorem dX5_readTerm_47 : decode cX5_readTerm 47 = .ok (.aload_n 0, 1) := by decide +kernel
theorem dX5_readTerm_48 : decode cX5_readTerm 48 = .ok (.getfield 15, 3) := by decide +kernel
theorem dX5_readTerm_51 : decode cX5_readTerm 51 = .ok (.iload_n 3, 1) := by decide +kernel
theorem dX5_readTerm_52 : decode cX5_readTerm 52 = .ok (.iconst 0, 1) := by decide +kernel
theorem dX5_readTerm_53 : decode cX5_readTerm 53 = .ok (.invokevirtual 71, 3) := by decide +kernel
theorem dX5_readTerm_56 : decode cX5_readTerm 56 = .ok (.pop, 1) := by decide +kernel
theorem dX5_readTerm_57 : decode cX5_readTerm 57 = .ok (.iinc 2 1, 3) := by decide +kernel
theorem dX5_readTerm_60 : decode cX5_readTerm 60 = .ok (.goto (-53), 3) := by decide +kernel
theorem dX5_readTerm_63 : decode cX5_readTerm 63 = .ok (.return_, 1) := by decide +kernel
theorem dX5_readFactor_0 : decode cX5_readFactor 0 = .ok (.aload_n 0, 1) := by decide +kernel
theorem dX5_readFactor_1 : decode cX5_readFactor 1 = .ok (.getfield 9, 3) := by decide +kernel
theorem dX5_readFactor_4 : decode cX5_readFactor 4 = .ok (.invokevirtual 37, 3) := by decide +kernel
theorem dX5_readFactor_7 : decode cX5_readFactor 7 = .ok (.istore_n 2, 1) := by decide +kernel
theorem dX5_readFactor_8 : decode cX5_readFactor 8 = .ok (.iload_n 2, 1) := by decide +kernel
theorem dX5_readFactor_9 : decode cX5_readFactor 9 = .ok (.bipush 91, 2) := by decide +kernel
theorem dX5_readFactor_11 : decode cX5_readFactor 11 = .ok (.if_icmp .ne 30, 3) := by decide +kernel
theorem dX5_readFactor_14 : decode cX5_readFactor 14 = .ok (.aload_n 0, 1) := by decide +kernel
theorem dX5_readFactor_15 : decode cX5_readFactor 15 = .ok (.iload_n 1, 1) := by decide +kernel
theorem dX5_readFactor_16 : decode cX5_readFactor 16 = .ok (.invokevirtual 81, 3) := by decide +kernel
theorem dX5_readFactor_19 : decode cX5_readFactor 19 = .ok (.ifCond .eq 92, 3) := by decide +kernel
theorem dX5_readFactor_22 : decode cX5_readFactor 22 = .ok (.aload_n 0, 1) := by decide +kernel
theorem dX5_readFactor_23 : decode cX5_readFactor 23 = .ok (.iload_n 1, 1) := by decide +kernel
theorem dX5_readFactor_24 : decode cX5_readFactor 24 = .ok (.iconst 1, 1) := by decide +kernel
theorem dX5_readFactor_25 : decode cX5_readFactor 25 = .ok (.iadd, 1) := by decide +kernel
theorem dX5_readFactor_26 : decode cX5_readFactor 26 = .ok (.invokevirtual 58, 3) := by decide +kernel
theorem dX5_readFactor_29 : decode cX5_readFactor 29 = .ok (.aload_n 0, 1) := by decide +kernel
theorem dX5_readFactor_30 : decode cX5_readFactor 30 = .ok (.getfield 9, 3) := by decide +kernel
theorem dX5_readFactor_33 : decode cX5_readFactor 33 = .ok (.bipush 93, 2) := by decide +kernel
theorem dX5_readFactor_35 : decode cX5_readFactor 35 = .ok (.invokevirtual 33, 3) := by decide +kernel
theorem dX5_readFactor_38 : decode cX5_readFactor 38 = .ok (.goto 73, 3) := by decide +kernel
theorem dX5_readFactor_41 : decode cX5_readFactor 41 = .ok (.iload_n 2, 1) := by decide +kernel
theorem dX5_readFactor_42 : decode cX5_readFactor 42 = .ok (.invokestatic 94, 3) := by decide +kernel
theorem dX5_readFactor_45 : decode cX5_readFactor 45 = .ok (.ifCond .eq 24, 3) := by decide +kernel
theorem dX5_readFactor_48 : decode cX5_readFactor 48 = .ok (.aload_n 0, 1) := by decide +kernel
theorem dX5_readFactor_49 : decode cX5_readFactor 49 = .ok (.getfield 15, 3) := by decide +kernel
theorem dX5_readFactor_52 : decode cX5_readFactor 52 = .ok (.bipush 48, 2) := by decide +kernel
theorem dX5_readFactor_54 : decode cX5_readFactor 54 = .ok (.aload_n 0, 1) := by decide +kernel
theorem dX5_readFactor_55 : decode cX5_readFactor 55 = .ok (.getfield 9, 3) := by decide +kernel
theorem dX5_readFactor_58 : decode cX5_readFactor 58 = .ok (.iconst 5, 1) := by decide +kernel
theorem dX5_readFactor_59 : decode cX5_readFactor 59 = .ok (.invokevirtual 97, 3) := by decide +kernel
theorem dX5_readFactor_62 : decode cX5_readFactor 62 = .ok (.invokevirtual 71, 3) := by decide +kernel
theorem dX5_readFactor_65 : decode cX5_readFactor 65 = .ok (.pop, 1) := by decide +kernel
theorem dX5_readFactor_66 : decode cX5_readFactor 66 = .ok (.goto 45, 3) := by decide +kernel
theorem dX5_readFactor_69 : decode cX5_readFactor 69 = .ok (.iload_n 2, 1) := by decide +kernel
theorem dX5_readFactor_70 : decode cX5_readFactor 70 = .ok (.invokestatic 101, 3) := by decide +kernel
theorem dX5_readFactor_73 : decode cX5_readFactor 73 = .ok (.ifCond .eq 23, 3) := by decide +kernel
theorem dX5_readFactor_76 : decode cX5_readFactor 76 = .ok (.aload_n 0, 1) := by decide +kernel
theorem dX5_readFactor_77 : decode cX5_readFactor 77 = .ok (.getfield 9, 3) := by decide +kernel
theorem dX5_readFactor_80 : decode cX5_readFactor 80 = .ok (.invokevirtual 52, 3) := by decide +kernel
theorem dX5_readFactor_83 : decode cX5_readFactor 83 = .ok (.aload_n 0, 1) := by decide +kernel
theorem dX5_readFactor_84 : decode cX5_readFactor 84 = .ok (.getfield 15, 3) := by decide +kernel
theorem dX5_readFactor_87 : decode cX5_readFactor 87 = .ok (.iload_n 2, 1) := by decide +kernel
theorem dX5_readFactor_88 : decode cX5_readFactor 88 = .ok (.iconst 0, 1) := by decide +kernel
theorem dX5_readFactor_89 : decode cX5_readFactor 89 = .ok (.invokevirtual 71, 3) := by decide +kernel
theorem dX5_readFactor_92 : decode cX5_readFactor 92 = .ok (.pop, 1) := by decide +kernel
theorem dX5_readFactor_93 : decode cX5_readFactor 93 = .ok (.goto 18, 3) := by decide +kernel
theorem dX5_readFactor_96 : decode cX5_readFactor 96 = .ok (.aload_n 0, 1) := by decide +kernel
theorem dX5_readFactor_97 : decode cX5_readFactor 97 = .ok (.getfield 9, 3) := by decide +kernel
theorem dX5_readFactor_100 : decode cX5_readFactor 100 = .ok (.iconst 1, 1) := by decide +kernel
theorem dX5_readFactor_101 : decode cX5_readFactor 101 = .ok (.aload_n 0, 1) := by decide +kernel
theorem dX5_readFactor_102 : decode cX5_readFactor 102 = .ok (.getfield 9, 3) := by decide +kernel
theorem dX5_readFactor_105 : decode cX5_readFactor 105 = .ok (.getfield 41, 3) := by decide +kernel
theorem dX5_readFactor_108 : decode cX5_readFactor 108 = .ok (.invokevirtual 45, 3) := by decide +kernel
theorem dX5_readFactor_111 : decode cX5_readFactor 111 = .ok (.return_, 1) := by decide +kernel
theorem dX5_opens_0 : decode cX5_opens 0 = .ok (.iload_n 1, 1) := by decide +kernel
theorem dX5_opens_1 : decode cX5_opens 1 = .ok (.bipush 6, 2) := by decide +kernel
theorem dX5_opens_3 : decode cX5_opens 3 = .ok (.if_icmp .lt 20, 3) := by decide +kernel
theorem dX5_opens_6 : decode cX5_opens 6 = .ok (.aload_n 0, 1) := by decide +kernel
theorem dX5_opens_7 : decode cX5_opens 7 = .ok (.getfield 9, 3) := by decide +kernel
theorem dX5_opens_10 : decode cX5_opens 10 = .ok (.iconst 5, 1) := by decide +kernel
theorem dX5_opens_11 : decode cX5_opens 11 = .ok (.aload_n 0, 1) := by decide +kernel
theorem dX5_opens_12 : decode cX5_opens 12 = .ok (.getfield 9, 3) := by decide +kernel
theorem dX5_opens_15 : decode cX5_opens 15 = .ok (.getfield 41, 3) := by decide +kernel
theorem dX5_opens_18 : decode cX5_opens 18 = .ok (.invokevirtual 45, 3) := by decide +kernel
theorem dX5_opens_21 : decode cX5_opens 21 = .ok (.iconst 0, 1) := by decide +kernel
theorem dX5_opens_22 : decode cX5_opens 22 = .ok (.ireturn, 1) := by decide +kernel
theorem dX5_opens_23 : decode cX5_opens 23 = .ok (.aload_n 0, 1) := by decide +kernel
theorem dX5_opens_24 : decode cX5_opens 24 = .ok (.getfield 9, 3) := by decide +kernel
theorem dX5_opens_27 : decode cX5_opens 27 = .ok (.invokevirtual 52, 3) := by decide +kernel
theorem dX5_opens_30 : decode cX5_opens 30 = .ok (.iconst 1, 1) := by decide +kernel
theorem dX5_opens_31 : decode cX5_opens 31 = .ok (.ireturn, 1) := by decide +kernel
theorem dX5_isTimes_0 : decode cX5_isTimes 0 = .ok (.iload_n 0, 1) := by decide +kernel
theorem dX5_isTimes_1 : decode cX5_isTimes 1 = .ok (.bipush 42, 2) := by decide +kernel
theorem dX5_isTimes_3 : decode cX5_isTimes 3 = .ok (.if_icmp .eq 15, 3) := by decide +kernel
theorem dX5_isTimes_6 : decode cX5_isTimes 6 = .ok (.iload_n 0, 1) := by decide +kernel
theorem dX5_isTimes_7 : decode cX5_isTimes 7 = .ok (.bipush 47, 2) := by decide +kernel
theorem dX5_isTimes_9 : decode cX5_isTimes 9 = .ok (.if_icmp .eq 9, 3) := by decide +kernel
theorem dX5_isTimes_12 : decode cX5_isTimes 12 = .ok (.iload_n 0, 1) := by decide +kernel
theorem dX5_isTimes_13 : decode cX5_isTimes 13 = .ok (.bipush 37, 2) := by decide +kernel
theorem dX5_isTimes_15 : decode cX5_isTimes 15 = .ok (.if_icmp .ne 7, 3) := by decide +kernel
theorem dX5_isTimes_18 : decode cX5_isTimes 18 = .ok (.iconst 1, 1) := by decide +kernel
theorem dX5_isTimes_19 : decode cX5_isTimes 19 = .ok (.goto 4, 3) := by decide +kernel
theorem dX5_isTimes_22 : decode cX5_isTimes 22 = .ok (.iconst 0, 1) := by decide +kernel
theorem dX5_isTimes_23 : decode cX5_isTimes 23 = .ok (.ireturn, 1) := by decide +kernel
theorem dX5_isLetter_0 : decode cX5_isLetter 0 = .ok (.iload_n 0, 1) := by decide +kernel
theorem dX5_isLetter_1 : decode cX5_isLetter 1 = .ok (.tableswitch 109 97 119 #[107, 109, 109, 109, 109, 107, 107, 107, 109, 109, 109, 109, 109, 109, 109, 107, 109, 107, 107, 109, 109, 109, 107], 107) := by decide +kernel
theorem dX5_isLetter_108 : decode cX5_isLetter 108 = .ok (.iconst 1, 1) := by decide +kernel
theorem dX5_isLetter_109 : decode cX5_isLetter 109 = .ok (.ireturn, 1) := by decide +kernel
theorem dX5_isLetter_110 : decode cX5_isLetter 110 = .ok (.iconst 0, 1) := by decide +kernel
theorem dX5_isLetter_111 : decode cX5_isLetter 111 = .ok (.ireturn, 1) := by decide +kernel
theorem dX6_init_0 : decode cX6_init 0 = .ok (.aload_n 0, 1) := by decide +kernel
theorem dX6_init_1 : decode cX6_init 1 = .ok (.invokespecial 3, 3) := by decide +kernel
theorem dX6_init_4 : decode cX6_init 4 = .ok (.aload_n 0, 1) := by decide +kernel
theorem dX6_init_5 : decode cX6_init 5 = .ok (.aload_n 1, 1) := by decide +kernel
theorem dX6_init_6 : decode cX6_init 6 = .ok (.putfield 9, 3) := by decide +kernel
theorem dX6_init_9 : decode cX6_init 9 = .ok (.aload_n 0, 1) := by decide +kernel
theorem dX6_init_10 : decode cX6_init 10 = .ok (.aload_n 2, 1) := by decide +kernel
theorem dX6_init_11 : decode cX6_init 11 = .ok (.putfield 15, 3) := by decide +kernel
theorem dX6_init_14 : decode cX6_init 14 = .ok (.return_, 1) := by decide +kernel
theorem dX6_read_0 : decode cX6_read 0 = .ok (.aload_n 0, 1) := by decide +kernel
theorem dX6_read_1 : decode cX6_read 1 = .ok (.aload_n 1, 1) := by decide +kernel
theorem dX6_read_2 : decode cX6_read 2 = .ok (.putfield 15, 3) := by decide +kernel
theorem dX6_read_5 : decode cX6_read 5 = .ok (.iconst 1, 1) := by decide +kernel
theorem dX6_read_6 : decode cX6_read 6 = .ok (.istore_n 2, 1) := by decide +kernel
theorem dX6_read_7 : decode cX6_read 7 = .ok (.iload_n 2, 1) := by decide +kernel
theorem dX6_read_8 : decode cX6_read 8 = .ok (.bipush 20, 2) := by decide +kernel
theorem dX6_read_10 : decode cX6_read 10 = .ok (.if_icmp .gt 34, 3) := by decide +kernel
theorem dX6_read_13 : decode cX6_read 13 = .ok (.aload_n 0, 1) := by decide +kernel
theorem dX6_read_14 : decode cX6_read 14 = .ok (.invokevirtual 19, 3) := by decide +kernel
theorem dX6_read_17 : decode cX6_read 17 = .ok (.aload_n 0, 1) := by decide +kernel
theorem dX6_read_18 : decode cX6_read 18 = .ok (.getfield 9, 3) := by decide +kernel
theorem dX6_read_21 : decode cX6_read 21 = .ok (.invokevirtual 22, 3) := by decide +kernel
theorem dX6_read_24 : decode cX6_read 24 = .ok (.ifCond .eq 5, 3) := by decide +kernel
theorem dX6_read_27 : decode cX6_read 27 = .ok (.iload_n 2, 1) := by decide +kernel
theorem dX6_read_28 : decode cX6_read 28 = .ok (.ireturn, 1) := by decide +kernel
theorem dX6_read_29 : decode cX6_read 29 = .ok (.aload_n 0, 1) := by decide +kernel
theorem dX6_read_30 : decode cX6_read 30 = .ok (.getfield 9, 3) := by decide +kernel
theorem dX6_read_33 : decode cX6_read 33 = .ok (.bipush 59, 2) := by decide +kernel
theorem dX6_read_35 : decode cX6_read 35 = .ok (.invokevirtual 28, 3) := by decide +kernel
theorem dX6_read_38 : decode cX6_read 38 = .ok (.iinc 2 1, 3) := by decide +kernel
theorem dX6_read_41 : decode cX6_read 41 = .ok (.goto (-34), 3) := by decide +kernel
theorem dX6_read_44 : decode cX6_read 44 = .ok (.aload_n 0, 1) := by decide +kernel
theorem dX6_read_45 : decode cX6_read 45 = .ok (.getfield 9, 3) := by decide +kernel
theorem dX6_read_48 : decode cX6_read 48 = .ok (.aload_n 0, 1) := by decide +kernel
theorem dX6_read_49 : decode cX6_read 49 = .ok (.getfield 9, 3) := by decide +kernel
theorem dX6_read_52 : decode cX6_read 52 = .ok (.invokevirtual 32, 3) := by decide +kernel
theorem dX6_read_55 : decode cX6_read 55 = .ok (.invokestatic 36, 3) := by decide +kernel
theorem dX6_read_58 : decode cX6_read 58 = .ok (.ifCond .eq 7, 3) := by decide +kernel
theorem dX6_read_61 : decode cX6_read 61 = .ok (.iconst 4, 1) := by decide +kernel
theorem dX6_read_62 : decode cX6_read 62 = .ok (.goto 4, 3) := by decide +kernel
theorem dX6_read_65 : decode cX6_read 65 = .ok (.iconst 1, 1) := by decide +kernel
theorem dX6_read_66 : decode cX6_read 66 = .ok (.aload_n 0, 1) := by decide +kernel
theorem dX6_read_67 : decode cX6_read 67 = .ok (.getfield 9, 3) := by decide +kernel
theorem dX6_read_70 : decode cX6_read 70 = .ok (.getfield 40, 3) := by decide +kernel
theorem dX6_read_73 : decode cX6_read 73 = .ok (.invokevirtual 44, 3) := by decide +kernel
theorem dX6_read_76 : decode cX6_read 76 = .ok (.bipush 20, 2) := by decide +kernel
theorem dX6_read_78 : decode cX6_read 78 = .ok (.ireturn, 1) := by decide +kernel
theorem dX6_doLine_0 : decode cX6_doLine 0 = .ok (.aload_n 0, 1) := by decide +kernel
theorem dX6_doLine_1 : decode cX6_doLine 1 = .ok (.invokevirtual 48, 3) := by decide +kernel
theorem dX6_doLine_4 : decode cX6_doLine 4 = .ok (.istore_n 1, 1) := by decide +kernel
theorem dX6_doLine_5 : decode cX6_doLine 5 = .ok (.iload_n 1, 1) := by decide +kernel
theorem dX6_doLine_6 : decode cX6_doLine 6 = .ok (.iconst (-1), 1) := by decide +kernel
theorem dX6_doLine_7 : decode cX6_doLine 7 = .ok (.if_icmp .ne 4, 3) := by decide +kernel
theorem dX6_doLine_10 : decode cX6_doLine 10 = .ok (.return_, 1) := by decide +kernel
theorem dX6_doLine_11 : decode cX6_doLine 11 = .ok (.aload_n 0, 1) := by decide +kernel
theorem dX6_doLine_12 : decode cX6_doLine 12 = .ok (.getfield 9, 3) := by decide +kernel
theorem dX6_doLine_15 : decode cX6_doLine 15 = .ok (.getfield 40, 3) := by decide +kernel
theorem dX6_doLine_18 : decode cX6_doLine 18 = .ok (.istore_n 2, 1) := by decide +kernel
theorem dX6_doLine_19 : decode cX6_doLine 19 = .ok (.aload_n 0, 1) := by decide +kernel
theorem dX6_doLine_20 : decode cX6_doLine 20 = .ok (.getfield 9, 3) := by decide +kernel
theorem dX6_doLine_23 : decode cX6_doLine 23 = .ok (.invokevirtual 32, 3) := by decide +kernel
theorem dX6_doLine_26 : decode cX6_doLine 26 = .ok (.istore_n 3, 1) := by decide +kernel
theorem dX6_doLine_27 : decode cX6_doLine 27 = .ok (.aload_n 0, 1) := by decide +kernel
theorem dX6_doLine_28 : decode cX6_doLine 28 = .ok (.getfield 9, 3) := by decide +kernel
theorem dX6_doLine_31 : decode cX6_doLine 31 = .ok (.invokevirtual 51, 3) := by decide +kernel
theorem dX6_doLine_34 : decode cX6_doLine 34 = .ok (.iload_n 3, 1) := by decide +kernel
theorem dX6_doLine_35 : decode cX6_doLine 35 = .ok (.lookupswitch 159 #[(33, 81), (60, 123), (61, 73), (62, 147), (64, 90), (111, 99), (115, 111), (124, 135)], 73) := by decide +kernel
theorem dX6_doLine_108 : decode cX6_doLine 108 = .ok (.aload_n 0, 1) := by decide +kernel
theorem dX6_doLine_109 : decode cX6_doLine 109 = .ok (.iload_n 1, 1) := by decide +kernel
theorem dX6_doLine_110 : decode cX6_doLine 110 = .ok (.invokevirtual 54, 3) := by decide +kernel
theorem dX6_doLine_113 : decode cX6_doLine 113 = .ok (.goto 90, 3) := by decide +kernel
theorem dX6_doLine_116 : decode cX6_doLine 116 = .ok (.aload_n 0, 1) := by decide +kernel
theorem dX6_doLine_117 : decode cX6_doLine 117 = .ok (.iload_n 1, 1) := by decide +kernel
theorem dX6_doLine_118 : decode cX6_doLine 118 = .ok (.iload_n 2, 1) := by decide +kernel
theorem dX6_doLine_119 : decode cX6_doLine 119 = .ok (.invokevirtual 57, 3) := by decide +kernel
theorem dX6_doLine_122 : decode cX6_doLine 122 = .ok (.goto 81, 3) := by decide +kernel
theorem dX6_doLine_125 : decode cX6_doLine 125 = .ok (.aload_n 0, 1) := by decide +kernel
theorem dX6_doLine_126 : decode cX6_doLine 126 = .ok (.iload_n 1, 1) := by decide +kernel
theorem dX6_doLine_127 : decode cX6_doLine 127 = .ok (.iload_n 2, 1) := by decide +kernel
theorem dX6_doLine_128 : decode cX6_doLine 128 = .ok (.invokevirtual 60, 3) := by decide +kernel
theorem dX6_doLine_131 : decode cX6_doLine 131 = .ok (.goto 72, 3) := by decide +kernel
theorem dX6_doLine_134 : decode cX6_doLine 134 = .ok (.aload_n 0, 1) := by decide +kernel
theorem dX6_doLine_135 : decode cX6_doLine 135 = .ok (.getfield 15, 3) := by decide +kernel
theorem dX6_doLine_138 : decode cX6_doLine 138 = .ok (.iload_n 1, 1) := by decide +kernel
theorem dX6_doLine_139 : decode cX6_doLine 139 = .ok (.iconst 1, 1) := by decide +kernel
theorem dX6_doLine_140 : decode cX6_doLine 140 = .ok (.invokevirtual 63, 3) := by decide +kernel
theorem dX6_doLine_143 : decode cX6_doLine 143 = .ok (.goto 60, 3) := by decide +kernel
theorem dX6_doLine_146 : decode cX6_doLine 146 = .ok (.aload_n 0, 1) := by decide +kernel
theorem dX6_doLine_147 : decode cX6_doLine 147 = .ok (.getfield 15, 3) := by decide +kernel
theorem dX6_doLine_150 : decode cX6_doLine 150 = .ok (.iload_n 1, 1) := by decide +kernel
theorem dX6_doLine_151 : decode cX6_doLine 151 = .ok (.iconst 0, 1) := by decide +kernel
theorem dX6_doLine_152 : decode cX6_doLine 152 = .ok (.invokevirtual 63, 3) := by decide +kernel
theorem dX6_doLine_155 : decode cX6_doLine 155 = .ok (.goto 48, 3) := by decide +kernel
theorem dX6_doLine_158 : decode cX6_doLine 158 = .ok (.aload_n 0, 1) := by decide +kernel
theorem dX6_doLine_159 : decode cX6_doLine 159 = .ok (.getfield 15, 3) := by decide +kernel
theorem dX6_doLine_162 : decode cX6_doLine 162 = .ok (.iload_n 1, 1) := by decide +kernel
theorem dX6_doLine_163 : decode cX6_doLine 163 = .ok (.iconst 0, 1) := by decide +kernel
theorem dX6_doLine_164 : decode cX6_doLine 164 = .ok (.invokevirtual 69, 3) := by decide +kernel
theorem dX6_doLine_167 : decode cX6_doLine 167 = .ok (.goto 36, 3) := by decide +kernel
theorem dX6_doLine_170 : decode cX6_doLine 170 = .ok (.aload_n 0, 1) := by decide +kernel
theorem dX6_doLine_171 : decode cX6_doLine 171 = .ok (.getfield 15, 3) := by decide +kernel
theorem dX6_doLine_174 : decode cX6_doLine 174 = .ok (.iload_n 1, 1) := by decide +kernel
theorem dX6_doLine_175 : decode cX6_doLine 175 = .ok (.iconst 1, 1) := by decide +kernel
theorem dX6_doLine_176 : decode cX6_doLine 176 = .ok (.invokevirtual 69, 3) := by decide +kernel
theorem dX6_doLine_179 : decode cX6_doLine 179 = .ok (.goto 24, 3) := by decide +kernel
theorem dX6_doLine_182 : decode cX6_doLine 182 = .ok (.aload_n 0, 1) := by decide +kernel
theorem dX6_doLine_183 : decode cX6_doLine 183 = .ok (.getfield 15, 3) := by decide +kernel
theorem dX6_doLine_186 : decode cX6_doLine 186 = .ok (.iload_n 1, 1) := by decide +kernel
theorem dX6_doLine_187 : decode cX6_doLine 187 = .ok (.iconst 2, 1) := by decide +kernel
theorem dX6_doLine_188 : decode cX6_doLine 188 = .ok (.invokevirtual 69, 3) := by decide +kernel
theorem dX6_doLine_191 : decode cX6_doLine 191 = .ok (.goto 12, 3) := by decide +kernel
theorem dX6_doLine_194 : decode cX6_doLine 194 = .ok (.aload_n 0, 1) := by decide +kernel
theorem dX6_doLine_195 : decode cX6_doLine 195 = .ok (.getfield 9, 3) := by decide +kernel
theorem dX6_doLine_198 : decode cX6_doLine 198 = .ok (.iconst 1, 1) := by decide +kernel
theorem dX6_doLine_199 : decode cX6_doLine 199 = .ok (.iload_n 2, 1) := by decide +kernel
theorem dX6_doLine_200 : decode cX6_doLine 200 = .ok (.invokevirtual 44, 3) := by decide +kernel
theorem dX6_doLine_203 : decode cX6_doLine 203 = .ok (.return_, 1) := by decide +kernel
theorem dX6_readRoom_0 : decode cX6_readRoom 0 = .ok (.aload_n 0, 1) := by decide +kernel
theorem dX6_readRoom_1 : decode cX6_readRoom 1 = .ok (.getfield 9, 3) := by decide +kernel
theorem dX6_readRoom_4 : decode cX6_readRoom 4 = .ok (.getfield 40, 3) := by decide +kernel
theorem dX6_readRoom_7 : decode cX6_readRoom 7 = .ok (.istore_n 1, 1) := by decide +kernel
theorem dX6_readRoom_8 : decode cX6_readRoom 8 = .ok (.aload_n 0, 1) := by decide +kernel
theorem dX6_readRoom_9 : decode cX6_readRoom 9 = .ok (.getfield 9, 3) := by decide +kernel
theorem dX6_readRoom_12 : decode cX6_readRoom 12 = .ok (.iconst 2, 1) := by decide +kernel
theorem dX6_readRoom_13 : decode cX6_readRoom 13 = .ok (.invokevirtual 72, 3) := by decide +kernel
theorem dX6_readRoom_16 : decode cX6_readRoom 16 = .ok (.istore_n 2, 1) := by decide +kernel
theorem dX6_readRoom_17 : decode cX6_readRoom 17 = .ok (.iload_n 2, 1) := by decide +kernel
theorem dX6_readRoom_18 : decode cX6_readRoom 18 = .ok (.bipush 24, 2) := by decide +kernel
theorem dX6_readRoom_20 : decode cX6_readRoom 20 = .ok (.if_icmp .lt 14, 3) := by decide +kernel
theorem dX6_readRoom_23 : decode cX6_readRoom 23 = .ok (.aload_n 0, 1) := by decide +kernel
theorem dX6_readRoom_24 : decode cX6_readRoom 24 = .ok (.getfield 9, 3) := by decide +kernel
theorem dX6_readRoom_27 : decode cX6_readRoom 27 = .ok (.iconst 3, 1) := by decide +kernel
theorem dX6_readRoom_28 : decode cX6_readRoom 28 = .ok (.iload_n 1, 1) := by decide +kernel
theorem dX6_readRoom_29 : decode cX6_readRoom 29 = .ok (.invokevirtual 44, 3) := by decide +kernel
theorem dX6_readRoom_32 : decode cX6_readRoom 32 = .ok (.iconst (-1), 1) := by decide +kernel
theorem dX6_readRoom_33 : decode cX6_readRoom 33 = .ok (.ireturn, 1) := by decide +kernel
theorem dX6_readRoom_34 : decode cX6_readRoom 34 = .ok (.iload_n 2, 1) := by decide +kernel
theorem dX6_readRoom_35 : decode cX6_readRoom 35 = .ok (.ireturn, 1) := by decide +kernel
theorem dX6_takeIn_0 : decode cX6_takeIn 0 = .ok (.aload_n 0, 1) := by decide +kernel
theorem dX6_takeIn_1 : decode cX6_takeIn 1 = .ok (.getfield 9, 3) := by decide +kernel
theorem dX6_takeIn_4 : decode cX6_takeIn 4 = .ok (.iconst 4, 1) := by decide +kernel
theorem dX6_takeIn_5 : decode cX6_takeIn 5 = .ok (.invokevirtual 72, 3) := by decide +kernel
theorem dX6_takeIn_8 : decode cX6_takeIn 8 = .ok (.istore_n 2, 1) := by decide +kernel
theorem dX6_takeIn_9 : decode cX6_takeIn 9 = .ok (.iload_n 2, 1) := by decide +kernel
theorem dX6_takeIn_10 : decode cX6_takeIn 10 = .ok (.iconst (-1), 1) := by decide +kernel
theorem dX6_takeIn_11 : decode cX6_takeIn 11 = .ok (.if_icmp .eq 12, 3) := by decide +kernel
theorem dX6_takeIn_14 : decode cX6_takeIn 14 = .ok (.aload_n 0, 1) := by decide +kernel
theorem dX6_takeIn_15 : decode cX6_takeIn 15 = .ok (.getfield 15, 3) := by decide +kernel
theorem dX6_takeIn_18 : decode cX6_takeIn 18 = .ok (.iload_n 1, 1) := by decide +kernel
theorem dX6_takeIn_19 : decode cX6_takeIn 19 = .ok (.iload_n 2, 1) := by decide +kernel
theorem dX6_takeIn_20 : decode cX6_takeIn 20 = .ok (.invokevirtual 76, 3) := by decide +kernel
theorem dX6_takeIn_23 : decode cX6_takeIn 23 = .ok (.return_, 1) := by decide +kernel
theorem dX6_sendAway_0 : decode cX6_sendAway 0 = .ok (.aload_n 0, 1) := by decide +kernel
theorem dX6_sendAway_1 : decode cX6_sendAway 1 = .ok (.getfield 15, 3) := by decide +kernel
theorem dX6_sendAway_4 : decode cX6_sendAway 4 = .ok (.iload_n 1, 1) := by decide +kernel
theorem dX6_sendAway_5 : decode cX6_sendAway 5 = .ok (.invokevirtual 78, 3) := by decide +kernel
theorem dX6_sendAway_8 : decode cX6_sendAway 8 = .ok (.ifCond .eq 14, 3) := by decide +kernel
theorem dX6_sendAway_11 : decode cX6_sendAway 11 = .ok (.aload_n 0, 1) := by decide +kernel
theorem dX6_sendAway_12 : decode cX6_sendAway 12 = .ok (.getfield 15, 3) := by decide +kernel
theorem dX6_sendAway_15 : decode cX6_sendAway 15 = .ok (.iload_n 1, 1) := by decide +kernel
theorem dX6_sendAway_16 : decode cX6_sendAway 16 = .ok (.invokevirtual 81, 3) := by decide +kernel
theorem dX6_sendAway_19 : decode cX6_sendAway 19 = .ok (.goto 13, 3) := by decide +kernel
theorem dX6_sendAway_22 : decode cX6_sendAway 22 = .ok (.aload_n 0, 1) := by decide +kernel
theorem dX6_sendAway_23 : decode cX6_sendAway 23 = .ok (.getfield 9, 3) := by decide +kernel
theorem dX6_sendAway_26 : decode cX6_sendAway 26 = .ok (.bipush 7, 2) := by decide +kernel
theorem dX6_sendAway_28 : decode cX6_sendAway 28 = .ok (.iload_n 2, 1) := by decide +kernel
theorem dX6_sendAway_29 : decode cX6_sendAway 29 = .ok (.invokevirtual 44, 3) := by decide +kernel
theorem dX6_sendAway_32 : decode cX6_sendAway 32 = .ok (.return_, 1) := by decide +kernel
theorem dX6_exchange_0 : decode cX6_exchange 0 = .ok (.aload_n 0, 1) := by decide +kernel
theorem dX6_exchange_1 : decode cX6_exchange 1 = .ok (.invokevirtual 48, 3) := by decide +kernel
theorem dX6_exchange_4 : decode cX6_exchange 4 = .ok (.istore_n 3, 1) := by decide +kernel
theorem dX6_exchange_5 : decode cX6_exchange 5 = .ok (.iload_n 3, 1) := by decide +kernel
theorem dX6_exchange_6 : decode cX6_exchange 6 = .ok (.iconst (-1), 1) := by decide +kernel
theorem dX6_exchange_7 : decode cX6_exchange 7 = .ok (.if_icmp .ne 4, 3) := by decide +kernel
theorem dX6_exchange_10 : decode cX6_exchange 10 = .ok (.return_, 1) := by decide +kernel
theorem dX6_exchange_11 : decode cX6_exchange 11 = .ok (.aload_n 0, 1) := by decide +kernel
theorem dX6_exchange_12 : decode cX6_exchange 12 = .ok (.getfield 15, 3) := by decide +kernel
theorem dX6_exchange_15 : decode cX6_exchange 15 = .ok (.iload_n 1, 1) := by decide +kernel
theorem dX6_exchange_16 : decode cX6_exchange 16 = .ok (.invokevirtual 78, 3) := by decide +kernel
theorem dX6_exchange_19 : decode cX6_exchange 19 = .ok (.ifCond .ne 14, 3) := by decide +kernel
theorem dX6_exchange_22 : decode cX6_exchange 22 = .ok (.aload_n 0, 1) := by decide +kernel
theorem dX6_exchange_23 : decode cX6_exchange 23 = .ok (.getfield 15, 3) := by decide +kernel
theorem dX6_exchange_26 : decode cX6_exchange 26 = .ok (.iload_n 3, 1) := by decide +kernel
theorem dX6_exchange_27 : decode cX6_exchange 27 = .ok (.invokevirtual 78, 3) := by decide +kernel
theorem dX6_exchange_30 : decode cX6_exchange 30 = .ok (.ifCond .eq 15, 3) := by decide +kernel
theorem dX6_exchange_33 : decode cX6_exchange 33 = .ok (.aload_n 0, 1) := by decide +kernel
theorem dX6_exchange_34 : decode cX6_exchange 34 = .ok (.getfield 15, 3) := by decide +kernel
theorem dX6_exchange_37 : decode cX6_exchange 37 = .ok (.iload_n 1, 1) := by decide +kernel
theorem dX6_exchange_38 : decode cX6_exchange 38 = .ok (.iload_n 3, 1) := by decide +kernel
theorem dX6_exchange_39 : decode cX6_exchange 39 = .ok (.invokevirtual 83, 3) := by decide +kernel
theorem dX6_exchange_42 : decode cX6_exchange 42 = .ok (.goto 13, 3) := by decide +kernel
theorem dX6_exchange_45 : decode cX6_exchange 45 = .ok (.aload_n 0, 1) := by decide +kernel
theorem dX6_exchange_46 : decode cX6_exchange 46 = .ok (.getfield 9, 3) := by decide +kernel
theorem dX6_exchange_49 : decode cX6_exchange 49 = .ok (.bipush 7, 2) := by decide +kernel
theorem dX6_exchange_51 : decode cX6_exchange 51 = .ok (.iload_n 2, 1) := by decide +kernel
theorem dX6_exchange_52 : decode cX6_exchange 52 = .ok (.invokevirtual 44, 3) := by decide +kernel
theorem dX6_exchange_55 : decode cX6_exchange 55 = .ok (.return_, 1) := by decide +kernel
theorem dX7_init_0 : decode cX7_init 0 = .ok (.aload_n 0, 1) := by decide +kernel
theorem dX7_init_1 : decode cX7_init 1 = .ok (.invokespecial 3, 3) := by decide +kernel
theorem dX7_init_4 : decode cX7_init 4 = .ok (.aload_n 0, 1) := by decide +kernel
theorem dX7_init_5 : decode cX7_init 5 = .ok (.iconst 4, 1) := by decide +kernel
theorem dX7_init_6 : decode cX7_init 6 = .ok (.newarray .int, 2) := by decide +kernel
theorem dX7_init_8 : decode cX7_init 8 = .ok (.putfield 9, 3) := by decide +kernel
theorem dX7_init_11 : decode cX7_init 11 = .ok (.aload_n 0, 1) := by decide +kernel
theorem dX7_init_12 : decode cX7_init 12 = .ok (.iconst 4, 1) := by decide +kernel
theorem dX7_init_13 : decode cX7_init 13 = .ok (.newarray .int, 2) := by decide +kernel
theorem dX7_init_15 : decode cX7_init 15 = .ok (.putfield 15, 3) := by decide +kernel
theorem dX7_init_18 : decode cX7_init 18 = .ok (.aload_n 0, 1) := by decide +kernel
theorem dX7_init_19 : decode cX7_init 19 = .ok (.iconst 4, 1) := by decide +kernel
theorem dX7_init_20 : decode cX7_init 20 = .ok (.newarray .int, 2) := by decide +kernel
theorem dX7_init_22 : decode cX7_init 22 = .ok (.putfield 18, 3) := by decide +kernel
theorem dX7_init_25 : decode cX7_init 25 = .ok (.return_, 1) := by decide +kernel
theorem dX7_let_0 : decode cX7_let 0 = .ok (.aload_n 0, 1) := by decide +kernel
theorem dX7_let_1 : decode cX7_let 1 = .ok (.getfield 9, 3) := by decide +kernel
theorem dX7_let_4 : decode cX7_let 4 = .ok (.iconst 0, 1) := by decide +kernel
theorem dX7_let_5 : decode cX7_let 5 = .ok (.invokestatic 21, 3) := by decide +kernel
theorem dX7_let_8 : decode cX7_let 8 = .ok (.aload_n 0, 1) := by decide +kernel
theorem dX7_let_9 : decode cX7_let 9 = .ok (.getfield 15, 3) := by decide +kernel
theorem dX7_let_12 : decode cX7_let 12 = .ok (.ldc 27, 2) := by decide +kernel
theorem dX7_let_14 : decode cX7_let 14 = .ok (.invokestatic 21, 3) := by decide +kernel
theorem dX7_let_17 : decode cX7_let 17 = .ok (.aload_n 0, 1) := by decide +kernel
theorem dX7_let_18 : decode cX7_let 18 = .ok (.getfield 18, 3) := by decide +kernel
theorem dX7_let_21 : decode cX7_let 21 = .ok (.ldc 27, 2) := by decide +kernel
theorem dX7_let_23 : decode cX7_let 23 = .ok (.invokestatic 21, 3) := by decide +kernel
theorem dX7_let_26 : decode cX7_let 26 = .ok (.iconst 5, 1) := by decide +kernel
theorem dX7_let_27 : decode cX7_let 27 = .ok (.istore 5, 2) := by decide +kernel
theorem dX7_let_29 : decode cX7_let 29 = .ok (.iload 5, 2) := by decide +kernel
theorem dX7_let_31 : decode cX7_let 31 = .ok (.ifCond .lt 42, 3) := by decide +kernel
theorem dX7_let_34 : decode cX7_let 34 = .ok (.iload 5, 2) := by decide +kernel
theorem dX7_let_36 : decode cX7_let 36 = .ok (.iload_n 2, 1) := by decide +kernel
theorem dX7_let_37 : decode cX7_let 37 = .ok (.invokestatic 28, 3) := by decide +kernel
theorem dX7_let_40 : decode cX7_let 40 = .ok (.if_icmp .lt 33, 3) := by decide +kernel
theorem dX7_let_43 : decode cX7_let 43 = .ok (.aload_n 0, 1) := by decide +kernel
theorem dX7_let_44 : decode cX7_let 44 = .ok (.aload_n 1, 1) := by decide +kernel
theorem dX7_let_45 : decode cX7_let 45 = .ok (.iload 5, 2) := by decide +kernel
theorem dX7_let_47 : decode cX7_let 47 = .ok (.iload_n 3, 1) := by decide +kernel
theorem dX7_let_48 : decode cX7_let 48 = .ok (.invokevirtual 32, 3) := by decide +kernel
theorem dX7_let_51 : decode cX7_let 51 = .ok (.aload_n 0, 1) := by decide +kernel
theorem dX7_let_52 : decode cX7_let 52 = .ok (.aload_n 1, 1) := by decide +kernel
theorem dX7_let_53 : decode cX7_let 53 = .ok (.iload 5, 2) := by decide +kernel
theorem dX7_let_55 : decode cX7_let 55 = .ok (.iload_n 3, 1) := by decide +kernel
theorem dX7_let_56 : decode cX7_let 56 = .ok (.invokevirtual 36, 3) := by decide +kernel
theorem dX7_let_59 : decode cX7_let 59 = .ok (.aload_n 0, 1) := by decide +kernel
theorem dX7_let_60 : decode cX7_let 60 = .ok (.aload_n 1, 1) := by decide +kernel
theorem dX7_let_61 : decode cX7_let 61 = .ok (.iload 5, 2) := by decide +kernel
theorem dX7_let_63 : decode cX7_let 63 = .ok (.iload_n 3, 1) := by decide +kernel
theorem dX7_let_64 : decode cX7_let 64 = .ok (.invokevirtual 39, 3) := by decide +kernel
theorem dX7_let_67 : decode cX7_let 67 = .ok (.iinc 5 (-1), 3) := by decide +kernel
theorem dX7_let_70 : decode cX7_let 70 = .ok (.goto (-41), 3) := by decide +kernel
theorem dX7_let_73 : decode cX7_let 73 = .ok (.aload_n 0, 1) := by decide +kernel
theorem dX7_let_74 : decode cX7_let 74 = .ok (.getfield 9, 3) := by decide +kernel
theorem dX7_let_77 : decode cX7_let 77 = .ok (.iload_n 2, 1) := by decide +kernel
theorem dX7_let_78 : decode cX7_let 78 = .ok (.invokestatic 42, 3) := by decide +kernel
theorem dX7_let_81 : decode cX7_let 81 = .ok (.iaload, 1) := by decide +kernel
theorem dX7_let_82 : decode cX7_let 82 = .ok (.aload_n 0, 1) := by decide +kernel
theorem dX7_let_83 : decode cX7_let 83 = .ok (.iload_n 2, 1) := by decide +kernel
theorem dX7_let_84 : decode cX7_let 84 = .ok (.invokestatic 42, 3) := by decide +kernel
theorem dX7_let_87 : decode cX7_let 87 = .ok (.invokevirtual 45, 3) := by decide +kernel
theorem dX7_let_90 : decode cX7_let 90 = .ok (.invokestatic 48, 3) := by decide +kernel
theorem dX7_let_93 : decode cX7_let 93 = .ok (.istore 5, 2) := by decide +kernel
theorem dX7_let_95 : decode cX7_let 95 = .ok (.iload 5, 2) := by decide +kernel
theorem dX7_let_97 : decode cX7_let 97 = .ok (.ldc 27, 2) := by decide +kernel
theorem dX7_let_99 : decode cX7_let 99 = .ok (.if_icmp .lt 6, 3) := by decide +kernel
theorem dX7_let_102 : decode cX7_let 102 = .ok (.bipush (-2), 2) := by decide +kernel
theorem dX7_let_104 : decode cX7_let 104 = .ok (.ireturn, 1) := by decide +kernel
theorem dX7_let_105 : decode cX7_let 105 = .ok (.iload 4, 2) := by decide +kernel
theorem dX7_let_107 : decode cX7_let 107 = .ok (.ifCond .ne 11, 3) := by decide +kernel
theorem dX7_let_110 : decode cX7_let 110 = .ok (.iload 5, 2) := by decide +kernel
theorem dX7_let_112 : decode cX7_let 112 = .ok (.bipush 100, 2) := by decide +kernel
theorem dX7_let_114 : decode cX7_let 114 = .ok (.idiv, 1) := by decide +kernel
theorem dX7_let_115 : decode cX7_let 115 = .ok (.goto 8, 3) := by decide +kernel
theorem dX7_let_118 : decode cX7_let 118 = .ok (.iload 5, 2) := by decide +kernel
theorem dX7_let_120 : decode cX7_let 120 = .ok (.bipush 100, 2) := by decide +kernel
theorem dX7_let_122 : decode cX7_let 122 = .ok (.irem, 1) := by decide +kernel
theorem dX7_let_123 : decode cX7_let 123 = .ok (.ireturn, 1) := by decide +kernel
theorem dX7_aside_0 : decode cX7_aside 0 = .ok (.aload_n 0, 1) := by decide +kernel
theorem dX7_aside_1 : decode cX7_aside 1 = .ok (.getfield 15, 3) := by decide +kernel
theorem dX7_aside_4 : decode cX7_aside 4 = .ok (.iload_n 1, 1) := by decide +kernel
theorem dX7_aside_5 : decode cX7_aside 5 = .ok (.iaload, 1) := by decide +kernel
theorem dX7_aside_6 : decode cX7_aside 6 = .ok (.aload_n 0, 1) := by decide +kernel
theorem dX7_aside_7 : decode cX7_aside 7 = .ok (.getfield 18, 3) := by decide +kernel
theorem dX7_aside_10 : decode cX7_aside 10 = .ok (.iload_n 1, 1) := by decide +kernel
theorem dX7_aside_11 : decode cX7_aside 11 = .ok (.iaload, 1) := by decide +kernel
theorem dX7_aside_12 : decode cX7_aside 12 = .ok (.invokestatic 48, 3) := by decide +kernel
theorem dX7_aside_15 : decode cX7_aside 15 = .ok (.ireturn, 1) := by decide +kernel
theorem dX7_goDown_0 : decode cX7_goDown 0 = .ok (.iconst 0, 1) := by decide +kernel
theorem dX7_goDown_1 : decode cX7_goDown 1 = .ok (.istore 4, 2) := by decide +kernel
theorem dX7_goDown_3 : decode cX7_goDown 3 = .ok (.iload 4, 2) := by decide +kernel
theorem dX7_goDown_5 : decode cX7_goDown 5 = .ok (.iconst 4, 1) := by decide +kernel
theorem dX7_goDown_6 : decode cX7_goDown 6 = .ok (.if_icmp .ge 43, 3) := by decide +kernel
theorem dX7_goDown_9 : decode cX7_goDown 9 = .ok (.aload_n 0, 1) := by decide +kernel
theorem dX7_goDown_10 : decode cX7_goDown 10 = .ok (.getfield 9, 3) := by decide +kernel
theorem dX7_goDown_13 : decode cX7_goDown 13 = .ok (.iload 4, 2) := by decide +kernel
theorem dX7_goDown_15 : decode cX7_goDown 15 = .ok (.aload_n 1, 1) := by decide +kernel
theorem dX7_goDown_16 : decode cX7_goDown 16 = .ok (.iload_n 2, 1) := by decide +kernel
theorem dX7_goDown_17 : decode cX7_goDown 17 = .ok (.iload 4, 2) := by decide +kernel
theorem dX7_goDown_19 : decode cX7_goDown 19 = .ok (.iload_n 3, 1) := by decide +kernel
theorem dX7_goDown_20 : decode cX7_goDown 20 = .ok (.aload_n 0, 1) := by decide +kernel
theorem dX7_goDown_21 : decode cX7_goDown 21 = .ok (.getfield 9, 3) := by decide +kernel
theorem dX7_goDown_24 : decode cX7_goDown 24 = .ok (.iload 4, 2) := by decide +kernel
theorem dX7_goDown_26 : decode cX7_goDown 26 = .ok (.iaload, 1) := by decide +kernel
theorem dX7_goDown_27 : decode cX7_goDown 27 = .ok (.aload_n 0, 1) := by decide +kernel
theorem dX7_goDown_28 : decode cX7_goDown 28 = .ok (.iload 4, 2) := by decide +kernel
theorem dX7_goDown_30 : decode cX7_goDown 30 = .ok (.invokevirtual 45, 3) := by decide +kernel
theorem dX7_goDown_33 : decode cX7_goDown 33 = .ok (.bipush 100, 2) := by decide +kernel
theorem dX7_goDown_35 : decode cX7_goDown 35 = .ok (.iadd, 1) := by decide +kernel
theorem dX7_goDown_36 : decode cX7_goDown 36 = .ok (.invokestatic 48, 3) := by decide +kernel
theorem dX7_goDown_39 : decode cX7_goDown 39 = .ok (.invokestatic 54, 3) := by decide +kernel
theorem dX7_goDown_42 : decode cX7_goDown 42 = .ok (.iastore, 1) := by decide +kernel
theorem dX7_goDown_43 : decode cX7_goDown 43 = .ok (.iinc 4 1, 3) := by decide +kernel
theorem dX7_goDown_46 : decode cX7_goDown 46 = .ok (.goto (-43), 3) := by decide +kernel
theorem dX7_goDown_49 : decode cX7_goDown 49 = .ok (.return_, 1) := by decide +kernel
theorem dX7_goLeft_0 : decode cX7_goLeft 0 = .ok (.aload_n 0, 1) := by decide +kernel
theorem dX7_goLeft_1 : decode cX7_goLeft 1 = .ok (.getfield 15, 3) := by decide +kernel
theorem dX7_goLeft_4 : decode cX7_goLeft 4 = .ok (.iconst 3, 1) := by decide +kernel
theorem dX7_goLeft_5 : decode cX7_goLeft 5 = .ok (.ldc 27, 2) := by decide +kernel
theorem dX7_goLeft_7 : decode cX7_goLeft 7 = .ok (.iastore, 1) := by decide +kernel
theorem dX7_goLeft_8 : decode cX7_goLeft 8 = .ok (.iconst 2, 1) := by decide +kernel
theorem dX7_goLeft_9 : decode cX7_goLeft 9 = .ok (.istore 4, 2) := by decide +kernel
theorem dX7_goLeft_11 : decode cX7_goLeft 11 = .ok (.iload 4, 2) := by decide +kernel
theorem dX7_goLeft_13 : decode cX7_goLeft 13 = .ok (.ifCond .lt 48, 3) := by decide +kernel
theorem dX7_goLeft_16 : decode cX7_goLeft 16 = .ok (.aload_n 0, 1) := by decide +kernel
theorem dX7_goLeft_17 : decode cX7_goLeft 17 = .ok (.getfield 15, 3) := by decide +kernel
theorem dX7_goLeft_20 : decode cX7_goLeft 20 = .ok (.iload 4, 2) := by decide +kernel
theorem dX7_goLeft_22 : decode cX7_goLeft 22 = .ok (.aload_n 1, 1) := by decide +kernel
theorem dX7_goLeft_23 : decode cX7_goLeft 23 = .ok (.iload_n 2, 1) := by decide +kernel
theorem dX7_goLeft_24 : decode cX7_goLeft 24 = .ok (.iload 4, 2) := by decide +kernel
theorem dX7_goLeft_26 : decode cX7_goLeft 26 = .ok (.iload_n 3, 1) := by decide +kernel
theorem dX7_goLeft_27 : decode cX7_goLeft 27 = .ok (.aload_n 0, 1) := by decide +kernel
theorem dX7_goLeft_28 : decode cX7_goLeft 28 = .ok (.getfield 9, 3) := by decide +kernel
theorem dX7_goLeft_31 : decode cX7_goLeft 31 = .ok (.iload 4, 2) := by decide +kernel
theorem dX7_goLeft_33 : decode cX7_goLeft 33 = .ok (.iconst 1, 1) := by decide +kernel
theorem dX7_goLeft_34 : decode cX7_goLeft 34 = .ok (.iadd, 1) := by decide +kernel
theorem dX7_goLeft_35 : decode cX7_goLeft 35 = .ok (.iaload, 1) := by decide +kernel
theorem dX7_goLeft_36 : decode cX7_goLeft 36 = .ok (.bipush 100, 2) := by decide +kernel
theorem dX7_goLeft_38 : decode cX7_goLeft 38 = .ok (.iadd, 1) := by decide +kernel
theorem dX7_goLeft_39 : decode cX7_goLeft 39 = .ok (.aload_n 0, 1) := by decide +kernel
theorem dX7_goLeft_40 : decode cX7_goLeft 40 = .ok (.getfield 15, 3) := by decide +kernel
theorem dX7_goLeft_43 : decode cX7_goLeft 43 = .ok (.iload 4, 2) := by decide +kernel
theorem dX7_goLeft_45 : decode cX7_goLeft 45 = .ok (.iconst 1, 1) := by decide +kernel
theorem dX7_goLeft_46 : decode cX7_goLeft 46 = .ok (.iadd, 1) := by decide +kernel
theorem dX7_goLeft_47 : decode cX7_goLeft 47 = .ok (.iaload, 1) := by decide +kernel
theorem dX7_goLeft_48 : decode cX7_goLeft 48 = .ok (.invokestatic 48, 3) := by decide +kernel
theorem dX7_goLeft_51 : decode cX7_goLeft 51 = .ok (.invokestatic 54, 3) := by decide +kernel
theorem dX7_goLeft_54 : decode cX7_goLeft 54 = .ok (.iastore, 1) := by decide +kernel
theorem dX7_goLeft_55 : decode cX7_goLeft 55 = .ok (.iinc 4 (-1), 3) := by decide +kernel
theorem dX7_goLeft_58 : decode cX7_goLeft 58 = .ok (.goto (-47), 3) := by decide +kernel
theorem dX7_goLeft_61 : decode cX7_goLeft 61 = .ok (.return_, 1) := by decide +kernel
theorem dX7_goRight_0 : decode cX7_goRight 0 = .ok (.aload_n 0, 1) := by decide +kernel
theorem dX7_goRight_1 : decode cX7_goRight 1 = .ok (.getfield 18, 3) := by decide +kernel
theorem dX7_goRight_4 : decode cX7_goRight 4 = .ok (.iconst 0, 1) := by decide +kernel
theorem dX7_goRight_5 : decode cX7_goRight 5 = .ok (.ldc 27, 2) := by decide +kernel
theorem dX7_goRight_7 : decode cX7_goRight 7 = .ok (.iastore, 1) := by decide +kernel
theorem dX7_goRight_8 : decode cX7_goRight 8 = .ok (.iconst 1, 1) := by decide +kernel
theorem dX7_goRight_9 : decode cX7_goRight 9 = .ok (.istore 4, 2) := by decide +kernel
theorem dX7_goRight_11 : decode cX7_goRight 11 = .ok (.iload 4, 2) := by decide +kernel
theorem dX7_goRight_13 : decode cX7_goRight 13 = .ok (.iconst 4, 1) := by decide +kernel
theorem dX7_goRight_14 : decode cX7_goRight 14 = .ok (.if_icmp .ge 48, 3) := by decide +kernel
theorem dX7_goRight_17 : decode cX7_goRight 17 = .ok (.aload_n 0, 1) := by decide +kernel
theorem dX7_goRight_18 : decode cX7_goRight 18 = .ok (.getfield 18, 3) := by decide +kernel
theorem dX7_goRight_21 : decode cX7_goRight 21 = .ok (.iload 4, 2) := by decide +kernel
theorem dX7_goRight_23 : decode cX7_goRight 23 = .ok (.aload_n 1, 1) := by decide +kernel
theorem dX7_goRight_24 : decode cX7_goRight 24 = .ok (.iload_n 2, 1) := by decide +kernel
theorem dX7_goRight_25 : decode cX7_goRight 25 = .ok (.iload 4, 2) := by decide +kernel
theorem dX7_goRight_27 : decode cX7_goRight 27 = .ok (.iload_n 3, 1) := by decide +kernel
theorem dX7_goRight_28 : decode cX7_goRight 28 = .ok (.aload_n 0, 1) := by decide +kernel
theorem dX7_goRight_29 : decode cX7_goRight 29 = .ok (.getfield 9, 3) := by decide +kernel
theorem dX7_goRight_32 : decode cX7_goRight 32 = .ok (.iload 4, 2) := by decide +kernel
theorem dX7_goRight_34 : decode cX7_goRight 34 = .ok (.iconst 1, 1) := by decide +kernel
theorem dX7_goRight_35 : decode cX7_goRight 35 = .ok (.isub, 1) := by decide +kernel
theorem dX7_goRight_36 : decode cX7_goRight 36 = .ok (.iaload, 1) := by decide +kernel
theorem dX7_goRight_37 : decode cX7_goRight 37 = .ok (.bipush 100, 2) := by decide +kernel
theorem dX7_goRight_39 : decode cX7_goRight 39 = .ok (.iadd, 1) := by decide +kernel
theorem dX7_goRight_40 : decode cX7_goRight 40 = .ok (.aload_n 0, 1) := by decide +kernel
theorem dX7_goRight_41 : decode cX7_goRight 41 = .ok (.getfield 18, 3) := by decide +kernel
theorem dX7_goRight_44 : decode cX7_goRight 44 = .ok (.iload 4, 2) := by decide +kernel
theorem dX7_goRight_46 : decode cX7_goRight 46 = .ok (.iconst 1, 1) := by decide +kernel
theorem dX7_goRight_47 : decode cX7_goRight 47 = .ok (.isub, 1) := by decide +kernel
theorem dX7_goRight_48 : decode cX7_goRight 48 = .ok (.iaload, 1) := by decide +kernel
theorem dX7_goRight_49 : decode cX7_goRight 49 = .ok (.invokestatic 48, 3) := by decide +kernel
theorem dX7_goRight_52 : decode cX7_goRight 52 = .ok (.invokestatic 54, 3) := by decide +kernel
theorem dX7_goRight_55 : decode cX7_goRight 55 = .ok (.iastore, 1) := by decide +kernel
theorem dX7_goRight_56 : decode cX7_goRight 56 = .ok (.iinc 4 1, 3) := by decide +kernel
theorem dX7_goRight_59 : decode cX7_goRight 59 = .ok (.goto (-48), 3) := by decide +kernel
theorem dX7_goRight_62 : decode cX7_goRight 62 = .ok (.return_, 1) := by decide +kernel
theorem dX7_costAt_0 : decode cX7_costAt 0 = .ok (.aload_n 0, 1) := by decide +kernel
theorem dX7_costAt_1 : decode cX7_costAt 1 = .ok (.getfield 58, 3) := by decide +kernel
theorem dX7_costAt_4 : decode cX7_costAt 4 = .ok (.iload_n 1, 1) := by decide +kernel
theorem dX7_costAt_5 : decode cX7_costAt 5 = .ok (.iconst 4, 1) := by decide +kernel
theorem dX7_costAt_6 : decode cX7_costAt 6 = .ok (.imul, 1) := by decide +kernel
theorem dX7_costAt_7 : decode cX7_costAt 7 = .ok (.iload_n 2, 1) := by decide +kernel
theorem dX7_costAt_8 : decode cX7_costAt 8 = .ok (.iadd, 1) := by decide +kernel
theorem dX7_costAt_9 : decode cX7_costAt 9 = .ok (.iaload, 1) := by decide +kernel
theorem dX7_costAt_10 : decode cX7_costAt 10 = .ok (.iload_n 3, 1) := by decide +kernel
theorem dX7_costAt_11 : decode cX7_costAt 11 = .ok (.if_icmp .le 7, 3) := by decide +kernel
theorem dX7_costAt_14 : decode cX7_costAt 14 = .ok (.iconst 1, 1) := by decide +kernel
theorem dX7_costAt_15 : decode cX7_costAt 15 = .ok (.goto 4, 3) := by decide +kernel
theorem dX7_costAt_18 : decode cX7_costAt 18 = .ok (.iconst 0, 1) := by decide +kernel
theorem dX7_costAt_19 : decode cX7_costAt 19 = .ok (.istore 5, 2) := by decide +kernel
theorem dX7_costAt_21 : decode cX7_costAt 21 = .ok (.iload 5, 2) := by decide +kernel
theorem dX7_costAt_23 : decode cX7_costAt 23 = .ok (.ifCond .eq 8, 3) := by decide +kernel
theorem dX7_costAt_26 : decode cX7_costAt 26 = .ok (.ldc 27, 2) := by decide +kernel
theorem dX7_costAt_28 : decode cX7_costAt 28 = .ok (.goto 12, 3) := by decide +kernel
theorem dX7_costAt_31 : decode cX7_costAt 31 = .ok (.ldc 27, 2) := by decide +kernel
theorem dX7_costAt_33 : decode cX7_costAt 33 = .ok (.iload 4, 2) := by decide +kernel
theorem dX7_costAt_35 : decode cX7_costAt 35 = .ok (.iconst 1, 1) := by decide +kernel
theorem dX7_costAt_36 : decode cX7_costAt 36 = .ok (.iadd, 1) := by decide +kernel
theorem dX7_costAt_37 : decode cX7_costAt 37 = .ok (.invokestatic 48, 3) := by decide +kernel
theorem dX7_costAt_40 : decode cX7_costAt 40 = .ok (.ireturn, 1) := by decide +kernel
theorem dX8_init_0 : decode cX8_init 0 = .ok (.aload_n 0, 1) := by decide +kernel
theorem dX8_init_1 : decode cX8_init 1 = .ok (.invokespecial 3, 3) := by decide +kernel
theorem dX8_init_4 : decode cX8_init 4 = .ok (.aload_n 0, 1) := by decide +kernel
theorem dX8_init_5 : decode cX8_init 5 = .ok (.bipush 24, 2) := by decide +kernel
theorem dX8_init_7 : decode cX8_init 7 = .ok (.newarray .int, 2) := by decide +kernel
theorem dX8_init_9 : decode cX8_init 9 = .ok (.putfield 9, 3) := by decide +kernel
theorem dX8_init_12 : decode cX8_init 12 = .ok (.aload_n 0, 1) := by decide +kernel
theorem dX8_init_13 : decode cX8_init 13 = .ok (.bipush 24, 2) := by decide +kernel
theorem dX8_init_15 : decode cX8_init 15 = .ok (.newarray .int, 2) := by decide +kernel
theorem dX8_init_17 : decode cX8_init 17 = .ok (.putfield 15, 3) := by decide +kernel
theorem dX8_init_20 : decode cX8_init 20 = .ok (.aload_n 0, 1) := by decide +kernel
theorem dX8_init_21 : decode cX8_init 21 = .ok (.getfield 15, 3) := by decide +kernel
theorem dX8_init_24 : decode cX8_init 24 = .ok (.iconst 1, 1) := by decide +kernel
theorem dX8_init_25 : decode cX8_init 25 = .ok (.invokestatic 18, 3) := by decide +kernel
theorem dX8_init_28 : decode cX8_init 28 = .ok (.aload_n 0, 1) := by decide +kernel
theorem dX8_init_29 : decode cX8_init 29 = .ok (.bipush 24, 2) := by decide +kernel
theorem dX8_init_31 : decode cX8_init 31 = .ok (.newarray .int, 2) := by decide +kernel
theorem dX8_init_33 : decode cX8_init 33 = .ok (.putfield 24, 3) := by decide +kernel
theorem dX8_init_36 : decode cX8_init 36 = .ok (.aload_n 0, 1) := by decide +kernel
theorem dX8_init_37 : decode cX8_init 37 = .ok (.sipush 576, 3) := by decide +kernel
theorem dX8_init_40 : decode cX8_init 40 = .ok (.newarray .int, 2) := by decide +kernel
theorem dX8_init_42 : decode cX8_init 42 = .ok (.putfield 27, 3) := by decide +kernel
theorem dX8_init_45 : decode cX8_init 45 = .ok (.aload_n 0, 1) := by decide +kernel
theorem dX8_init_46 : decode cX8_init 46 = .ok (.bipush 24, 2) := by decide +kernel
theorem dX8_init_48 : decode cX8_init 48 = .ok (.newarray .int, 2) := by decide +kernel
theorem dX8_init_50 : decode cX8_init 50 = .ok (.putfield 30, 3) := by decide +kernel
theorem dX8_init_53 : decode cX8_init 53 = .ok (.aload_n 0, 1) := by decide +kernel
theorem dX8_init_54 : decode cX8_init 54 = .ok (.ldc 33, 2) := by decide +kernel
theorem dX8_init_56 : decode cX8_init 56 = .ok (.putfield 34, 3) := by decide +kernel
theorem dX8_init_59 : decode cX8_init 59 = .ok (.aload_n 0, 1) := by decide +kernel
theorem dX8_init_60 : decode cX8_init 60 = .ok (.iconst 1, 1) := by decide +kernel
theorem dX8_init_61 : decode cX8_init 61 = .ok (.putfield 38, 3) := by decide +kernel
theorem dX8_init_64 : decode cX8_init 64 = .ok (.return_, 1) := by decide +kernel
theorem dX8_copyFrom_0 : decode cX8_copyFrom 0 = .ok (.aload_n 1, 1) := by decide +kernel
theorem dX8_copyFrom_1 : decode cX8_copyFrom 1 = .ok (.getfield 9, 3) := by decide +kernel
theorem dX8_copyFrom_4 : decode cX8_copyFrom 4 = .ok (.iconst 0, 1) := by decide +kernel
theorem dX8_copyFrom_5 : decode cX8_copyFrom 5 = .ok (.aload_n 0, 1) := by decide +kernel
theorem dX8_copyFrom_6 : decode cX8_copyFrom 6 = .ok (.getfield 9, 3) := by decide +kernel
theorem dX8_copyFrom_9 : decode cX8_copyFrom 9 = .ok (.iconst 0, 1) := by decide +kernel
theorem dX8_copyFrom_10 : decode cX8_copyFrom 10 = .ok (.bipush 24, 2) := by decide +kernel
theorem dX8_copyFrom_12 : decode cX8_copyFrom 12 = .ok (.invokestatic 41, 3) := by decide +kernel
theorem dX8_copyFrom_15 : decode cX8_copyFrom 15 = .ok (.aload_n 1, 1) := by decide +kernel
theorem dX8_copyFrom_16 : decode cX8_copyFrom 16 = .ok (.getfield 15, 3) := by decide +kernel
theorem dX8_copyFrom_19 : decode cX8_copyFrom 19 = .ok (.iconst 0, 1) := by decide +kernel
theorem dX8_copyFrom_20 : decode cX8_copyFrom 20 = .ok (.aload_n 0, 1) := by decide +kernel
theorem dX8_copyFrom_21 : decode cX8_copyFrom 21 = .ok (.getfield 15, 3) := by decide +kernel
theorem dX8_copyFrom_24 : decode cX8_copyFrom 24 = .ok (.iconst 0, 1) := by decide +kernel
theorem dX8_copyFrom_25 : decode cX8_copyFrom 25 = .ok (.bipush 24, 2) := by decide +kernel
theorem dX8_copyFrom_27 : decode cX8_copyFrom 27 = .ok (.invokestatic 41, 3) := by decide +kernel
theorem dX8_copyFrom_30 : decode cX8_copyFrom 30 = .ok (.aload_n 1, 1) := by decide +kernel
theorem dX8_copyFrom_31 : decode cX8_copyFrom 31 = .ok (.getfield 24, 3) := by decide +kernel
theorem dX8_copyFrom_34 : decode cX8_copyFrom 34 = .ok (.iconst 0, 1) := by decide +kernel
theorem dX8_copyFrom_35 : decode cX8_copyFrom 35 = .ok (.aload_n 0, 1) := by decide +kernel
theorem dX8_copyFrom_36 : decode cX8_copyFrom 36 = .ok (.getfield 24, 3) := by decide +kernel
theorem dX8_copyFrom_39 : decode cX8_copyFrom 39 = .ok (.iconst 0, 1) := by decide +kernel
theorem dX8_copyFrom_40 : decode cX8_copyFrom 40 = .ok (.bipush 24, 2) := by decide +kernel
theorem dX8_copyFrom_42 : decode cX8_copyFrom 42 = .ok (.invokestatic 41, 3) := by decide +kernel
theorem dX8_copyFrom_45 : decode cX8_copyFrom 45 = .ok (.aload_n 1, 1) := by decide +kernel
theorem dX8_copyFrom_46 : decode cX8_copyFrom 46 = .ok (.getfield 27, 3) := by decide +kernel
theorem dX8_copyFrom_49 : decode cX8_copyFrom 49 = .ok (.iconst 0, 1) := by decide +kernel
theorem dX8_copyFrom_50 : decode cX8_copyFrom 50 = .ok (.aload_n 0, 1) := by decide +kernel
theorem dX8_copyFrom_51 : decode cX8_copyFrom 51 = .ok (.getfield 27, 3) := by decide +kernel
theorem dX8_copyFrom_54 : decode cX8_copyFrom 54 = .ok (.iconst 0, 1) := by decide +kernel
theorem dX8_copyFrom_55 : decode cX8_copyFrom 55 = .ok (.sipush 576, 3) := by decide +kernel
theorem dX8_copyFrom_58 : decode cX8_copyFrom 58 = .ok (.invokestatic 41, 3) := by decide +kernel
theorem dX8_copyFrom_61 : decode cX8_copyFrom 61 = .ok (.aload_n 1, 1) := by decide +kernel
theorem dX8_copyFrom_62 : decode cX8_copyFrom 62 = .ok (.getfield 30, 3) := by decide +kernel
theorem dX8_copyFrom_65 : decode cX8_copyFrom 65 = .ok (.iconst 0, 1) := by decide +kernel
theorem dX8_copyFrom_66 : decode cX8_copyFrom 66 = .ok (.aload_n 0, 1) := by decide +kernel
theorem dX8_copyFrom_67 : decode cX8_copyFrom 67 = .ok (.getfield 30, 3) := by decide +kernel
theorem dX8_copyFrom_70 : decode cX8_copyFrom 70 = .ok (.iconst 0, 1) := by decide +kernel
theorem dX8_copyFrom_71 : decode cX8_copyFrom 71 = .ok (.bipush 24, 2) := by decide +kernel
theorem dX8_copyFrom_73 : decode cX8_copyFrom 73 = .ok (.invokestatic 41, 3) := by decide +kernel
theorem dX8_copyFrom_76 : decode cX8_copyFrom 76 = .ok (.aload_n 0, 1) := by decide +kernel
theorem dX8_copyFrom_77 : decode cX8_copyFrom 77 = .ok (.aload_n 1, 1) := by decide +kernel
theorem dX8_copyFrom_78 : decode cX8_copyFrom 78 = .ok (.getfield 47, 3) := by decide +kernel
theorem dX8_copyFrom_81 : decode cX8_copyFrom 81 = .ok (.putfield 47, 3) := by decide +kernel
theorem dX8_copyFrom_84 : decode cX8_copyFrom 84 = .ok (.aload_n 0, 1) := by decide +kernel
theorem dX8_copyFrom_85 : decode cX8_copyFrom 85 = .ok (.aload_n 1, 1) := by decide +kernel
theorem dX8_copyFrom_86 : decode cX8_copyFrom 86 = .ok (.getfield 34, 3) := by decide +kernel
theorem dX8_copyFrom_89 : decode cX8_copyFrom 89 = .ok (.putfield 34, 3) := by decide +kernel
theorem dX8_copyFrom_92 : decode cX8_copyFrom 92 = .ok (.aload_n 0, 1) := by decide +kernel
theorem dX8_copyFrom_93 : decode cX8_copyFrom 93 = .ok (.aload_n 1, 1) := by decide +kernel
theorem dX8_copyFrom_94 : decode cX8_copyFrom 94 = .ok (.getfield 50, 3) := by decide +kernel
theorem dX8_copyFrom_97 : decode cX8_copyFrom 97 = .ok (.putfield 50, 3) := by decide +kernel
theorem dX8_copyFrom_100 : decode cX8_copyFrom 100 = .ok (.aload_n 0, 1) := by decide +kernel
theorem dX8_copyFrom_101 : decode cX8_copyFrom 101 = .ok (.aload_n 1, 1) := by decide +kernel
theorem dX8_copyFrom_102 : decode cX8_copyFrom 102 = .ok (.getfield 53, 3) := by decide +kernel
theorem dX8_copyFrom_105 : decode cX8_copyFrom 105 = .ok (.putfield 53, 3) := by decide +kernel
theorem dX8_copyFrom_108 : decode cX8_copyFrom 108 = .ok (.aload_n 0, 1) := by decide +kernel
theorem dX8_copyFrom_109 : decode cX8_copyFrom 109 = .ok (.aload_n 1, 1) := by decide +kernel
theorem dX8_copyFrom_110 : decode cX8_copyFrom 110 = .ok (.getfield 38, 3) := by decide +kernel
theorem dX8_copyFrom_113 : decode cX8_copyFrom 113 = .ok (.putfield 38, 3) := by decide +kernel
theorem dX8_copyFrom_116 : decode cX8_copyFrom 116 = .ok (.return_, 1) := by decide +kernel
theorem dX8_hasGuest_0 : decode cX8_hasGuest 0 = .ok (.iload_n 1, 1) := by decide +kernel
theorem dX8_hasGuest_1 : decode cX8_hasGuest 1 = .ok (.invokestatic 56, 3) := by decide +kernel
theorem dX8_hasGuest_4 : decode cX8_hasGuest 4 = .ok (.ifCond .eq 19, 3) := by decide +kernel
theorem dX8_hasGuest_7 : decode cX8_hasGuest 7 = .ok (.aload_n 0, 1) := by decide +kernel
theorem dX8_hasGuest_8 : decode cX8_hasGuest 8 = .ok (.getfield 47, 3) := by decide +kernel
theorem dX8_hasGuest_11 : decode cX8_hasGuest 11 = .ok (.iload_n 1, 1) := by decide +kernel
theorem dX8_hasGuest_12 : decode cX8_hasGuest 12 = .ok (.ishr, 1) := by decide +kernel
theorem dX8_hasGuest_13 : decode cX8_hasGuest 13 = .ok (.iconst 1, 1) := by decide +kernel
theorem dX8_hasGuest_14 : decode cX8_hasGuest 14 = .ok (.iand, 1) := by decide +kernel
theorem dX8_hasGuest_15 : decode cX8_hasGuest 15 = .ok (.iconst 1, 1) := by decide +kernel
theorem dX8_hasGuest_16 : decode cX8_hasGuest 16 = .ok (.if_icmp .ne 7, 3) := by decide +kernel
theorem dX8_hasGuest_19 : decode cX8_hasGuest 19 = .ok (.iconst 1, 1) := by decide +kernel
theorem dX8_hasGuest_20 : decode cX8_hasGuest 20 = .ok (.goto 4, 3) := by decide +kernel
theorem dX8_hasGuest_23 : decode cX8_hasGuest 23 = .ok (.iconst 0, 1) := by decide +kernel
theorem dX8_hasGuest_24 : decode cX8_hasGuest 24 = .ok (.ireturn, 1) := by decide +kernel
theorem dX8_isOpen_0 : decode cX8_isOpen 0 = .ok (.iload_n 1, 1) := by decide +kernel
theorem dX8_isOpen_1 : decode cX8_isOpen 1 = .ok (.invokestatic 56, 3) := by decide +kernel
theorem dX8_isOpen_4 : decode cX8_isOpen 4 = .ok (.ifCond .eq 19, 3) := by decide +kernel
theorem dX8_isOpen_7 : decode cX8_isOpen 7 = .ok (.aload_n 0, 1) := by decide +kernel
theorem dX8_isOpen_8 : decode cX8_isOpen 8 = .ok (.getfield 34, 3) := by decide +kernel
theorem dX8_isOpen_11 : decode cX8_isOpen 11 = .ok (.iload_n 1, 1) := by decide +kernel
theorem dX8_isOpen_12 : decode cX8_isOpen 12 = .ok (.ishr, 1) := by decide +kernel
theorem dX8_isOpen_13 : decode cX8_isOpen 13 = .ok (.iconst 1, 1) := by decide +kernel
theorem dX8_isOpen_14 : decode cX8_isOpen 14 = .ok (.iand, 1) := by decide +kernel
theorem dX8_isOpen_15 : decode cX8_isOpen 15 = .ok (.iconst 1, 1) := by decide +kernel
theorem dX8_isOpen_16 : decode cX8_isOpen 16 = .ok (.if_icmp .ne 7, 3) := by decide +kernel
theorem dX8_isOpen_19 : decode cX8_isOpen 19 = .ok (.iconst 1, 1) := by decide +kernel
theorem dX8_isOpen_20 : decode cX8_isOpen 20 = .ok (.goto 4, 3) := by decide +kernel
theorem dX8_isOpen_23 : decode cX8_isOpen 23 = .ok (.iconst 0, 1) := by decide +kernel
theorem dX8_isOpen_24 : decode cX8_isOpen 24 = .ok (.ireturn, 1) := by decide +kernel
theorem dX8_takesPart_0 : decode cX8_takesPart 0 = .ok (.iload_n 1, 1) := by decide +kernel
theorem dX8_takesPart_1 : decode cX8_takesPart 1 = .ok (.invokestatic 56, 3) := by decide +kernel
theorem dX8_takesPart_4 : decode cX8_takesPart 4 = .ok (.ifCond .eq 23, 3) := by decide +kernel
theorem dX8_takesPart_7 : decode cX8_takesPart 7 = .ok (.aload_n 0, 1) := by decide +kernel
theorem dX8_takesPart_8 : decode cX8_takesPart 8 = .ok (.getfield 47, 3) := by decide +kernel
theorem dX8_takesPart_11 : decode cX8_takesPart 11 = .ok (.aload_n 0, 1) := by decide +kernel
theorem dX8_takesPart_12 : decode cX8_takesPart 12 = .ok (.getfield 34, 3) := by decide +kernel
theorem dX8_takesPart_15 : decode cX8_takesPart 15 = .ok (.iand, 1) := by decide +kernel
theorem dX8_takesPart_16 : decode cX8_takesPart 16 = .ok (.iconst 1, 1) := by decide +kernel
theorem dX8_takesPart_17 : decode cX8_takesPart 17 = .ok (.iload_n 1, 1) := by decide +kernel
theorem dX8_takesPart_18 : decode cX8_takesPart 18 = .ok (.ishl, 1) := by decide +kernel
theorem dX8_takesPart_19 : decode cX8_takesPart 19 = .ok (.iand, 1) := by decide +kernel
theorem dX8_takesPart_20 : decode cX8_takesPart 20 = .ok (.ifCond .eq 7, 3) := by decide +kernel
theorem dX8_takesPart_23 : decode cX8_takesPart 23 = .ok (.iconst 1, 1) := by decide +kernel
theorem dX8_takesPart_24 : decode cX8_takesPart 24 = .ok (.goto 4, 3) := by decide +kernel
theorem dX8_takesPart_27 : decode cX8_takesPart 27 = .ok (.iconst 0, 1) := by decide +kernel
theorem dX8_takesPart_28 : decode cX8_takesPart 28 = .ok (.ireturn, 1) := by decide +kernel
theorem dX8_feelsOf_0 : decode cX8_feelsOf 0 = .ok (.iload_n 1, 1) := by decide +kernel
theorem dX8_feelsOf_1 : decode cX8_feelsOf 1 = .ok (.invokestatic 56, 3) := by decide +kernel
theorem dX8_feelsOf_4 : decode cX8_feelsOf 4 = .ok (.ifCond .eq 24, 3) := by decide +kernel
theorem dX8_feelsOf_7 : decode cX8_feelsOf 7 = .ok (.iload_n 2, 1) := by decide +kernel
theorem dX8_feelsOf_8 : decode cX8_feelsOf 8 = .ok (.invokestatic 56, 3) := by decide +kernel
theorem dX8_feelsOf_11 : decode cX8_feelsOf 11 = .ok (.ifCond .eq 17, 3) := by decide +kernel
theorem dX8_feelsOf_14 : decode cX8_feelsOf 14 = .ok (.aload_n 0, 1) := by decide +kernel
theorem dX8_feelsOf_15 : decode cX8_feelsOf 15 = .ok (.getfield 27, 3) := by decide +kernel
theorem dX8_feelsOf_18 : decode cX8_feelsOf 18 = .ok (.iload_n 1, 1) := by decide +kernel
theorem dX8_feelsOf_19 : decode cX8_feelsOf 19 = .ok (.bipush 24, 2) := by decide +kernel
theorem dX8_feelsOf_21 : decode cX8_feelsOf 21 = .ok (.imul, 1) := by decide +kernel
theorem dX8_feelsOf_22 : decode cX8_feelsOf 22 = .ok (.iload_n 2, 1) := by decide +kernel
theorem dX8_feelsOf_23 : decode cX8_feelsOf 23 = .ok (.iadd, 1) := by decide +kernel
theorem dX8_feelsOf_24 : decode cX8_feelsOf 24 = .ok (.iaload, 1) := by decide +kernel
theorem dX8_feelsOf_25 : decode cX8_feelsOf 25 = .ok (.goto 4, 3) := by decide +kernel
theorem dX8_feelsOf_28 : decode cX8_feelsOf 28 = .ok (.iconst 0, 1) := by decide +kernel
theorem dX8_feelsOf_29 : decode cX8_feelsOf 29 = .ok (.ireturn, 1) := by decide +kernel
theorem dX8_mostFeltBy_0 : decode cX8_mostFeltBy 0 = .ok (.iconst 0, 1) := by decide +kernel
theorem dX8_mostFeltBy_1 : decode cX8_mostFeltBy 1 = .ok (.istore_n 2, 1) := by decide +kernel
theorem dX8_mostFeltBy_2 : decode cX8_mostFeltBy 2 = .ok (.iconst 1, 1) := by decide +kernel
theorem dX8_mostFeltBy_3 : decode cX8_mostFeltBy 3 = .ok (.istore_n 3, 1) := by decide +kernel
theorem dX8_mostFeltBy_4 : decode cX8_mostFeltBy 4 = .ok (.iload_n 3, 1) := by decide +kernel
theorem dX8_mostFeltBy_5 : decode cX8_mostFeltBy 5 = .ok (.bipush 24, 2) := by decide +kernel
theorem dX8_mostFeltBy_7 : decode cX8_mostFeltBy 7 = .ok (.if_icmp .ge 26, 3) := by decide +kernel
theorem dX8_mostFeltBy_10 : decode cX8_mostFeltBy 10 = .ok (.aload_n 0, 1) := by decide +kernel
theorem dX8_mostFeltBy_11 : decode cX8_mostFeltBy 11 = .ok (.iload_n 1, 1) := by decide +kernel
theorem dX8_mostFeltBy_12 : decode cX8_mostFeltBy 12 = .ok (.iload_n 3, 1) := by decide +kernel
theorem dX8_mostFeltBy_13 : decode cX8_mostFeltBy 13 = .ok (.invokevirtual 60, 3) := by decide +kernel
theorem dX8_mostFeltBy_16 : decode cX8_mostFeltBy 16 = .ok (.aload_n 0, 1) := by decide +kernel
theorem dX8_mostFeltBy_17 : decode cX8_mostFeltBy 17 = .ok (.iload_n 1, 1) := by decide +kernel
theorem dX8_mostFeltBy_18 : decode cX8_mostFeltBy 18 = .ok (.iload_n 2, 1) := by decide +kernel
theorem dX8_mostFeltBy_19 : decode cX8_mostFeltBy 19 = .ok (.invokevirtual 60, 3) := by decide +kernel
theorem dX8_mostFeltBy_22 : decode cX8_mostFeltBy 22 = .ok (.if_icmp .le 5, 3) := by decide +kernel
theorem dX8_mostFeltBy_25 : decode cX8_mostFeltBy 25 = .ok (.iload_n 3, 1) := by decide +kernel
theorem dX8_mostFeltBy_26 : decode cX8_mostFeltBy 26 = .ok (.istore_n 2, 1) := by decide +kernel
theorem dX8_mostFeltBy_27 : decode cX8_mostFeltBy 27 = .ok (.iinc 3 1, 3) := by decide +kernel
theorem dX8_mostFeltBy_30 : decode cX8_mostFeltBy 30 = .ok (.goto (-26), 3) := by decide +kernel
theorem dX8_mostFeltBy_33 : decode cX8_mostFeltBy 33 = .ok (.iload_n 2, 1) := by decide +kernel
theorem dX8_mostFeltBy_34 : decode cX8_mostFeltBy 34 = .ok (.ireturn, 1) := by decide +kernel
theorem dX8_takeIn_0 : decode cX8_takeIn 0 = .ok (.iload_n 1, 1) := by decide +kernel
theorem dX8_takeIn_1 : decode cX8_takeIn 1 = .ok (.invokestatic 56, 3) := by decide +kernel
theorem dX8_takeIn_4 : decode cX8_takeIn 4 = .ok (.ifCond .eq 27, 3) := by decide +kernel
theorem dX8_takeIn_7 : decode cX8_takeIn 7 = .ok (.aload_n 0, 1) := by decide +kernel
theorem dX8_takeIn_8 : decode cX8_takeIn 8 = .ok (.dup, 1) := by decide +kernel
theorem dX8_takeIn_9 : decode cX8_takeIn 9 = .ok (.getfield 47, 3) := by decide +kernel
theorem dX8_takeIn_12 : decode cX8_takeIn 12 = .ok (.iconst 1, 1) := by decide +kernel
theorem dX8_takeIn_13 : decode cX8_takeIn 13 = .ok (.iload_n 1, 1) := by decide +kernel
theorem dX8_takeIn_14 : decode cX8_takeIn 14 = .ok (.ishl, 1) := by decide +kernel
theorem dX8_takeIn_15 : decode cX8_takeIn 15 = .ok (.ior, 1) := by decide +kernel
theorem dX8_takeIn_16 : decode cX8_takeIn 16 = .ok (.putfield 47, 3) := by decide +kernel
theorem dX8_takeIn_19 : decode cX8_takeIn 19 = .ok (.aload_n 0, 1) := by decide +kernel
theorem dX8_takeIn_20 : decode cX8_takeIn 20 = .ok (.getfield 9, 3) := by decide +kernel
theorem dX8_takeIn_23 : decode cX8_takeIn 23 = .ok (.iload_n 1, 1) := by decide +kernel
theorem dX8_takeIn_24 : decode cX8_takeIn 24 = .ok (.iload_n 2, 1) := by decide +kernel
theorem dX8_takeIn_25 : decode cX8_takeIn 25 = .ok (.iastore, 1) := by decide +kernel
theorem dX8_takeIn_26 : decode cX8_takeIn 26 = .ok (.aload_n 0, 1) := by decide +kernel
theorem dX8_takeIn_27 : decode cX8_takeIn 27 = .ok (.iload_n 1, 1) := by decide +kernel
theorem dX8_takeIn_28 : decode cX8_takeIn 28 = .ok (.invokevirtual 64, 3) := by decide +kernel
theorem dX8_takeIn_31 : decode cX8_takeIn 31 = .ok (.return_, 1) := by decide +kernel
theorem dX8_sendAway_0 : decode cX8_sendAway 0 = .ok (.iload_n 1, 1) := by decide +kernel
theorem dX8_sendAway_1 : decode cX8_sendAway 1 = .ok (.invokestatic 56, 3) := by decide +kernel
theorem dX8_sendAway_4 : decode cX8_sendAway 4 = .ok (.ifCond .eq 29, 3) := by decide +kernel
theorem dX8_sendAway_7 : decode cX8_sendAway 7 = .ok (.aload_n 0, 1) := by decide +kernel
theorem dX8_sendAway_8 : decode cX8_sendAway 8 = .ok (.dup, 1) := by decide +kernel
theorem dX8_sendAway_9 : decode cX8_sendAway 9 = .ok (.getfield 47, 3) := by decide +kernel
theorem dX8_sendAway_12 : decode cX8_sendAway 12 = .ok (.iconst 1, 1) := by decide +kernel
theorem dX8_sendAway_13 : decode cX8_sendAway 13 = .ok (.iload_n 1, 1) := by decide +kernel
theorem dX8_sendAway_14 : decode cX8_sendAway 14 = .ok (.ishl, 1) := by decide +kernel
theorem dX8_sendAway_15 : decode cX8_sendAway 15 = .ok (.iconst (-1), 1) := by decide +kernel
theorem dX8_sendAway_16 : decode cX8_sendAway 16 = .ok (.ixor, 1) := by decide +kernel
theorem dX8_sendAway_17 : decode cX8_sendAway 17 = .ok (.iand, 1) := by decide +kernel
theorem dX8_sendAway_18 : decode cX8_sendAway 18 = .ok (.putfield 47, 3) := by decide +kernel
theorem dX8_sendAway_21 : decode cX8_sendAway 21 = .ok (.aload_n 0, 1) := by decide +kernel
theorem dX8_sendAway_22 : decode cX8_sendAway 22 = .ok (.getfield 9, 3) := by decide +kernel
theorem dX8_sendAway_25 : decode cX8_sendAway 25 = .ok (.iload_n 1, 1) := by decide +kernel
theorem dX8_sendAway_26 : decode cX8_sendAway 26 = .ok (.iconst 0, 1) := by decide +kernel
theorem dX8_sendAway_27 : decode cX8_sendAway 27 = .ok (.iastore, 1) := by decide +kernel
theorem dX8_sendAway_28 : decode cX8_sendAway 28 = .ok (.aload_n 0, 1) := by decide +kernel
theorem dX8_sendAway_29 : decode cX8_sendAway 29 = .ok (.iload_n 1, 1) := by decide +kernel
theorem dX8_sendAway_30 : decode cX8_sendAway 30 = .ok (.invokevirtual 64, 3) := by decide +kernel
theorem dX8_sendAway_33 : decode cX8_sendAway 33 = .ok (.return_, 1) := by decide +kernel
theorem dX8_setGrille_0 : decode cX8_setGrille 0 = .ok (.iload_n 1, 1) := by decide +kernel
theorem dX8_setGrille_1 : decode cX8_setGrille 1 = .ok (.invokestatic 56, 3) := by decide +kernel
theorem dX8_setGrille_4 : decode cX8_setGrille 4 = .ok (.ifCond .eq 32, 3) := by decide +kernel
theorem dX8_setGrille_7 : decode cX8_setGrille 7 = .ok (.aload_n 0, 1) := by decide +kernel
theorem dX8_setGrille_8 : decode cX8_setGrille 8 = .ok (.iload_n 2, 1) := by decide +kernel
theorem dX8_setGrille_9 : decode cX8_setGrille 9 = .ok (.ifCond .eq 14, 3) := by decide +kernel
theorem dX8_setGrille_12 : decode cX8_setGrille 12 = .ok (.aload_n 0, 1) := by decide +kernel
theorem dX8_setGrille_13 : decode cX8_setGrille 13 = .ok (.getfield 34, 3) := by decide +kernel
theorem dX8_setGrille_16 : decode cX8_setGrille 16 = .ok (.iconst 1, 1) := by decide +kernel
theorem dX8_setGrille_17 : decode cX8_setGrille 17 = .ok (.iload_n 1, 1) := by decide +kernel
theorem dX8_setGrille_18 : decode cX8_setGrille 18 = .ok (.ishl, 1) := by decide +kernel
theorem dX8_setGrille_19 : decode cX8_setGrille 19 = .ok (.ior, 1) := by decide +kernel
theorem dX8_setGrille_20 : decode cX8_setGrille 20 = .ok (.goto 13, 3) := by decide +kernel
theorem dX8_setGrille_23 : decode cX8_setGrille 23 = .ok (.aload_n 0, 1) := by decide +kernel
theorem dX8_setGrille_24 : decode cX8_setGrille 24 = .ok (.getfield 34, 3) := by decide +kernel
theorem dX8_setGrille_27 : decode cX8_setGrille 27 = .ok (.iconst 1, 1) := by decide +kernel
theorem dX8_setGrille_28 : decode cX8_setGrille 28 = .ok (.iload_n 1, 1) := by decide +kernel
theorem dX8_setGrille_29 : decode cX8_setGrille 29 = .ok (.ishl, 1) := by decide +kernel
theorem dX8_setGrille_30 : decode cX8_setGrille 30 = .ok (.iconst (-1), 1) := by decide +kernel
theorem dX8_setGrille_31 : decode cX8_setGrille 31 = .ok (.ixor, 1) := by decide +kernel
theorem dX8_setGrille_32 : decode cX8_setGrille 32 = .ok (.iand, 1) := by decide +kernel
theorem dX8_setGrille_33 : decode cX8_setGrille 33 = .ok (.putfield 34, 3) := by decide +kernel
theorem dX8_setGrille_36 : decode cX8_setGrille 36 = .ok (.return_, 1) := by decide +kernel
theorem dX8_setLouvre_0 : decode cX8_setLouvre 0 = .ok (.iload_n 1, 1) := by decide +kernel
theorem dX8_setLouvre_1 : decode cX8_setLouvre 1 = .ok (.invokestatic 56, 3) := by decide +kernel
theorem dX8_setLouvre_4 : decode cX8_setLouvre 4 = .ok (.ifCond .eq 10, 3) := by decide +kernel
theorem dX8_setLouvre_7 : decode cX8_setLouvre 7 = .ok (.aload_n 0, 1) := by decide +kernel
theorem dX8_setLouvre_8 : decode cX8_setLouvre 8 = .ok (.getfield 15, 3) := by decide +kernel
theorem dX8_setLouvre_11 : decode cX8_setLouvre 11 = .ok (.iload_n 1, 1) := by decide +kernel
theorem dX8_setLouvre_12 : decode cX8_setLouvre 12 = .ok (.iload_n 2, 1) := by decide +kernel
theorem dX8_setLouvre_13 : decode cX8_setLouvre 13 = .ok (.iastore, 1) := by decide +kernel
theorem dX8_setLouvre_14 : decode cX8_setLouvre 14 = .ok (.return_, 1) := by decide +kernel
theorem dX8_exchange_0 : decode cX8_exchange 0 = .ok (.iload_n 1, 1) := by decide +kernel
theorem dX8_exchange_1 : decode cX8_exchange 1 = .ok (.invokestatic 56, 3) := by decide +kernel
theorem dX8_exchange_4 : decode cX8_exchange 4 = .ok (.ifCond .eq 10, 3) := by decide +kernel
theorem dX8_exchange_7 : decode cX8_exchange 7 = .ok (.iload_n 2, 1) := by decide +kernel
theorem dX8_exchange_8 : decode cX8_exchange 8 = .ok (.invokestatic 56, 3) := by decide +kernel
theorem dX8_exchange_11 : decode cX8_exchange 11 = .ok (.ifCond .ne 4, 3) := by decide +kernel
theorem dX8_exchange_14 : decode cX8_exchange 14 = .ok (.return_, 1) := by decide +kernel
theorem dX8_exchange_15 : decode cX8_exchange 15 = .ok (.aload_n 0, 1) := by decide +kernel
theorem dX8_exchange_16 : decode cX8_exchange 16 = .ok (.iload_n 1, 1) := by decide +kernel
theorem dX8_exchange_17 : decode cX8_exchange 17 = .ok (.invokevirtual 68, 3) := by decide +kernel
theorem dX8_exchange_20 : decode cX8_exchange 20 = .ok (.aload_n 0, 1) := by decide +kernel
theorem dX8_exchange_21 : decode cX8_exchange 21 = .ok (.iload_n 2, 1) := by decide +kernel
theorem dX8_exchange_22 : decode cX8_exchange 22 = .ok (.invokevirtual 68, 3) := by decide +kernel
theorem dX8_exchange_25 : decode cX8_exchange 25 = .ok (.if_icmp .eq 19, 3) := by decide +kernel
theorem dX8_exchange_28 : decode cX8_exchange 28 = .ok (.aload_n 0, 1) := by decide +kernel
theorem dX8_exchange_29 : decode cX8_exchange 29 = .ok (.dup, 1) := by decide +kernel
theorem dX8_exchange_30 : decode cX8_exchange 30 = .ok (.getfield 47, 3) := by decide +kernel
theorem dX8_exchange_33 : decode cX8_exchange 33 = .ok (.iconst 1, 1) := by decide +kernel
theorem dX8_exchange_34 : decode cX8_exchange 34 = .ok (.iload_n 1, 1) := by decide +kernel
theorem dX8_exchange_35 : decode cX8_exchange 35 = .ok (.ishl, 1) := by decide +kernel
theorem dX8_exchange_36 : decode cX8_exchange 36 = .ok (.iconst 1, 1) := by decide +kernel
theorem dX8_exchange_37 : decode cX8_exchange 37 = .ok (.iload_n 2, 1) := by decide +kernel
theorem dX8_exchange_38 : decode cX8_exchange 38 = .ok (.ishl, 1) := by decide +kernel
theorem dX8_exchange_39 : decode cX8_exchange 39 = .ok (.ior, 1) := by decide +kernel
theorem dX8_exchange_40 : decode cX8_exchange 40 = .ok (.ixor, 1) := by decide +kernel
theorem dX8_exchange_41 : decode cX8_exchange 41 = .ok (.putfield 47, 3) := by decide +kernel
theorem dX8_exchange_44 : decode cX8_exchange 44 = .ok (.aload_n 0, 1) := by decide +kernel
theorem dX8_exchange_45 : decode cX8_exchange 45 = .ok (.getfield 9, 3) := by decide +kernel
theorem dX8_exchange_48 : decode cX8_exchange 48 = .ok (.iload_n 1, 1) := by decide +kernel
theorem dX8_exchange_49 : decode cX8_exchange 49 = .ok (.iload_n 2, 1) := by decide +kernel
theorem dX8_exchange_50 : decode cX8_exchange 50 = .ok (.invokestatic 71, 3) := by decide +kernel
theorem dX8_exchange_53 : decode cX8_exchange 53 = .ok (.aload_n 0, 1) := by decide +kernel
theorem dX8_exchange_54 : decode cX8_exchange 54 = .ok (.getfield 30, 3) := by decide +kernel
theorem dX8_exchange_57 : decode cX8_exchange 57 = .ok (.iload_n 1, 1) := by decide +kernel
theorem dX8_exchange_58 : decode cX8_exchange 58 = .ok (.iload_n 2, 1) := by decide +kernel
theorem dX8_exchange_59 : decode cX8_exchange 59 = .ok (.invokestatic 71, 3) := by decide +kernel
theorem dX8_exchange_62 : decode cX8_exchange 62 = .ok (.iconst 0, 1) := by decide +kernel
theorem dX8_exchange_63 : decode cX8_exchange 63 = .ok (.istore_n 3, 1) := by decide +kernel
theorem dX8_exchange_64 : decode cX8_exchange 64 = .ok (.iload_n 3, 1) := by decide +kernel
theorem dX8_exchange_65 : decode cX8_exchange 65 = .ok (.bipush 24, 2) := by decide +kernel
theorem dX8_exchange_67 : decode cX8_exchange 67 = .ok (.if_icmp .ge 28, 3) := by decide +kernel
theorem dX8_exchange_70 : decode cX8_exchange 70 = .ok (.aload_n 0, 1) := by decide +kernel
theorem dX8_exchange_71 : decode cX8_exchange 71 = .ok (.getfield 27, 3) := by decide +kernel
theorem dX8_exchange_74 : decode cX8_exchange 74 = .ok (.iload_n 1, 1) := by decide +kernel
theorem dX8_exchange_75 : decode cX8_exchange 75 = .ok (.bipush 24, 2) := by decide +kernel
theorem dX8_exchange_77 : decode cX8_exchange 77 = .ok (.imul, 1) := by decide +kernel
theorem dX8_exchange_78 : decode cX8_exchange 78 = .ok (.iload_n 3, 1) := by decide +kernel
theorem dX8_exchange_79 : decode cX8_exchange 79 = .ok (.iadd, 1) := by decide +kernel
theorem dX8_exchange_80 : decode cX8_exchange 80 = .ok (.iload_n 2, 1) := by decide +kernel
theorem dX8_exchange_81 : decode cX8_exchange 81 = .ok (.bipush 24, 2) := by decide +kernel
theorem dX8_exchange_83 : decode cX8_exchange 83 = .ok (.imul, 1) := by decide +kernel
theorem dX8_exchange_84 : decode cX8_exchange 84 = .ok (.iload_n 3, 1) := by decide +kernel
theorem dX8_exchange_85 : decode cX8_exchange 85 = .ok (.iadd, 1) := by decide +kernel
theorem dX8_exchange_86 : decode cX8_exchange 86 = .ok (.invokestatic 71, 3) := by decide +kernel
theorem dX8_exchange_89 : decode cX8_exchange 89 = .ok (.iinc 3 1, 3) := by decide +kernel
theorem dX8_exchange_92 : decode cX8_exchange 92 = .ok (.goto (-28), 3) := by decide +kernel
theorem dX8_exchange_95 : decode cX8_exchange 95 = .ok (.return_, 1) := by decide +kernel
theorem dX8_addGrease_0 : decode cX8_addGrease 0 = .ok (.iload_n 1, 1) := by decide +kernel
theorem dX8_addGrease_1 : decode cX8_addGrease 1 = .ok (.invokestatic 56, 3) := by decide +kernel
theorem dX8_addGrease_4 : decode cX8_addGrease 4 = .ok (.ifCond .eq 22, 3) := by decide +kernel
theorem dX8_addGrease_7 : decode cX8_addGrease 7 = .ok (.aload_n 0, 1) := by decide +kernel
theorem dX8_addGrease_8 : decode cX8_addGrease 8 = .ok (.getfield 24, 3) := by decide +kernel
theorem dX8_addGrease_11 : decode cX8_addGrease 11 = .ok (.iload_n 1, 1) := by decide +kernel
theorem dX8_addGrease_12 : decode cX8_addGrease 12 = .ok (.ldc 75, 2) := by decide +kernel
theorem dX8_addGrease_14 : decode cX8_addGrease 14 = .ok (.aload_n 0, 1) := by decide +kernel
theorem dX8_addGrease_15 : decode cX8_addGrease 15 = .ok (.getfield 24, 3) := by decide +kernel
theorem dX8_addGrease_18 : decode cX8_addGrease 18 = .ok (.iload_n 1, 1) := by decide +kernel
theorem dX8_addGrease_19 : decode cX8_addGrease 19 = .ok (.iaload, 1) := by decide +kernel
theorem dX8_addGrease_20 : decode cX8_addGrease 20 = .ok (.iload_n 2, 1) := by decide +kernel
theorem dX8_addGrease_21 : decode cX8_addGrease 21 = .ok (.iadd, 1) := by decide +kernel
theorem dX8_addGrease_22 : decode cX8_addGrease 22 = .ok (.invokestatic 76, 3) := by decide +kernel
theorem dX8_addGrease_25 : decode cX8_addGrease 25 = .ok (.iastore, 1) := by decide +kernel
theorem dX8_addGrease_26 : decode cX8_addGrease 26 = .ok (.return_, 1) := by decide +kernel
theorem dX8_addFelt_0 : decode cX8_addFelt 0 = .ok (.iload_n 1, 1) := by decide +kernel
theorem dX8_addFelt_1 : decode cX8_addFelt 1 = .ok (.invokestatic 56, 3) := by decide +kernel
theorem dX8_addFelt_4 : decode cX8_addFelt 4 = .ok (.ifCond .eq 61, 3) := by decide +kernel
theorem dX8_addFelt_7 : decode cX8_addFelt 7 = .ok (.iload_n 2, 1) := by decide +kernel
theorem dX8_addFelt_8 : decode cX8_addFelt 8 = .ok (.invokestatic 56, 3) := by decide +kernel
theorem dX8_addFelt_11 : decode cX8_addFelt 11 = .ok (.ifCond .eq 54, 3) := by decide +kernel
theorem dX8_addFelt_14 : decode cX8_addFelt 14 = .ok (.aload_n 0, 1) := by decide +kernel
theorem dX8_addFelt_15 : decode cX8_addFelt 15 = .ok (.getfield 27, 3) := by decide +kernel
theorem dX8_addFelt_18 : decode cX8_addFelt 18 = .ok (.iload_n 1, 1) := by decide +kernel
theorem dX8_addFelt_19 : decode cX8_addFelt 19 = .ok (.bipush 24, 2) := by decide +kernel
theorem dX8_addFelt_21 : decode cX8_addFelt 21 = .ok (.imul, 1) := by decide +kernel
theorem dX8_addFelt_22 : decode cX8_addFelt 22 = .ok (.iload_n 2, 1) := by decide +kernel
theorem dX8_addFelt_23 : decode cX8_addFelt 23 = .ok (.iadd, 1) := by decide +kernel
theorem dX8_addFelt_24 : decode cX8_addFelt 24 = .ok (.iaload, 1) := by decide +kernel
theorem dX8_addFelt_25 : decode cX8_addFelt 25 = .ok (.istore 4, 2) := by decide +kernel
theorem dX8_addFelt_27 : decode cX8_addFelt 27 = .ok (.ldc 75, 2) := by decide +kernel
theorem dX8_addFelt_29 : decode cX8_addFelt 29 = .ok (.iload 4, 2) := by decide +kernel
theorem dX8_addFelt_31 : decode cX8_addFelt 31 = .ok (.iload_n 3, 1) := by decide +kernel
theorem dX8_addFelt_32 : decode cX8_addFelt 32 = .ok (.iadd, 1) := by decide +kernel
theorem dX8_addFelt_33 : decode cX8_addFelt 33 = .ok (.invokestatic 76, 3) := by decide +kernel
theorem dX8_addFelt_36 : decode cX8_addFelt 36 = .ok (.istore 5, 2) := by decide +kernel
theorem dX8_addFelt_38 : decode cX8_addFelt 38 = .ok (.aload_n 0, 1) := by decide +kernel
theorem dX8_addFelt_39 : decode cX8_addFelt 39 = .ok (.getfield 27, 3) := by decide +kernel
theorem dX8_addFelt_42 : decode cX8_addFelt 42 = .ok (.iload_n 1, 1) := by decide +kernel
theorem dX8_addFelt_43 : decode cX8_addFelt 43 = .ok (.bipush 24, 2) := by decide +kernel
theorem dX8_addFelt_45 : decode cX8_addFelt 45 = .ok (.imul, 1) := by decide +kernel
theorem dX8_addFelt_46 : decode cX8_addFelt 46 = .ok (.iload_n 2, 1) := by decide +kernel
theorem dX8_addFelt_47 : decode cX8_addFelt 47 = .ok (.iadd, 1) := by decide +kernel
theorem dX8_addFelt_48 : decode cX8_addFelt 48 = .ok (.iload 5, 2) := by decide +kernel
theorem dX8_addFelt_50 : decode cX8_addFelt 50 = .ok (.iastore, 1) := by decide +kernel
theorem dX8_addFelt_51 : decode cX8_addFelt 51 = .ok (.aload_n 0, 1) := by decide +kernel
theorem dX8_addFelt_52 : decode cX8_addFelt 52 = .ok (.getfield 30, 3) := by decide +kernel
theorem dX8_addFelt_55 : decode cX8_addFelt 55 = .ok (.iload_n 1, 1) := by decide +kernel
theorem dX8_addFelt_56 : decode cX8_addFelt 56 = .ok (.dup2, 1) := by decide +kernel
end
section
theorem dX8_addFelt_57 : decode cX8_addFelt 57 = .ok (.iaload, 1) := by decide +kernel
theorem dX8_addFelt_58 : decode cX8_addFelt 58 = .ok (.iload 5, 2) := by decide +kernel
theorem dX8_addFelt_60 : decode cX8_addFelt 60 = .ok (.iload 4, 2) := by decide +kernel
theorem dX8_addFelt_62 : decode cX8_addFelt 62 = .ok (.isub, 1) := by decide +kernel
theorem dX8_addFelt_63 : decode cX8_addFelt 63 = .ok (.iadd, 1) := by decide +kernel
theorem dX8_addFelt_64 : decode cX8_addFelt 64 = .ok (.iastore, 1) := by decide +kernel
theorem dX8_addFelt_65 : decode cX8_addFelt 65 = .ok (.return_, 1) := by decide +kernel
theorem dX8_draw_0 : decode cX8_draw 0 = .ok (.aload_n 0, 1) := by decide +kernel
theorem dX8_draw_1 : decode cX8_draw 1 = .ok (.sipush 25173, 3) := by decide +kernel
theorem dX8_draw_4 : decode cX8_draw 4 = .ok (.aload_n 0, 1) := by decide +kernel
theorem dX8_draw_5 : decode cX8_draw 5 = .ok (.getfield 38, 3) := by decide +kernel
theorem dX8_draw_8 : decode cX8_draw 8 = .ok (.imul, 1) := by decide +kernel
theorem dX8_draw_9 : decode cX8_draw 9 = .ok (.sipush 13849, 3) := by decide +kernel
theorem dX8_draw_12 : decode cX8_draw 12 = .ok (.iadd, 1) := by decide +kernel
theorem dX8_draw_13 : decode cX8_draw 13 = .ok (.ldc 81, 2) := by decide +kernel
theorem dX8_draw_15 : decode cX8_draw 15 = .ok (.iand, 1) := by decide +kernel
theorem dX8_draw_16 : decode cX8_draw 16 = .ok (.putfield 38, 3) := by decide +kernel
theorem dX8_draw_19 : decode cX8_draw 19 = .ok (.aload_n 0, 1) := by decide +kernel
theorem dX8_draw_20 : decode cX8_draw 20 = .ok (.getfield 38, 3) := by decide +kernel
theorem dX8_draw_23 : decode cX8_draw 23 = .ok (.bipush 10, 2) := by decide +kernel
theorem dX8_draw_25 : decode cX8_draw 25 = .ok (.irem, 1) := by decide +kernel
theorem dX8_draw_26 : decode cX8_draw 26 = .ok (.ireturn, 1) := by decide +kernel
theorem dX8_above_0 : decode cX8_above 0 = .ok (.iload_n 1, 1) := by decide +kernel
theorem dX8_above_1 : decode cX8_above 1 = .ok (.invokestatic 56, 3) := by decide +kernel
theorem dX8_above_4 : decode cX8_above 4 = .ok (.ifCond .eq 11, 3) := by decide +kernel
theorem dX8_above_7 : decode cX8_above 7 = .ok (.iload_n 1, 1) := by decide +kernel
theorem dX8_above_8 : decode cX8_above 8 = .ok (.invokestatic 82, 3) := by decide +kernel
theorem dX8_above_11 : decode cX8_above 11 = .ok (.iconst 5, 1) := by decide +kernel
theorem dX8_above_12 : decode cX8_above 12 = .ok (.if_icmp .ne 6, 3) := by decide +kernel
theorem dX8_above_15 : decode cX8_above 15 = .ok (.bipush 24, 2) := by decide +kernel
theorem dX8_above_17 : decode cX8_above 17 = .ok (.ireturn, 1) := by decide +kernel
theorem dX8_above_18 : decode cX8_above 18 = .ok (.iload_n 1, 1) := by decide +kernel
theorem dX8_above_19 : decode cX8_above 19 = .ok (.invokestatic 82, 3) := by decide +kernel
theorem dX8_above_22 : decode cX8_above 22 = .ok (.iconst 1, 1) := by decide +kernel
theorem dX8_above_23 : decode cX8_above 23 = .ok (.iadd, 1) := by decide +kernel
theorem dX8_above_24 : decode cX8_above 24 = .ok (.iconst 4, 1) := by decide +kernel
theorem dX8_above_25 : decode cX8_above 25 = .ok (.imul, 1) := by decide +kernel
theorem dX8_above_26 : decode cX8_above 26 = .ok (.iload_n 1, 1) := by decide +kernel
theorem dX8_above_27 : decode cX8_above 27 = .ok (.invokestatic 86, 3) := by decide +kernel
theorem dX8_above_30 : decode cX8_above 30 = .ok (.aload_n 0, 1) := by decide +kernel
theorem dX8_above_31 : decode cX8_above 31 = .ok (.getfield 15, 3) := by decide +kernel
theorem dX8_above_34 : decode cX8_above 34 = .ok (.iload_n 1, 1) := by decide +kernel
theorem dX8_above_35 : decode cX8_above 35 = .ok (.iaload, 1) := by decide +kernel
theorem dX8_above_36 : decode cX8_above 36 = .ok (.invokestatic 89, 3) := by decide +kernel
theorem dX8_above_39 : decode cX8_above 39 = .ok (.iadd, 1) := by decide +kernel
theorem dX8_above_40 : decode cX8_above 40 = .ok (.ireturn, 1) := by decide +kernel
theorem dX8_riseTo_0 : decode cX8_riseTo 0 = .ok (.iload_n 1, 1) := by decide +kernel
theorem dX8_riseTo_1 : decode cX8_riseTo 1 = .ok (.istore_n 3, 1) := by decide +kernel
theorem dX8_riseTo_2 : decode cX8_riseTo 2 = .ok (.iload_n 1, 1) := by decide +kernel
theorem dX8_riseTo_3 : decode cX8_riseTo 3 = .ok (.invokestatic 82, 3) := by decide +kernel
theorem dX8_riseTo_6 : decode cX8_riseTo 6 = .ok (.istore 4, 2) := by decide +kernel
theorem dX8_riseTo_8 : decode cX8_riseTo 8 = .ok (.iload 4, 2) := by decide +kernel
theorem dX8_riseTo_10 : decode cX8_riseTo 10 = .ok (.iload_n 2, 1) := by decide +kernel
theorem dX8_riseTo_11 : decode cX8_riseTo 11 = .ok (.if_icmp .ge 21, 3) := by decide +kernel
theorem dX8_riseTo_14 : decode cX8_riseTo 14 = .ok (.iload 4, 2) := by decide +kernel
theorem dX8_riseTo_16 : decode cX8_riseTo 16 = .ok (.iconst 5, 1) := by decide +kernel
theorem dX8_riseTo_17 : decode cX8_riseTo 17 = .ok (.if_icmp .ge 15, 3) := by decide +kernel
theorem dX8_riseTo_20 : decode cX8_riseTo 20 = .ok (.aload_n 0, 1) := by decide +kernel
theorem dX8_riseTo_21 : decode cX8_riseTo 21 = .ok (.iload_n 3, 1) := by decide +kernel
theorem dX8_riseTo_22 : decode cX8_riseTo 22 = .ok (.invokevirtual 92, 3) := by decide +kernel
theorem dX8_riseTo_25 : decode cX8_riseTo 25 = .ok (.istore_n 3, 1) := by decide +kernel
theorem dX8_riseTo_26 : decode cX8_riseTo 26 = .ok (.iinc 4 1, 3) := by decide +kernel
theorem dX8_riseTo_29 : decode cX8_riseTo 29 = .ok (.goto (-21), 3) := by decide +kernel
theorem dX8_riseTo_32 : decode cX8_riseTo 32 = .ok (.iload_n 3, 1) := by decide +kernel
theorem dX8_riseTo_33 : decode cX8_riseTo 33 = .ok (.ireturn, 1) := by decide +kernel
theorem dX8_forget_0 : decode cX8_forget 0 = .ok (.iconst 0, 1) := by decide +kernel
theorem dX8_forget_1 : decode cX8_forget 1 = .ok (.istore_n 2, 1) := by decide +kernel
theorem dX8_forget_2 : decode cX8_forget 2 = .ok (.iload_n 2, 1) := by decide +kernel
theorem dX8_forget_3 : decode cX8_forget 3 = .ok (.bipush 24, 2) := by decide +kernel
theorem dX8_forget_5 : decode cX8_forget 5 = .ok (.if_icmp .ge 21, 3) := by decide +kernel
theorem dX8_forget_8 : decode cX8_forget 8 = .ok (.aload_n 0, 1) := by decide +kernel
theorem dX8_forget_9 : decode cX8_forget 9 = .ok (.getfield 27, 3) := by decide +kernel
theorem dX8_forget_12 : decode cX8_forget 12 = .ok (.iload_n 1, 1) := by decide +kernel
theorem dX8_forget_13 : decode cX8_forget 13 = .ok (.bipush 24, 2) := by decide +kernel
theorem dX8_forget_15 : decode cX8_forget 15 = .ok (.imul, 1) := by decide +kernel
theorem dX8_forget_16 : decode cX8_forget 16 = .ok (.iload_n 2, 1) := by decide +kernel
theorem dX8_forget_17 : decode cX8_forget 17 = .ok (.iadd, 1) := by decide +kernel
theorem dX8_forget_18 : decode cX8_forget 18 = .ok (.iconst 0, 1) := by decide +kernel
theorem dX8_forget_19 : decode cX8_forget 19 = .ok (.iastore, 1) := by decide +kernel
theorem dX8_forget_20 : decode cX8_forget 20 = .ok (.iinc 2 1, 3) := by decide +kernel
theorem dX8_forget_23 : decode cX8_forget 23 = .ok (.goto (-21), 3) := by decide +kernel
theorem dX8_forget_26 : decode cX8_forget 26 = .ok (.aload_n 0, 1) := by decide +kernel
theorem dX8_forget_27 : decode cX8_forget 27 = .ok (.getfield 30, 3) := by decide +kernel
theorem dX8_forget_30 : decode cX8_forget 30 = .ok (.iload_n 1, 1) := by decide +kernel
theorem dX8_forget_31 : decode cX8_forget 31 = .ok (.iconst 0, 1) := by decide +kernel
theorem dX8_forget_32 : decode cX8_forget 32 = .ok (.iastore, 1) := by decide +kernel
theorem dX8_forget_33 : decode cX8_forget 33 = .ok (.return_, 1) := by decide +kernel
theorem dX8_swap_0 : decode cX8_swap 0 = .ok (.aload_n 0, 1) := by decide +kernel
theorem dX8_swap_1 : decode cX8_swap 1 = .ok (.iload_n 1, 1) := by decide +kernel
theorem dX8_swap_2 : decode cX8_swap 2 = .ok (.iaload, 1) := by decide +kernel
theorem dX8_swap_3 : decode cX8_swap 3 = .ok (.istore_n 3, 1) := by decide +kernel
theorem dX8_swap_4 : decode cX8_swap 4 = .ok (.aload_n 0, 1) := by decide +kernel
theorem dX8_swap_5 : decode cX8_swap 5 = .ok (.iload_n 1, 1) := by decide +kernel
theorem dX8_swap_6 : decode cX8_swap 6 = .ok (.aload_n 0, 1) := by decide +kernel
theorem dX8_swap_7 : decode cX8_swap 7 = .ok (.iload_n 2, 1) := by decide +kernel
theorem dX8_swap_8 : decode cX8_swap 8 = .ok (.iaload, 1) := by decide +kernel
theorem dX8_swap_9 : decode cX8_swap 9 = .ok (.iastore, 1) := by decide +kernel
theorem dX8_swap_10 : decode cX8_swap 10 = .ok (.aload_n 0, 1) := by decide +kernel
theorem dX8_swap_11 : decode cX8_swap 11 = .ok (.iload_n 2, 1) := by decide +kernel
theorem dX8_swap_12 : decode cX8_swap 12 = .ok (.iload_n 3, 1) := by decide +kernel
theorem dX8_swap_13 : decode cX8_swap 13 = .ok (.iastore, 1) := by decide +kernel
theorem dX8_swap_14 : decode cX8_swap 14 = .ok (.return_, 1) := by decide +kernel
theorem dX9_read_0 : decode cX9_read 0 = .ok (.iconst 0, 1) := by decide +kernel
theorem dX9_read_1 : decode cX9_read 1 = .ok (.istore_n 2, 1) := by decide +kernel
theorem dX9_read_2 : decode cX9_read 2 = .ok (.bipush (-4), 2) := by decide +kernel
theorem dX9_read_4 : decode cX9_read 4 = .ok (.istore_n 3, 1) := by decide +kernel
theorem dX9_read_5 : decode cX9_read 5 = .ok (.iconst 0, 1) := by decide +kernel
theorem dX9_read_6 : decode cX9_read 6 = .ok (.istore 4, 2) := by decide +kernel
theorem dX9_read_8 : decode cX9_read 8 = .ok (.iload 4, 2) := by decide +kernel
theorem dX9_read_10 : decode cX9_read 10 = .ok (.bipush 60, 2) := by decide +kernel
theorem dX9_read_12 : decode cX9_read 12 = .ok (.if_icmp .ge 40, 3) := by decide +kernel
theorem dX9_read_15 : decode cX9_read 15 = .ok (.aload_n 0, 1) := by decide +kernel
theorem dX9_read_16 : decode cX9_read 16 = .ok (.invokestatic 9, 3) := by decide +kernel
theorem dX9_read_19 : decode cX9_read 19 = .ok (.istore 5, 2) := by decide +kernel
theorem dX9_read_21 : decode cX9_read 21 = .ok (.iload_n 2, 1) := by decide +kernel
theorem dX9_read_22 : decode cX9_read 22 = .ok (.iload_n 1, 1) := by decide +kernel
theorem dX9_read_23 : decode cX9_read 23 = .ok (.if_icmp .ne 6, 3) := by decide +kernel
theorem dX9_read_26 : decode cX9_read 26 = .ok (.iload 5, 2) := by decide +kernel
theorem dX9_read_28 : decode cX9_read 28 = .ok (.istore_n 3, 1) := by decide +kernel
theorem dX9_read_29 : decode cX9_read 29 = .ok (.iinc 2 1, 3) := by decide +kernel
theorem dX9_read_32 : decode cX9_read 32 = .ok (.aload_n 0, 1) := by decide +kernel
theorem dX9_read_33 : decode cX9_read 33 = .ok (.invokevirtual 15, 3) := by decide +kernel
theorem dX9_read_36 : decode cX9_read 36 = .ok (.ifCond .eq 6, 3) := by decide +kernel
theorem dX9_read_39 : decode cX9_read 39 = .ok (.goto 13, 3) := by decide +kernel
theorem dX9_read_42 : decode cX9_read 42 = .ok (.aload_n 0, 1) := by decide +kernel
theorem dX9_read_43 : decode cX9_read 43 = .ok (.invokestatic 21, 3) := by decide +kernel
theorem dX9_read_46 : decode cX9_read 46 = .ok (.iinc 4 1, 3) := by decide +kernel
theorem dX9_read_49 : decode cX9_read 49 = .ok (.goto (-41), 3) := by decide +kernel
theorem dX9_read_52 : decode cX9_read 52 = .ok (.iload_n 1, 1) := by decide +kernel
theorem dX9_read_53 : decode cX9_read 53 = .ok (.bipush 100, 2) := by decide +kernel
theorem dX9_read_55 : decode cX9_read 55 = .ok (.if_icmp .ne 7, 3) := by decide +kernel
theorem dX9_read_58 : decode cX9_read 58 = .ok (.iload_n 2, 1) := by decide +kernel
theorem dX9_read_59 : decode cX9_read 59 = .ok (.goto 4, 3) := by decide +kernel
theorem dX9_read_62 : decode cX9_read 62 = .ok (.iload_n 3, 1) := by decide +kernel
theorem dX9_read_63 : decode cX9_read 63 = .ok (.ireturn, 1) := by decide +kernel
theorem dX9_lengthOf_0 : decode cX9_lengthOf 0 = .ok (.bipush (-2), 2) := by decide +kernel
theorem dX9_lengthOf_2 : decode cX9_lengthOf 2 = .ok (.istore_n 1, 1) := by decide +kernel
theorem dX9_lengthOf_3 : decode cX9_lengthOf 3 = .ok (.iconst 0, 1) := by decide +kernel
theorem dX9_lengthOf_4 : decode cX9_lengthOf 4 = .ok (.istore_n 2, 1) := by decide +kernel
theorem dX9_lengthOf_5 : decode cX9_lengthOf 5 = .ok (.iload_n 2, 1) := by decide +kernel
theorem dX9_lengthOf_6 : decode cX9_lengthOf 6 = .ok (.bipush 40, 2) := by decide +kernel
theorem dX9_lengthOf_8 : decode cX9_lengthOf 8 = .ok (.if_icmp .ge 60, 3) := by decide +kernel
theorem dX9_lengthOf_11 : decode cX9_lengthOf 11 = .ok (.aload_n 0, 1) := by decide +kernel
theorem dX9_lengthOf_12 : decode cX9_lengthOf 12 = .ok (.invokevirtual 15, 3) := by decide +kernel
theorem dX9_lengthOf_15 : decode cX9_lengthOf 15 = .ok (.ifCond .ne 53, 3) := by decide +kernel
theorem dX9_lengthOf_18 : decode cX9_lengthOf 18 = .ok (.aload_n 0, 1) := by decide +kernel
theorem dX9_lengthOf_19 : decode cX9_lengthOf 19 = .ok (.invokevirtual 25, 3) := by decide +kernel
theorem dX9_lengthOf_22 : decode cX9_lengthOf 22 = .ok (.bipush 65, 2) := by decide +kernel
theorem dX9_lengthOf_24 : decode cX9_lengthOf 24 = .ok (.isub, 1) := by decide +kernel
theorem dX9_lengthOf_25 : decode cX9_lengthOf 25 = .ok (.istore_n 3, 1) := by decide +kernel
theorem dX9_lengthOf_26 : decode cX9_lengthOf 26 = .ok (.iload_n 3, 1) := by decide +kernel
theorem dX9_lengthOf_27 : decode cX9_lengthOf 27 = .ok (.iconst 0, 1) := by decide +kernel
theorem dX9_lengthOf_28 : decode cX9_lengthOf 28 = .ok (.bipush 25, 2) := by decide +kernel
theorem dX9_lengthOf_30 : decode cX9_lengthOf 30 = .ok (.invokestatic 29, 3) := by decide +kernel
theorem dX9_lengthOf_33 : decode cX9_lengthOf 33 = .ok (.ifCond .ne 14, 3) := by decide +kernel
theorem dX9_lengthOf_36 : decode cX9_lengthOf 36 = .ok (.aload_n 0, 1) := by decide +kernel
theorem dX9_lengthOf_37 : decode cX9_lengthOf 37 = .ok (.iconst 1, 1) := by decide +kernel
theorem dX9_lengthOf_38 : decode cX9_lengthOf 38 = .ok (.aload_n 0, 1) := by decide +kernel
theorem dX9_lengthOf_39 : decode cX9_lengthOf 39 = .ok (.getfield 33, 3) := by decide +kernel
theorem dX9_lengthOf_42 : decode cX9_lengthOf 42 = .ok (.invokevirtual 37, 3) := by decide +kernel
theorem dX9_lengthOf_45 : decode cX9_lengthOf 45 = .ok (.iconst (-1), 1) := by decide +kernel
theorem dX9_lengthOf_46 : decode cX9_lengthOf 46 = .ok (.ireturn, 1) := by decide +kernel
theorem dX9_lengthOf_47 : decode cX9_lengthOf 47 = .ok (.aload_n 0, 1) := by decide +kernel
theorem dX9_lengthOf_48 : decode cX9_lengthOf 48 = .ok (.invokevirtual 41, 3) := by decide +kernel
theorem dX9_lengthOf_51 : decode cX9_lengthOf 51 = .ok (.iload_n 1, 1) := by decide +kernel
theorem dX9_lengthOf_52 : decode cX9_lengthOf 52 = .ok (.iconst 2, 1) := by decide +kernel
theorem dX9_lengthOf_53 : decode cX9_lengthOf 53 = .ok (.iload_n 3, 1) := by decide +kernel
theorem dX9_lengthOf_54 : decode cX9_lengthOf 54 = .ok (.invokestatic 44, 3) := by decide +kernel
theorem dX9_lengthOf_57 : decode cX9_lengthOf 57 = .ok (.iadd, 1) := by decide +kernel
theorem dX9_lengthOf_58 : decode cX9_lengthOf 58 = .ok (.iconst 1, 1) := by decide +kernel
theorem dX9_lengthOf_59 : decode cX9_lengthOf 59 = .ok (.iadd, 1) := by decide +kernel
theorem dX9_lengthOf_60 : decode cX9_lengthOf 60 = .ok (.iadd, 1) := by decide +kernel
theorem dX9_lengthOf_61 : decode cX9_lengthOf 61 = .ok (.istore_n 1, 1) := by decide +kernel
theorem dX9_lengthOf_62 : decode cX9_lengthOf 62 = .ok (.iinc 2 1, 3) := by decide +kernel
theorem dX9_lengthOf_65 : decode cX9_lengthOf 65 = .ok (.goto (-60), 3) := by decide +kernel
theorem dX9_lengthOf_68 : decode cX9_lengthOf 68 = .ok (.iload_n 1, 1) := by decide +kernel
theorem dX9_lengthOf_69 : decode cX9_lengthOf 69 = .ok (.ireturn, 1) := by decide +kernel
theorem dX9_tapsOf_0 : decode cX9_tapsOf 0 = .ok (.iload_n 0, 1) := by decide +kernel
theorem dX9_tapsOf_1 : decode cX9_tapsOf 1 = .ok (.bipush 10, 2) := by decide +kernel
theorem dX9_tapsOf_3 : decode cX9_tapsOf 3 = .ok (.if_icmp .ne 7, 3) := by decide +kernel
theorem dX9_tapsOf_6 : decode cX9_tapsOf 6 = .ok (.iconst 2, 1) := by decide +kernel
theorem dX9_tapsOf_7 : decode cX9_tapsOf 7 = .ok (.goto 16, 3) := by decide +kernel
theorem dX9_tapsOf_10 : decode cX9_tapsOf 10 = .ok (.iload_n 0, 1) := by decide +kernel
theorem dX9_tapsOf_11 : decode cX9_tapsOf 11 = .ok (.bipush 10, 2) := by decide +kernel
theorem dX9_tapsOf_13 : decode cX9_tapsOf 13 = .ok (.if_icmp .le 9, 3) := by decide +kernel
theorem dX9_tapsOf_16 : decode cX9_tapsOf 16 = .ok (.iload_n 0, 1) := by decide +kernel
theorem dX9_tapsOf_17 : decode cX9_tapsOf 17 = .ok (.iconst 1, 1) := by decide +kernel
theorem dX9_tapsOf_18 : decode cX9_tapsOf 18 = .ok (.isub, 1) := by decide +kernel
theorem dX9_tapsOf_19 : decode cX9_tapsOf 19 = .ok (.goto 4, 3) := by decide +kernel
theorem dX9_tapsOf_22 : decode cX9_tapsOf 22 = .ok (.iload_n 0, 1) := by decide +kernel
theorem dX9_tapsOf_23 : decode cX9_tapsOf 23 = .ok (.istore_n 1, 1) := by decide +kernel
theorem dX9_tapsOf_24 : decode cX9_tapsOf 24 = .ok (.iload_n 1, 1) := by decide +kernel
theorem dX9_tapsOf_25 : decode cX9_tapsOf 25 = .ok (.iconst 5, 1) := by decide +kernel
theorem dX9_tapsOf_26 : decode cX9_tapsOf 26 = .ok (.idiv, 1) := by decide +kernel
theorem dX9_tapsOf_27 : decode cX9_tapsOf 27 = .ok (.iconst 1, 1) := by decide +kernel
theorem dX9_tapsOf_28 : decode cX9_tapsOf 28 = .ok (.iadd, 1) := by decide +kernel
theorem dX9_tapsOf_29 : decode cX9_tapsOf 29 = .ok (.iload_n 1, 1) := by decide +kernel
theorem dX9_tapsOf_30 : decode cX9_tapsOf 30 = .ok (.iconst 5, 1) := by decide +kernel
theorem dX9_tapsOf_31 : decode cX9_tapsOf 31 = .ok (.irem, 1) := by decide +kernel
theorem dX9_tapsOf_32 : decode cX9_tapsOf 32 = .ok (.iadd, 1) := by decide +kernel
theorem dX9_tapsOf_33 : decode cX9_tapsOf 33 = .ok (.iconst 1, 1) := by decide +kernel
theorem dX9_tapsOf_34 : decode cX9_tapsOf 34 = .ok (.iadd, 1) := by decide +kernel
theorem dX9_tapsOf_35 : decode cX9_tapsOf 35 = .ok (.ireturn, 1) := by decide +kernel
theorem dX9_readLetter_0 : decode cX9_readLetter 0 = .ok (.aload_n 0, 1) := by decide +kernel
theorem dX9_readLetter_1 : decode cX9_readLetter 1 = .ok (.invokestatic 48, 3) := by decide +kernel
theorem dX9_readLetter_4 : decode cX9_readLetter 4 = .ok (.istore_n 1, 1) := by decide +kernel
theorem dX9_readLetter_5 : decode cX9_readLetter 5 = .ok (.aload_n 0, 1) := by decide +kernel
theorem dX9_readLetter_6 : decode cX9_readLetter 6 = .ok (.bipush 46, 2) := by decide +kernel
theorem dX9_readLetter_8 : decode cX9_readLetter 8 = .ok (.invokevirtual 51, 3) := by decide +kernel
theorem dX9_readLetter_11 : decode cX9_readLetter 11 = .ok (.aload_n 0, 1) := by decide +kernel
theorem dX9_readLetter_12 : decode cX9_readLetter 12 = .ok (.invokestatic 48, 3) := by decide +kernel
theorem dX9_readLetter_15 : decode cX9_readLetter 15 = .ok (.istore_n 2, 1) := by decide +kernel
theorem dX9_readLetter_16 : decode cX9_readLetter 16 = .ok (.iload_n 1, 1) := by decide +kernel
theorem dX9_readLetter_17 : decode cX9_readLetter 17 = .ok (.iconst 1, 1) := by decide +kernel
theorem dX9_readLetter_18 : decode cX9_readLetter 18 = .ok (.isub, 1) := by decide +kernel
theorem dX9_readLetter_19 : decode cX9_readLetter 19 = .ok (.iconst 5, 1) := by decide +kernel
theorem dX9_readLetter_20 : decode cX9_readLetter 20 = .ok (.imul, 1) := by decide +kernel
theorem dX9_readLetter_21 : decode cX9_readLetter 21 = .ok (.iload_n 2, 1) := by decide +kernel
theorem dX9_readLetter_22 : decode cX9_readLetter 22 = .ok (.iadd, 1) := by decide +kernel
theorem dX9_readLetter_23 : decode cX9_readLetter 23 = .ok (.iconst 1, 1) := by decide +kernel
theorem dX9_readLetter_24 : decode cX9_readLetter 24 = .ok (.isub, 1) := by decide +kernel
theorem dX9_readLetter_25 : decode cX9_readLetter 25 = .ok (.istore_n 3, 1) := by decide +kernel
theorem dX9_readLetter_26 : decode cX9_readLetter 26 = .ok (.iload_n 3, 1) := by decide +kernel
theorem dX9_readLetter_27 : decode cX9_readLetter 27 = .ok (.bipush 10, 2) := by decide +kernel
theorem dX9_readLetter_29 : decode cX9_readLetter 29 = .ok (.if_icmp .lt 9, 3) := by decide +kernel
theorem dX9_readLetter_32 : decode cX9_readLetter 32 = .ok (.iload_n 3, 1) := by decide +kernel
theorem dX9_readLetter_33 : decode cX9_readLetter 33 = .ok (.iconst 1, 1) := by decide +kernel
theorem dX9_readLetter_34 : decode cX9_readLetter 34 = .ok (.iadd, 1) := by decide +kernel
theorem dX9_readLetter_35 : decode cX9_readLetter 35 = .ok (.goto 4, 3) := by decide +kernel
theorem dX9_readLetter_38 : decode cX9_readLetter 38 = .ok (.iload_n 3, 1) := by decide +kernel
theorem dX9_readLetter_39 : decode cX9_readLetter 39 = .ok (.ireturn, 1) := by decide +kernel
theorem dX9_readTaps_0 : decode cX9_readTaps 0 = .ok (.iconst 0, 1) := by decide +kernel
theorem dX9_readTaps_1 : decode cX9_readTaps 1 = .ok (.istore_n 1, 1) := by decide +kernel
theorem dX9_readTaps_2 : decode cX9_readTaps 2 = .ok (.iconst 0, 1) := by decide +kernel
theorem dX9_readTaps_3 : decode cX9_readTaps 3 = .ok (.istore_n 2, 1) := by decide +kernel
theorem dX9_readTaps_4 : decode cX9_readTaps 4 = .ok (.iload_n 2, 1) := by decide +kernel
theorem dX9_readTaps_5 : decode cX9_readTaps 5 = .ok (.iconst 5, 1) := by decide +kernel
theorem dX9_readTaps_6 : decode cX9_readTaps 6 = .ok (.if_icmp .ge 25, 3) := by decide +kernel
theorem dX9_readTaps_9 : decode cX9_readTaps 9 = .ok (.aload_n 0, 1) := by decide +kernel
theorem dX9_readTaps_10 : decode cX9_readTaps 10 = .ok (.invokevirtual 25, 3) := by decide +kernel
theorem dX9_readTaps_13 : decode cX9_readTaps 13 = .ok (.bipush 120, 2) := by decide +kernel
theorem dX9_readTaps_15 : decode cX9_readTaps 15 = .ok (.if_icmp .ne 16, 3) := by decide +kernel
theorem dX9_readTaps_18 : decode cX9_readTaps 18 = .ok (.aload_n 0, 1) := by decide +kernel
theorem dX9_readTaps_19 : decode cX9_readTaps 19 = .ok (.invokevirtual 41, 3) := by decide +kernel
theorem dX9_readTaps_22 : decode cX9_readTaps 22 = .ok (.iinc 1 1, 3) := by decide +kernel
theorem dX9_readTaps_25 : decode cX9_readTaps 25 = .ok (.iinc 2 1, 3) := by decide +kernel
theorem dX9_readTaps_28 : decode cX9_readTaps 28 = .ok (.goto (-24), 3) := by decide +kernel
theorem dX9_readTaps_31 : decode cX9_readTaps 31 = .ok (.iload_n 1, 1) := by decide +kernel
theorem dX9_readTaps_32 : decode cX9_readTaps 32 = .ok (.ifCond .ne 12, 3) := by decide +kernel
theorem dX9_readTaps_35 : decode cX9_readTaps 35 = .ok (.aload_n 0, 1) := by decide +kernel
theorem dX9_readTaps_36 : decode cX9_readTaps 36 = .ok (.iconst 1, 1) := by decide +kernel
theorem dX9_readTaps_37 : decode cX9_readTaps 37 = .ok (.aload_n 0, 1) := by decide +kernel
theorem dX9_readTaps_38 : decode cX9_readTaps 38 = .ok (.getfield 33, 3) := by decide +kernel
theorem dX9_readTaps_41 : decode cX9_readTaps 41 = .ok (.invokevirtual 37, 3) := by decide +kernel
theorem dX9_readTaps_44 : decode cX9_readTaps 44 = .ok (.aload_n 0, 1) := by decide +kernel
theorem dX9_readTaps_45 : decode cX9_readTaps 45 = .ok (.invokevirtual 25, 3) := by decide +kernel
theorem dX9_readTaps_48 : decode cX9_readTaps 48 = .ok (.bipush 120, 2) := by decide +kernel
theorem dX9_readTaps_50 : decode cX9_readTaps 50 = .ok (.if_icmp .ne 12, 3) := by decide +kernel
theorem dX9_readTaps_53 : decode cX9_readTaps 53 = .ok (.aload_n 0, 1) := by decide +kernel
theorem dX9_readTaps_54 : decode cX9_readTaps 54 = .ok (.iconst 2, 1) := by decide +kernel
theorem dX9_readTaps_55 : decode cX9_readTaps 55 = .ok (.aload_n 0, 1) := by decide +kernel
theorem dX9_readTaps_56 : decode cX9_readTaps 56 = .ok (.getfield 33, 3) := by decide +kernel
theorem dX9_readTaps_59 : decode cX9_readTaps 59 = .ok (.invokevirtual 37, 3) := by decide +kernel
theorem dX9_readTaps_62 : decode cX9_readTaps 62 = .ok (.iload_n 1, 1) := by decide +kernel
theorem dX9_readTaps_63 : decode cX9_readTaps 63 = .ok (.ireturn, 1) := by decide +kernel
theorem dX9_readGap_0 : decode cX9_readGap 0 = .ok (.aload_n 0, 1) := by decide +kernel
theorem dX9_readGap_1 : decode cX9_readGap 1 = .ok (.bipush 46, 2) := by decide +kernel
theorem dX9_readGap_3 : decode cX9_readGap 3 = .ok (.invokevirtual 51, 3) := by decide +kernel
theorem dX9_readGap_6 : decode cX9_readGap 6 = .ok (.aload_n 0, 1) := by decide +kernel
theorem dX9_readGap_7 : decode cX9_readGap 7 = .ok (.bipush 46, 2) := by decide +kernel
theorem dX9_readGap_9 : decode cX9_readGap 9 = .ok (.invokevirtual 51, 3) := by decide +kernel
theorem dX9_readGap_12 : decode cX9_readGap 12 = .ok (.aload_n 0, 1) := by decide +kernel
theorem dX9_readGap_13 : decode cX9_readGap 13 = .ok (.invokevirtual 25, 3) := by decide +kernel
theorem dX9_readGap_16 : decode cX9_readGap 16 = .ok (.bipush 46, 2) := by decide +kernel
theorem dX9_readGap_18 : decode cX9_readGap 18 = .ok (.if_icmp .ne 12, 3) := by decide +kernel
theorem dX9_readGap_21 : decode cX9_readGap 21 = .ok (.aload_n 0, 1) := by decide +kernel
theorem dX9_readGap_22 : decode cX9_readGap 22 = .ok (.iconst 3, 1) := by decide +kernel
theorem dX9_readGap_23 : decode cX9_readGap 23 = .ok (.aload_n 0, 1) := by decide +kernel
theorem dX9_readGap_24 : decode cX9_readGap 24 = .ok (.getfield 33, 3) := by decide +kernel
theorem dX9_readGap_27 : decode cX9_readGap 27 = .ok (.invokevirtual 37, 3) := by decide +kernel
theorem dX9_readGap_30 : decode cX9_readGap 30 = .ok (.return_, 1) := by decide +kernel
theorem dX10_init_0 : decode cX10_init 0 = .ok (.aload_n 0, 1) := by decide +kernel
theorem dX10_init_1 : decode cX10_init 1 = .ok (.invokespecial 3, 3) := by decide +kernel
theorem dX10_init_4 : decode cX10_init 4 = .ok (.aload_n 0, 1) := by decide +kernel
theorem dX10_init_5 : decode cX10_init 5 = .ok (.sipush 260, 3) := by decide +kernel
theorem dX10_init_8 : decode cX10_init 8 = .ok (.newarray .int, 2) := by decide +kernel
theorem dX10_init_10 : decode cX10_init 10 = .ok (.putfield 9, 3) := by decide +kernel
theorem dX10_init_13 : decode cX10_init 13 = .ok (.return_, 1) := by decide +kernel
theorem dX10_hasSpace_0 : decode cX10_hasSpace 0 = .ok (.aload_n 0, 1) := by decide +kernel
theorem dX10_hasSpace_1 : decode cX10_hasSpace 1 = .ok (.getfield 15, 3) := by decide +kernel
theorem dX10_hasSpace_4 : decode cX10_hasSpace 4 = .ok (.bipush 20, 2) := by decide +kernel
theorem dX10_hasSpace_6 : decode cX10_hasSpace 6 = .ok (.iadd, 1) := by decide +kernel
theorem dX10_hasSpace_7 : decode cX10_hasSpace 7 = .ok (.sipush 260, 3) := by decide +kernel
theorem dX10_hasSpace_10 : decode cX10_hasSpace 10 = .ok (.if_icmp .gt 7, 3) := by decide +kernel
theorem dX10_hasSpace_13 : decode cX10_hasSpace 13 = .ok (.iconst 1, 1) := by decide +kernel
theorem dX10_hasSpace_14 : decode cX10_hasSpace 14 = .ok (.goto 4, 3) := by decide +kernel
theorem dX10_hasSpace_17 : decode cX10_hasSpace 17 = .ok (.iconst 0, 1) := by decide +kernel
theorem dX10_hasSpace_18 : decode cX10_hasSpace 18 = .ok (.ireturn, 1) := by decide +kernel
theorem dX10_addWord_0 : decode cX10_addWord 0 = .ok (.bipush 24, 2) := by decide +kernel
theorem dX10_addWord_2 : decode cX10_addWord 2 = .ok (.istore_n 2, 1) := by decide +kernel
theorem dX10_addWord_3 : decode cX10_addWord 3 = .ok (.iload_n 2, 1) := by decide +kernel
theorem dX10_addWord_4 : decode cX10_addWord 4 = .ok (.ifCond .lt 54, 3) := by decide +kernel
theorem dX10_addWord_7 : decode cX10_addWord 7 = .ok (.aload_n 0, 1) := by decide +kernel
theorem dX10_addWord_8 : decode cX10_addWord 8 = .ok (.getfield 15, 3) := by decide +kernel
theorem dX10_addWord_11 : decode cX10_addWord 11 = .ok (.ifCond .lt 41, 3) := by decide +kernel
theorem dX10_addWord_14 : decode cX10_addWord 14 = .ok (.aload_n 0, 1) := by decide +kernel
theorem dX10_addWord_15 : decode cX10_addWord 15 = .ok (.getfield 15, 3) := by decide +kernel
theorem dX10_addWord_18 : decode cX10_addWord 18 = .ok (.aload_n 0, 1) := by decide +kernel
theorem dX10_addWord_19 : decode cX10_addWord 19 = .ok (.getfield 9, 3) := by decide +kernel
theorem dX10_addWord_22 : decode cX10_addWord 22 = .ok (.arraylength, 1) := by decide +kernel
theorem dX10_addWord_23 : decode cX10_addWord 23 = .ok (.if_icmp .ge 29, 3) := by decide +kernel
theorem dX10_addWord_26 : decode cX10_addWord 26 = .ok (.aload_n 0, 1) := by decide +kernel
theorem dX10_addWord_27 : decode cX10_addWord 27 = .ok (.getfield 9, 3) := by decide +kernel
theorem dX10_addWord_30 : decode cX10_addWord 30 = .ok (.aload_n 0, 1) := by decide +kernel
theorem dX10_addWord_31 : decode cX10_addWord 31 = .ok (.getfield 15, 3) := by decide +kernel
theorem dX10_addWord_34 : decode cX10_addWord 34 = .ok (.iload_n 1, 1) := by decide +kernel
theorem dX10_addWord_35 : decode cX10_addWord 35 = .ok (.iload_n 2, 1) := by decide +kernel
theorem dX10_addWord_36 : decode cX10_addWord 36 = .ok (.ishr, 1) := by decide +kernel
theorem dX10_addWord_37 : decode cX10_addWord 37 = .ok (.sipush 255, 3) := by decide +kernel
theorem dX10_addWord_40 : decode cX10_addWord 40 = .ok (.iand, 1) := by decide +kernel
theorem dX10_addWord_41 : decode cX10_addWord 41 = .ok (.iastore, 1) := by decide +kernel
theorem dX10_addWord_42 : decode cX10_addWord 42 = .ok (.aload_n 0, 1) := by decide +kernel
theorem dX10_addWord_43 : decode cX10_addWord 43 = .ok (.dup, 1) := by decide +kernel
theorem dX10_addWord_44 : decode cX10_addWord 44 = .ok (.getfield 15, 3) := by decide +kernel
theorem dX10_addWord_47 : decode cX10_addWord 47 = .ok (.iconst 1, 1) := by decide +kernel
theorem dX10_addWord_48 : decode cX10_addWord 48 = .ok (.iadd, 1) := by decide +kernel
theorem dX10_addWord_49 : decode cX10_addWord 49 = .ok (.putfield 15, 3) := by decide +kernel
theorem dX10_addWord_52 : decode cX10_addWord 52 = .ok (.iinc 2 (-8), 3) := by decide +kernel
theorem dX10_addWord_55 : decode cX10_addWord 55 = .ok (.goto (-52), 3) := by decide +kernel
theorem dX10_addWord_58 : decode cX10_addWord 58 = .ok (.return_, 1) := by decide +kernel
theorem dX10_has_0 : decode cX10_has 0 = .ok (.iload_n 1, 1) := by decide +kernel
theorem dX10_has_1 : decode cX10_has 1 = .ok (.aload_n 0, 1) := by decide +kernel
theorem dX10_has_2 : decode cX10_has 2 = .ok (.getfield 15, 3) := by decide +kernel
theorem dX10_has_5 : decode cX10_has 5 = .ok (.if_icmp .gt 7, 3) := by decide +kernel
theorem dX10_has_8 : decode cX10_has 8 = .ok (.iconst 1, 1) := by decide +kernel
theorem dX10_has_9 : decode cX10_has 9 = .ok (.goto 4, 3) := by decide +kernel
theorem dX10_has_12 : decode cX10_has 12 = .ok (.iconst 0, 1) := by decide +kernel
theorem dX10_has_13 : decode cX10_has 13 = .ok (.ireturn, 1) := by decide +kernel
theorem dX10_take_0 : decode cX10_take 0 = .ok (.aload_n 0, 1) := by decide +kernel
theorem dX10_take_1 : decode cX10_take 1 = .ok (.iconst 0, 1) := by decide +kernel
theorem dX10_take_2 : decode cX10_take 2 = .ok (.putfield 15, 3) := by decide +kernel
theorem dX10_take_5 : decode cX10_take 5 = .ok (.aload_n 0, 1) := by decide +kernel
theorem dX10_take_6 : decode cX10_take 6 = .ok (.iload_n 1, 1) := by decide +kernel
theorem dX10_take_7 : decode cX10_take 7 = .ok (.aload_n 0, 1) := by decide +kernel
theorem dX10_take_8 : decode cX10_take 8 = .ok (.getfield 9, 3) := by decide +kernel
theorem dX10_take_11 : decode cX10_take 11 = .ok (.arraylength, 1) := by decide +kernel
theorem dX10_take_12 : decode cX10_take 12 = .ok (.invokestatic 19, 3) := by decide +kernel
theorem dX10_take_15 : decode cX10_take 15 = .ok (.putfield 25, 3) := by decide +kernel
theorem dX10_take_18 : decode cX10_take 18 = .ok (.aload_n 0, 1) := by decide +kernel
theorem dX10_take_19 : decode cX10_take 19 = .ok (.iconst 0, 1) := by decide +kernel
theorem dX10_take_20 : decode cX10_take 20 = .ok (.putfield 28, 3) := by decide +kernel
theorem dX10_take_23 : decode cX10_take 23 = .ok (.aload_n 0, 1) := by decide +kernel
theorem dX10_take_24 : decode cX10_take 24 = .ok (.iconst 0, 1) := by decide +kernel
theorem dX10_take_25 : decode cX10_take 25 = .ok (.putfield 31, 3) := by decide +kernel
theorem dX10_take_28 : decode cX10_take 28 = .ok (.return_, 1) := by decide +kernel
theorem dX10_byteAt_0 : decode cX10_byteAt 0 = .ok (.iload_n 1, 1) := by decide +kernel
theorem dX10_byteAt_1 : decode cX10_byteAt 1 = .ok (.ifCond .lt 29, 3) := by decide +kernel
theorem dX10_byteAt_4 : decode cX10_byteAt 4 = .ok (.iload_n 1, 1) := by decide +kernel
theorem dX10_byteAt_5 : decode cX10_byteAt 5 = .ok (.aload_n 0, 1) := by decide +kernel
theorem dX10_byteAt_6 : decode cX10_byteAt 6 = .ok (.getfield 25, 3) := by decide +kernel
theorem dX10_byteAt_9 : decode cX10_byteAt 9 = .ok (.if_icmp .ge 21, 3) := by decide +kernel
theorem dX10_byteAt_12 : decode cX10_byteAt 12 = .ok (.iload_n 1, 1) := by decide +kernel
theorem dX10_byteAt_13 : decode cX10_byteAt 13 = .ok (.aload_n 0, 1) := by decide +kernel
theorem dX10_byteAt_14 : decode cX10_byteAt 14 = .ok (.getfield 9, 3) := by decide +kernel
theorem dX10_byteAt_17 : decode cX10_byteAt 17 = .ok (.arraylength, 1) := by decide +kernel
theorem dX10_byteAt_18 : decode cX10_byteAt 18 = .ok (.if_icmp .ge 12, 3) := by decide +kernel
theorem dX10_byteAt_21 : decode cX10_byteAt 21 = .ok (.aload_n 0, 1) := by decide +kernel
theorem dX10_byteAt_22 : decode cX10_byteAt 22 = .ok (.getfield 9, 3) := by decide +kernel
theorem dX10_byteAt_25 : decode cX10_byteAt 25 = .ok (.iload_n 1, 1) := by decide +kernel
theorem dX10_byteAt_26 : decode cX10_byteAt 26 = .ok (.iaload, 1) := by decide +kernel
theorem dX10_byteAt_27 : decode cX10_byteAt 27 = .ok (.goto 4, 3) := by decide +kernel
theorem dX10_byteAt_30 : decode cX10_byteAt 30 = .ok (.iconst (-1), 1) := by decide +kernel
theorem dX10_byteAt_31 : decode cX10_byteAt 31 = .ok (.ireturn, 1) := by decide +kernel
theorem dX10_sign_0 : decode cX10_sign 0 = .ok (.aload_n 0, 1) := by decide +kernel
theorem dX10_sign_1 : decode cX10_sign 1 = .ok (.getfield 31, 3) := by decide +kernel
theorem dX10_sign_4 : decode cX10_sign 4 = .ok (.ifCond .ne 45, 3) := by decide +kernel
theorem dX10_sign_7 : decode cX10_sign 7 = .ok (.aload_n 0, 1) := by decide +kernel
theorem dX10_sign_8 : decode cX10_sign 8 = .ok (.getfield 28, 3) := by decide +kernel
theorem dX10_sign_11 : decode cX10_sign 11 = .ok (.ifCond .lt 38, 3) := by decide +kernel
theorem dX10_sign_14 : decode cX10_sign 14 = .ok (.aload_n 0, 1) := by decide +kernel
theorem dX10_sign_15 : decode cX10_sign 15 = .ok (.getfield 28, 3) := by decide +kernel
theorem dX10_sign_18 : decode cX10_sign 18 = .ok (.aload_n 0, 1) := by decide +kernel
theorem dX10_sign_19 : decode cX10_sign 19 = .ok (.getfield 25, 3) := by decide +kernel
theorem dX10_sign_22 : decode cX10_sign 22 = .ok (.if_icmp .ge 27, 3) := by decide +kernel
theorem dX10_sign_25 : decode cX10_sign 25 = .ok (.aload_n 0, 1) := by decide +kernel
theorem dX10_sign_26 : decode cX10_sign 26 = .ok (.getfield 28, 3) := by decide +kernel
theorem dX10_sign_29 : decode cX10_sign 29 = .ok (.aload_n 0, 1) := by decide +kernel
theorem dX10_sign_30 : decode cX10_sign 30 = .ok (.getfield 9, 3) := by decide +kernel
theorem dX10_sign_33 : decode cX10_sign 33 = .ok (.arraylength, 1) := by decide +kernel
theorem dX10_sign_34 : decode cX10_sign 34 = .ok (.if_icmp .ge 15, 3) := by decide +kernel
theorem dX10_sign_37 : decode cX10_sign 37 = .ok (.aload_n 0, 1) := by decide +kernel
theorem dX10_sign_38 : decode cX10_sign 38 = .ok (.getfield 9, 3) := by decide +kernel
theorem dX10_sign_41 : decode cX10_sign 41 = .ok (.aload_n 0, 1) := by decide +kernel
theorem dX10_sign_42 : decode cX10_sign 42 = .ok (.getfield 28, 3) := by decide +kernel
theorem dX10_sign_45 : decode cX10_sign 45 = .ok (.iaload, 1) := by decide +kernel
theorem dX10_sign_46 : decode cX10_sign 46 = .ok (.goto 4, 3) := by decide +kernel
theorem dX10_sign_49 : decode cX10_sign 49 = .ok (.iconst (-1), 1) := by decide +kernel
theorem dX10_sign_50 : decode cX10_sign 50 = .ok (.ireturn, 1) := by decide +kernel
theorem dX10_isOver_0 : decode cX10_isOver 0 = .ok (.aload_n 0, 1) := by decide +kernel
theorem dX10_isOver_1 : decode cX10_isOver 1 = .ok (.getfield 31, 3) := by decide +kernel
theorem dX10_isOver_4 : decode cX10_isOver 4 = .ok (.ifCond .ne 14, 3) := by decide +kernel
theorem dX10_isOver_7 : decode cX10_isOver 7 = .ok (.aload_n 0, 1) := by decide +kernel
theorem dX10_isOver_8 : decode cX10_isOver 8 = .ok (.getfield 28, 3) := by decide +kernel
theorem dX10_isOver_11 : decode cX10_isOver 11 = .ok (.aload_n 0, 1) := by decide +kernel
theorem dX10_isOver_12 : decode cX10_isOver 12 = .ok (.getfield 25, 3) := by decide +kernel
theorem dX10_isOver_15 : decode cX10_isOver 15 = .ok (.if_icmp .lt 7, 3) := by decide +kernel
theorem dX10_isOver_18 : decode cX10_isOver 18 = .ok (.iconst 1, 1) := by decide +kernel
theorem dX10_isOver_19 : decode cX10_isOver 19 = .ok (.goto 4, 3) := by decide +kernel
theorem dX10_isOver_22 : decode cX10_isOver 22 = .ok (.iconst 0, 1) := by decide +kernel
theorem dX10_isOver_23 : decode cX10_isOver 23 = .ok (.ireturn, 1) := by decide +kernel
theorem dX10_isFaulty_0 : decode cX10_isFaulty 0 = .ok (.aload_n 0, 1) := by decide +kernel
theorem dX10_isFaulty_1 : decode cX10_isFaulty 1 = .ok (.getfield 31, 3) := by decide +kernel
theorem dX10_isFaulty_4 : decode cX10_isFaulty 4 = .ok (.ifCond .eq 7, 3) := by decide +kernel
theorem dX10_isFaulty_7 : decode cX10_isFaulty 7 = .ok (.iconst 1, 1) := by decide +kernel
theorem dX10_isFaulty_8 : decode cX10_isFaulty 8 = .ok (.goto 4, 3) := by decide +kernel
theorem dX10_isFaulty_11 : decode cX10_isFaulty 11 = .ok (.iconst 0, 1) := by decide +kernel
theorem dX10_isFaulty_12 : decode cX10_isFaulty 12 = .ok (.ireturn, 1) := by decide +kernel
theorem dX10_step_0 : decode cX10_step 0 = .ok (.aload_n 0, 1) := by decide +kernel
theorem dX10_step_1 : decode cX10_step 1 = .ok (.dup, 1) := by decide +kernel
theorem dX10_step_2 : decode cX10_step 2 = .ok (.getfield 28, 3) := by decide +kernel
theorem dX10_step_5 : decode cX10_step 5 = .ok (.iconst 1, 1) := by decide +kernel
theorem dX10_step_6 : decode cX10_step 6 = .ok (.iadd, 1) := by decide +kernel
theorem dX10_step_7 : decode cX10_step 7 = .ok (.putfield 28, 3) := by decide +kernel
theorem dX10_step_10 : decode cX10_step 10 = .ok (.return_, 1) := by decide +kernel
theorem dX10_expect_0 : decode cX10_expect 0 = .ok (.aload_n 0, 1) := by decide +kernel
theorem dX10_expect_1 : decode cX10_expect 1 = .ok (.invokevirtual 34, 3) := by decide +kernel
theorem dX10_expect_4 : decode cX10_expect 4 = .ok (.iload_n 1, 1) := by decide +kernel
theorem dX10_expect_5 : decode cX10_expect 5 = .ok (.if_icmp .ne 10, 3) := by decide +kernel
theorem dX10_expect_8 : decode cX10_expect 8 = .ok (.aload_n 0, 1) := by decide +kernel
theorem dX10_expect_9 : decode cX10_expect 9 = .ok (.invokevirtual 38, 3) := by decide +kernel
theorem dX10_expect_12 : decode cX10_expect 12 = .ok (.goto 12, 3) := by decide +kernel
theorem dX10_expect_15 : decode cX10_expect 15 = .ok (.aload_n 0, 1) := by decide +kernel
theorem dX10_expect_16 : decode cX10_expect 16 = .ok (.iconst 1, 1) := by decide +kernel
theorem dX10_expect_17 : decode cX10_expect 17 = .ok (.aload_n 0, 1) := by decide +kernel
theorem dX10_expect_18 : decode cX10_expect 18 = .ok (.getfield 28, 3) := by decide +kernel
theorem dX10_expect_21 : decode cX10_expect 21 = .ok (.invokevirtual 41, 3) := by decide +kernel
theorem dX10_expect_24 : decode cX10_expect 24 = .ok (.return_, 1) := by decide +kernel
theorem dX10_failAt_0 : decode cX10_failAt 0 = .ok (.aload_n 0, 1) := by decide +kernel
theorem dX10_failAt_1 : decode cX10_failAt 1 = .ok (.getfield 31, 3) := by decide +kernel
theorem dX10_failAt_4 : decode cX10_failAt 4 = .ok (.ifCond .ne 14, 3) := by decide +kernel
theorem dX10_failAt_7 : decode cX10_failAt 7 = .ok (.aload_n 0, 1) := by decide +kernel
theorem dX10_failAt_8 : decode cX10_failAt 8 = .ok (.sipush (-1000), 3) := by decide +kernel
theorem dX10_failAt_11 : decode cX10_failAt 11 = .ok (.iload_n 1, 1) := by decide +kernel
theorem dX10_failAt_12 : decode cX10_failAt 12 = .ok (.imul, 1) := by decide +kernel
theorem dX10_failAt_13 : decode cX10_failAt 13 = .ok (.iload_n 2, 1) := by decide +kernel
theorem dX10_failAt_14 : decode cX10_failAt 14 = .ok (.isub, 1) := by decide +kernel
theorem dX10_failAt_15 : decode cX10_failAt 15 = .ok (.putfield 31, 3) := by decide +kernel
theorem dX10_failAt_18 : decode cX10_failAt 18 = .ok (.return_, 1) := by decide +kernel
theorem dX10_number_0 : decode cX10_number 0 = .ok (.aload_n 0, 1) := by decide +kernel
theorem dX10_number_1 : decode cX10_number 1 = .ok (.invokevirtual 34, 3) := by decide +kernel
theorem dX10_number_4 : decode cX10_number 4 = .ok (.invokestatic 45, 3) := by decide +kernel
theorem dX10_number_7 : decode cX10_number 7 = .ok (.ifCond .ne 14, 3) := by decide +kernel
theorem dX10_number_10 : decode cX10_number 10 = .ok (.aload_n 0, 1) := by decide +kernel
theorem dX10_number_11 : decode cX10_number 11 = .ok (.iconst 1, 1) := by decide +kernel
theorem dX10_number_12 : decode cX10_number 12 = .ok (.aload_n 0, 1) := by decide +kernel
theorem dX10_number_13 : decode cX10_number 13 = .ok (.getfield 28, 3) := by decide +kernel
theorem dX10_number_16 : decode cX10_number 16 = .ok (.invokevirtual 41, 3) := by decide +kernel
theorem dX10_number_19 : decode cX10_number 19 = .ok (.iconst (-1), 1) := by decide +kernel
theorem dX10_number_20 : decode cX10_number 20 = .ok (.ireturn, 1) := by decide +kernel
theorem dX10_number_21 : decode cX10_number 21 = .ok (.iconst 0, 1) := by decide +kernel
theorem dX10_number_22 : decode cX10_number 22 = .ok (.istore_n 2, 1) := by decide +kernel
theorem dX10_number_23 : decode cX10_number 23 = .ok (.iconst 0, 1) := by decide +kernel
theorem dX10_number_24 : decode cX10_number 24 = .ok (.istore_n 3, 1) := by decide +kernel
theorem dX10_number_25 : decode cX10_number 25 = .ok (.iload_n 3, 1) := by decide +kernel
theorem dX10_number_26 : decode cX10_number 26 = .ok (.iload_n 1, 1) := by decide +kernel
theorem dX10_number_27 : decode cX10_number 27 = .ok (.if_icmp .ge 36, 3) := by decide +kernel
theorem dX10_number_30 : decode cX10_number 30 = .ok (.aload_n 0, 1) := by decide +kernel
theorem dX10_number_31 : decode cX10_number 31 = .ok (.invokevirtual 34, 3) := by decide +kernel
theorem dX10_number_34 : decode cX10_number 34 = .ok (.invokestatic 45, 3) := by decide +kernel
theorem dX10_number_37 : decode cX10_number 37 = .ok (.ifCond .eq 26, 3) := by decide +kernel
theorem dX10_number_40 : decode cX10_number 40 = .ok (.iload_n 2, 1) := by decide +kernel
theorem dX10_number_41 : decode cX10_number 41 = .ok (.bipush 10, 2) := by decide +kernel
theorem dX10_number_43 : decode cX10_number 43 = .ok (.imul, 1) := by decide +kernel
theorem dX10_number_44 : decode cX10_number 44 = .ok (.aload_n 0, 1) := by decide +kernel
theorem dX10_number_45 : decode cX10_number 45 = .ok (.invokevirtual 34, 3) := by decide +kernel
theorem dX10_number_48 : decode cX10_number 48 = .ok (.iadd, 1) := by decide +kernel
theorem dX10_number_49 : decode cX10_number 49 = .ok (.bipush 48, 2) := by decide +kernel
theorem dX10_number_51 : decode cX10_number 51 = .ok (.isub, 1) := by decide +kernel
theorem dX10_number_52 : decode cX10_number 52 = .ok (.istore_n 2, 1) := by decide +kernel
theorem dX10_number_53 : decode cX10_number 53 = .ok (.aload_n 0, 1) := by decide +kernel
theorem dX10_number_54 : decode cX10_number 54 = .ok (.invokevirtual 38, 3) := by decide +kernel
theorem dX10_number_57 : decode cX10_number 57 = .ok (.iinc 3 1, 3) := by decide +kernel
theorem dX10_number_60 : decode cX10_number 60 = .ok (.goto (-35), 3) := by decide +kernel
theorem dX10_number_63 : decode cX10_number 63 = .ok (.aload_n 0, 1) := by decide +kernel
theorem dX10_number_64 : decode cX10_number 64 = .ok (.invokevirtual 34, 3) := by decide +kernel
theorem dX10_number_67 : decode cX10_number 67 = .ok (.invokestatic 45, 3) := by decide +kernel
theorem dX10_number_70 : decode cX10_number 70 = .ok (.ifCond .eq 14, 3) := by decide +kernel
theorem dX10_number_73 : decode cX10_number 73 = .ok (.aload_n 0, 1) := by decide +kernel
theorem dX10_number_74 : decode cX10_number 74 = .ok (.iconst 2, 1) := by decide +kernel
theorem dX10_number_75 : decode cX10_number 75 = .ok (.aload_n 0, 1) := by decide +kernel
theorem dX10_number_76 : decode cX10_number 76 = .ok (.getfield 28, 3) := by decide +kernel
theorem dX10_number_79 : decode cX10_number 79 = .ok (.invokevirtual 41, 3) := by decide +kernel
theorem dX10_number_82 : decode cX10_number 82 = .ok (.iconst (-1), 1) := by decide +kernel
theorem dX10_number_83 : decode cX10_number 83 = .ok (.ireturn, 1) := by decide +kernel
theorem dX10_number_84 : decode cX10_number 84 = .ok (.iload_n 2, 1) := by decide +kernel
theorem dX10_number_85 : decode cX10_number 85 = .ok (.ireturn, 1) := by decide +kernel
theorem dX10_isDigit_0 : decode cX10_isDigit 0 = .ok (.iload_n 0, 1) := by decide +kernel
theorem dX10_isDigit_1 : decode cX10_isDigit 1 = .ok (.bipush 48, 2) := by decide +kernel
theorem dX10_isDigit_3 : decode cX10_isDigit 3 = .ok (.if_icmp .lt 13, 3) := by decide +kernel
theorem dX10_isDigit_6 : decode cX10_isDigit 6 = .ok (.iload_n 0, 1) := by decide +kernel
theorem dX10_isDigit_7 : decode cX10_isDigit 7 = .ok (.bipush 57, 2) := by decide +kernel
theorem dX10_isDigit_9 : decode cX10_isDigit 9 = .ok (.if_icmp .gt 7, 3) := by decide +kernel
theorem dX10_isDigit_12 : decode cX10_isDigit 12 = .ok (.iconst 1, 1) := by decide +kernel
theorem dX10_isDigit_13 : decode cX10_isDigit 13 = .ok (.goto 4, 3) := by decide +kernel
theorem dX10_isDigit_16 : decode cX10_isDigit 16 = .ok (.iconst 0, 1) := by decide +kernel
theorem dX10_isDigit_17 : decode cX10_isDigit 17 = .ok (.ireturn, 1) := by decide +kernel
theorem dX11_init_0 : decode cX11_init 0 = .ok (.aload_n 0, 1) := by decide +kernel
theorem dX11_init_1 : decode cX11_init 1 = .ok (.invokespecial 3, 3) := by decide +kernel
theorem dX11_init_4 : decode cX11_init 4 = .ok (.aload_n 0, 1) := by decide +kernel
theorem dX11_init_5 : decode cX11_init 5 = .ok (.new 9, 3) := by decide +kernel
theorem dX11_init_8 : decode cX11_init 8 = .ok (.dup, 1) := by decide +kernel
theorem dX11_init_9 : decode cX11_init 9 = .ok (.invokespecial 11, 3) := by decide +kernel
theorem dX11_init_12 : decode cX11_init 12 = .ok (.putfield 12, 3) := by decide +kernel
theorem dX11_init_15 : decode cX11_init 15 = .ok (.aload_n 0, 1) := by decide +kernel
theorem dX11_init_16 : decode cX11_init 16 = .ok (.new 16, 3) := by decide +kernel
theorem dX11_init_19 : decode cX11_init 19 = .ok (.dup, 1) := by decide +kernel
theorem dX11_init_20 : decode cX11_init 20 = .ok (.invokespecial 18, 3) := by decide +kernel
theorem dX11_init_23 : decode cX11_init 23 = .ok (.putfield 19, 3) := by decide +kernel
theorem dX11_init_26 : decode cX11_init 26 = .ok (.aload_n 0, 1) := by decide +kernel
theorem dX11_init_27 : decode cX11_init 27 = .ok (.new 16, 3) := by decide +kernel
theorem dX11_init_30 : decode cX11_init 30 = .ok (.dup, 1) := by decide +kernel
theorem dX11_init_31 : decode cX11_init 31 = .ok (.invokespecial 18, 3) := by decide +kernel
theorem dX11_init_34 : decode cX11_init 34 = .ok (.putfield 23, 3) := by decide +kernel
theorem dX11_init_37 : decode cX11_init 37 = .ok (.aload_n 0, 1) := by decide +kernel
theorem dX11_init_38 : decode cX11_init 38 = .ok (.new 16, 3) := by decide +kernel
theorem dX11_init_41 : decode cX11_init 41 = .ok (.dup, 1) := by decide +kernel
theorem dX11_init_42 : decode cX11_init 42 = .ok (.invokespecial 18, 3) := by decide +kernel
theorem dX11_init_45 : decode cX11_init 45 = .ok (.putfield 26, 3) := by decide +kernel
theorem dX11_init_48 : decode cX11_init 48 = .ok (.aload_n 0, 1) := by decide +kernel
theorem dX11_init_49 : decode cX11_init 49 = .ok (.new 29, 3) := by decide +kernel
theorem dX11_init_52 : decode cX11_init 52 = .ok (.dup, 1) := by decide +kernel
theorem dX11_init_53 : decode cX11_init 53 = .ok (.aload_n 0, 1) := by decide +kernel
theorem dX11_init_54 : decode cX11_init 54 = .ok (.getfield 19, 3) := by decide +kernel
theorem dX11_init_57 : decode cX11_init 57 = .ok (.invokespecial 31, 3) := by decide +kernel
theorem dX11_init_60 : decode cX11_init 60 = .ok (.putfield 34, 3) := by decide +kernel
theorem dX11_init_63 : decode cX11_init 63 = .ok (.aload_n 0, 1) := by decide +kernel
theorem dX11_init_64 : decode cX11_init 64 = .ok (.new 29, 3) := by decide +kernel
theorem dX11_init_67 : decode cX11_init 67 = .ok (.dup, 1) := by decide +kernel
theorem dX11_init_68 : decode cX11_init 68 = .ok (.aload_n 0, 1) := by decide +kernel
theorem dX11_init_69 : decode cX11_init 69 = .ok (.getfield 19, 3) := by decide +kernel
theorem dX11_init_72 : decode cX11_init 72 = .ok (.invokespecial 31, 3) := by decide +kernel
theorem dX11_init_75 : decode cX11_init 75 = .ok (.putfield 38, 3) := by decide +kernel
theorem dX11_init_78 : decode cX11_init 78 = .ok (.aload_n 0, 1) := by decide +kernel
theorem dX11_init_79 : decode cX11_init 79 = .ok (.new 41, 3) := by decide +kernel
theorem dX11_init_82 : decode cX11_init 82 = .ok (.dup, 1) := by decide +kernel
theorem dX11_init_83 : decode cX11_init 83 = .ok (.aload_n 0, 1) := by decide +kernel
theorem dX11_init_84 : decode cX11_init 84 = .ok (.getfield 19, 3) := by decide +kernel
theorem dX11_init_87 : decode cX11_init 87 = .ok (.aload_n 0, 1) := by decide +kernel
theorem dX11_init_88 : decode cX11_init 88 = .ok (.getfield 34, 3) := by decide +kernel
theorem dX11_init_91 : decode cX11_init 91 = .ok (.invokespecial 43, 3) := by decide +kernel
theorem dX11_init_94 : decode cX11_init 94 = .ok (.putfield 46, 3) := by decide +kernel
theorem dX11_init_97 : decode cX11_init 97 = .ok (.aload_n 0, 1) := by decide +kernel
theorem dX11_init_98 : decode cX11_init 98 = .ok (.new 50, 3) := by decide +kernel
theorem dX11_init_101 : decode cX11_init 101 = .ok (.dup, 1) := by decide +kernel
theorem dX11_init_102 : decode cX11_init 102 = .ok (.aload_n 0, 1) := by decide +kernel
theorem dX11_init_103 : decode cX11_init 103 = .ok (.getfield 12, 3) := by decide +kernel
theorem dX11_init_106 : decode cX11_init 106 = .ok (.aload_n 0, 1) := by decide +kernel
theorem dX11_init_107 : decode cX11_init 107 = .ok (.getfield 38, 3) := by decide +kernel
theorem dX11_init_110 : decode cX11_init 110 = .ok (.invokespecial 52, 3) := by decide +kernel
theorem dX11_init_113 : decode cX11_init 113 = .ok (.putfield 55, 3) := by decide +kernel
theorem dX11_init_116 : decode cX11_init 116 = .ok (.aload_n 0, 1) := by decide +kernel
theorem dX11_init_117 : decode cX11_init 117 = .ok (.new 59, 3) := by decide +kernel
theorem dX11_init_120 : decode cX11_init 120 = .ok (.dup, 1) := by decide +kernel
theorem dX11_init_121 : decode cX11_init 121 = .ok (.aload_n 0, 1) := by decide +kernel
theorem dX11_init_122 : decode cX11_init 122 = .ok (.getfield 12, 3) := by decide +kernel
theorem dX11_init_125 : decode cX11_init 125 = .ok (.aload_n 0, 1) := by decide +kernel
theorem dX11_init_126 : decode cX11_init 126 = .ok (.getfield 26, 3) := by decide +kernel
theorem dX11_init_129 : decode cX11_init 129 = .ok (.invokespecial 61, 3) := by decide +kernel
theorem dX11_init_132 : decode cX11_init 132 = .ok (.putfield 64, 3) := by decide +kernel
theorem dX11_init_135 : decode cX11_init 135 = .ok (.aload_n 0, 1) := by decide +kernel
theorem dX11_init_136 : decode cX11_init 136 = .ok (.new 68, 3) := by decide +kernel
theorem dX11_init_139 : decode cX11_init 139 = .ok (.dup, 1) := by decide +kernel
theorem dX11_init_140 : decode cX11_init 140 = .ok (.invokespecial 70, 3) := by decide +kernel
theorem dX11_init_143 : decode cX11_init 143 = .ok (.putfield 71, 3) := by decide +kernel
theorem dX11_init_146 : decode cX11_init 146 = .ok (.aload_n 0, 1) := by decide +kernel
theorem dX11_init_147 : decode cX11_init 147 = .ok (.new 75, 3) := by decide +kernel
theorem dX11_init_150 : decode cX11_init 150 = .ok (.dup, 1) := by decide +kernel
theorem dX11_init_151 : decode cX11_init 151 = .ok (.invokespecial 77, 3) := by decide +kernel
theorem dX11_init_154 : decode cX11_init 154 = .ok (.putfield 78, 3) := by decide +kernel
theorem dX11_init_157 : decode cX11_init 157 = .ok (.aload_n 0, 1) := by decide +kernel
theorem dX11_init_158 : decode cX11_init 158 = .ok (.new 82, 3) := by decide +kernel
theorem dX11_init_161 : decode cX11_init 161 = .ok (.dup, 1) := by decide +kernel
theorem dX11_init_162 : decode cX11_init 162 = .ok (.invokespecial 84, 3) := by decide +kernel
theorem dX11_init_165 : decode cX11_init 165 = .ok (.putfield 85, 3) := by decide +kernel
theorem dX11_init_168 : decode cX11_init 168 = .ok (.aload_n 0, 1) := by decide +kernel
theorem dX11_init_169 : decode cX11_init 169 = .ok (.new 89, 3) := by decide +kernel
theorem dX11_init_172 : decode cX11_init 172 = .ok (.dup, 1) := by decide +kernel
theorem dX11_init_173 : decode cX11_init 173 = .ok (.invokespecial 91, 3) := by decide +kernel
theorem dX11_init_176 : decode cX11_init 176 = .ok (.putfield 92, 3) := by decide +kernel
theorem dX11_init_179 : decode cX11_init 179 = .ok (.aload_n 0, 1) := by decide +kernel
theorem dX11_init_180 : decode cX11_init 180 = .ok (.iconst 0, 1) := by decide +kernel
theorem dX11_init_181 : decode cX11_init 181 = .ok (.putfield 96, 3) := by decide +kernel
theorem dX11_init_184 : decode cX11_init 184 = .ok (.return_, 1) := by decide +kernel
theorem dX11_guest_0 : decode cX11_guest 0 = .ok (.iload_n 1, 1) := by decide +kernel
theorem dX11_guest_1 : decode cX11_guest 1 = .ok (.invokestatic 100, 3) := by decide +kernel
theorem dX11_guest_4 : decode cX11_guest 4 = .ok (.ifCond .eq 14, 3) := by decide +kernel
theorem dX11_guest_7 : decode cX11_guest 7 = .ok (.iload_n 2, 1) := by decide +kernel
theorem dX11_guest_8 : decode cX11_guest 8 = .ok (.iconst 0, 1) := by decide +kernel
theorem dX11_guest_9 : decode cX11_guest 9 = .ok (.sipush 9999, 3) := by decide +kernel
theorem dX11_guest_12 : decode cX11_guest 12 = .ok (.invokestatic 104, 3) := by decide +kernel
theorem dX11_guest_15 : decode cX11_guest 15 = .ok (.ifCond .ne 5, 3) := by decide +kernel
theorem dX11_guest_18 : decode cX11_guest 18 = .ok (.iconst 0, 1) := by decide +kernel
theorem dX11_guest_19 : decode cX11_guest 19 = .ok (.ireturn, 1) := by decide +kernel
theorem dX11_guest_20 : decode cX11_guest 20 = .ok (.aload_n 0, 1) := by decide +kernel
theorem dX11_guest_21 : decode cX11_guest 21 = .ok (.getfield 19, 3) := by decide +kernel
theorem dX11_guest_24 : decode cX11_guest 24 = .ok (.iload_n 1, 1) := by decide +kernel
theorem dX11_guest_25 : decode cX11_guest 25 = .ok (.iload_n 2, 1) := by decide +kernel
theorem dX11_guest_26 : decode cX11_guest 26 = .ok (.invokevirtual 108, 3) := by decide +kernel
theorem dX11_guest_29 : decode cX11_guest 29 = .ok (.iconst 1, 1) := by decide +kernel
theorem dX11_guest_30 : decode cX11_guest 30 = .ok (.ireturn, 1) := by decide +kernel
theorem dX11_grille_0 : decode cX11_grille 0 = .ok (.iload_n 1, 1) := by decide +kernel
theorem dX11_grille_1 : decode cX11_grille 1 = .ok (.invokestatic 100, 3) := by decide +kernel
theorem dX11_grille_4 : decode cX11_grille 4 = .ok (.ifCond .ne 5, 3) := by decide +kernel
theorem dX11_grille_7 : decode cX11_grille 7 = .ok (.iconst 0, 1) := by decide +kernel
theorem dX11_grille_8 : decode cX11_grille 8 = .ok (.ireturn, 1) := by decide +kernel
theorem dX11_grille_9 : decode cX11_grille 9 = .ok (.aload_n 0, 1) := by decide +kernel
theorem dX11_grille_10 : decode cX11_grille 10 = .ok (.getfield 19, 3) := by decide +kernel
theorem dX11_grille_13 : decode cX11_grille 13 = .ok (.iload_n 1, 1) := by decide +kernel
theorem dX11_grille_14 : decode cX11_grille 14 = .ok (.iload_n 2, 1) := by decide +kernel
theorem dX11_grille_15 : decode cX11_grille 15 = .ok (.invokevirtual 112, 3) := by decide +kernel
theorem dX11_grille_18 : decode cX11_grille 18 = .ok (.iconst 1, 1) := by decide +kernel
theorem dX11_grille_19 : decode cX11_grille 19 = .ok (.ireturn, 1) := by decide +kernel
theorem dX11_louvre_0 : decode cX11_louvre 0 = .ok (.iload_n 1, 1) := by decide +kernel
theorem dX11_louvre_1 : decode cX11_louvre 1 = .ok (.invokestatic 100, 3) := by decide +kernel
theorem dX11_louvre_4 : decode cX11_louvre 4 = .ok (.ifCond .eq 12, 3) := by decide +kernel
theorem dX11_louvre_7 : decode cX11_louvre 7 = .ok (.iload_n 2, 1) := by decide +kernel
theorem dX11_louvre_8 : decode cX11_louvre 8 = .ok (.iconst 0, 1) := by decide +kernel
theorem dX11_louvre_9 : decode cX11_louvre 9 = .ok (.iconst 2, 1) := by decide +kernel
theorem dX11_louvre_10 : decode cX11_louvre 10 = .ok (.invokestatic 104, 3) := by decide +kernel
theorem dX11_louvre_13 : decode cX11_louvre 13 = .ok (.ifCond .ne 5, 3) := by decide +kernel
theorem dX11_louvre_16 : decode cX11_louvre 16 = .ok (.iconst 0, 1) := by decide +kernel
theorem dX11_louvre_17 : decode cX11_louvre 17 = .ok (.ireturn, 1) := by decide +kernel
theorem dX11_louvre_18 : decode cX11_louvre 18 = .ok (.aload_n 0, 1) := by decide +kernel
theorem dX11_louvre_19 : decode cX11_louvre 19 = .ok (.getfield 19, 3) := by decide +kernel
theorem dX11_louvre_22 : decode cX11_louvre 22 = .ok (.iload_n 1, 1) := by decide +kernel
theorem dX11_louvre_23 : decode cX11_louvre 23 = .ok (.iload_n 2, 1) := by decide +kernel
theorem dX11_louvre_24 : decode cX11_louvre 24 = .ok (.invokevirtual 116, 3) := by decide +kernel
theorem dX11_louvre_27 : decode cX11_louvre 27 = .ok (.iconst 1, 1) := by decide +kernel
theorem dX11_louvre_28 : decode cX11_louvre 28 = .ok (.ireturn, 1) := by decide +kernel
theorem dX11_feed_0 : decode cX11_feed 0 = .ok (.aload_n 0, 1) := by decide +kernel
theorem dX11_feed_1 : decode cX11_feed 1 = .ok (.getfield 12, 3) := by decide +kernel
theorem dX11_feed_4 : decode cX11_feed 4 = .ok (.invokevirtual 119, 3) := by decide +kernel
theorem dX11_feed_7 : decode cX11_feed 7 = .ok (.ifCond .ne 5, 3) := by decide +kernel
theorem dX11_feed_10 : decode cX11_feed 10 = .ok (.iconst (-1), 1) := by decide +kernel
theorem dX11_feed_11 : decode cX11_feed 11 = .ok (.ireturn, 1) := by decide +kernel
theorem dX11_feed_12 : decode cX11_feed 12 = .ok (.aload_n 0, 1) := by decide +kernel
theorem dX11_feed_13 : decode cX11_feed 13 = .ok (.getfield 12, 3) := by decide +kernel
theorem dX11_feed_16 : decode cX11_feed 16 = .ok (.iload_n 1, 1) := by decide +kernel
theorem dX11_feed_17 : decode cX11_feed 17 = .ok (.invokevirtual 123, 3) := by decide +kernel
theorem dX11_feed_20 : decode cX11_feed 20 = .ok (.aload_n 0, 1) := by decide +kernel
theorem dX11_feed_21 : decode cX11_feed 21 = .ok (.getfield 12, 3) := by decide +kernel
theorem dX11_feed_24 : decode cX11_feed 24 = .ok (.iload_n 2, 1) := by decide +kernel
theorem dX11_feed_25 : decode cX11_feed 25 = .ok (.invokevirtual 123, 3) := by decide +kernel
theorem dX11_feed_28 : decode cX11_feed 28 = .ok (.aload_n 0, 1) := by decide +kernel
theorem dX11_feed_29 : decode cX11_feed 29 = .ok (.getfield 12, 3) := by decide +kernel
theorem dX11_feed_32 : decode cX11_feed 32 = .ok (.iload_n 3, 1) := by decide +kernel
theorem dX11_feed_33 : decode cX11_feed 33 = .ok (.invokevirtual 123, 3) := by decide +kernel
theorem dX11_feed_36 : decode cX11_feed 36 = .ok (.aload_n 0, 1) := by decide +kernel
theorem dX11_feed_37 : decode cX11_feed 37 = .ok (.getfield 12, 3) := by decide +kernel
theorem dX11_feed_40 : decode cX11_feed 40 = .ok (.iload 4, 2) := by decide +kernel
theorem dX11_feed_42 : decode cX11_feed 42 = .ok (.invokevirtual 123, 3) := by decide +kernel
theorem dX11_feed_45 : decode cX11_feed 45 = .ok (.aload_n 0, 1) := by decide +kernel
theorem dX11_feed_46 : decode cX11_feed 46 = .ok (.getfield 12, 3) := by decide +kernel
theorem dX11_feed_49 : decode cX11_feed 49 = .ok (.iload 5, 2) := by decide +kernel
theorem dX11_feed_51 : decode cX11_feed 51 = .ok (.invokevirtual 123, 3) := by decide +kernel
theorem dX11_feed_54 : decode cX11_feed 54 = .ok (.aload_n 0, 1) := by decide +kernel
theorem dX11_feed_55 : decode cX11_feed 55 = .ok (.getfield 12, 3) := by decide +kernel
theorem dX11_feed_58 : decode cX11_feed 58 = .ok (.getfield 127, 3) := by decide +kernel
theorem dX11_feed_61 : decode cX11_feed 61 = .ok (.ireturn, 1) := by decide +kernel
theorem dX11_law_0 : decode cX11_law 0 = .ok (.iload_n 1, 1) := by decide +kernel
theorem dX11_law_1 : decode cX11_law 1 = .ok (.iconst 1, 1) := by decide +kernel
theorem dX11_law_2 : decode cX11_law 2 = .ok (.sipush 240, 3) := by decide +kernel
theorem dX11_law_5 : decode cX11_law 5 = .ok (.invokestatic 104, 3) := by decide +kernel
theorem dX11_law_8 : decode cX11_law 8 = .ok (.ifCond .eq 14, 3) := by decide +kernel
theorem dX11_law_11 : decode cX11_law 11 = .ok (.aload_n 0, 1) := by decide +kernel
theorem dX11_law_12 : decode cX11_law 12 = .ok (.getfield 12, 3) := by decide +kernel
theorem dX11_law_15 : decode cX11_law 15 = .ok (.iload_n 1, 1) := by decide +kernel
theorem dX11_law_16 : decode cX11_law 16 = .ok (.invokevirtual 131, 3) := by decide +kernel
theorem dX11_law_19 : decode cX11_law 19 = .ok (.ifCond .ne 5, 3) := by decide +kernel
theorem dX11_law_22 : decode cX11_law 22 = .ok (.iconst (-1), 1) := by decide +kernel
theorem dX11_law_23 : decode cX11_law 23 = .ok (.ireturn, 1) := by decide +kernel
theorem dX11_law_24 : decode cX11_law 24 = .ok (.aload_n 0, 1) := by decide +kernel
theorem dX11_law_25 : decode cX11_law 25 = .ok (.getfield 12, 3) := by decide +kernel
theorem dX11_law_28 : decode cX11_law 28 = .ok (.iload_n 1, 1) := by decide +kernel
theorem dX11_law_29 : decode cX11_law 29 = .ok (.invokevirtual 134, 3) := by decide +kernel
theorem dX11_law_32 : decode cX11_law 32 = .ok (.aload_n 0, 1) := by decide +kernel
theorem dX11_law_33 : decode cX11_law 33 = .ok (.getfield 55, 3) := by decide +kernel
theorem dX11_law_36 : decode cX11_law 36 = .ok (.aload_n 0, 1) := by decide +kernel
theorem dX11_law_37 : decode cX11_law 37 = .ok (.getfield 38, 3) := by decide +kernel
theorem dX11_law_40 : decode cX11_law 40 = .ok (.invokevirtual 137, 3) := by decide +kernel
theorem dX11_law_43 : decode cX11_law 43 = .ok (.aload_n 0, 1) := by decide +kernel
theorem dX11_law_44 : decode cX11_law 44 = .ok (.getfield 12, 3) := by decide +kernel
theorem dX11_law_47 : decode cX11_law 47 = .ok (.invokevirtual 141, 3) := by decide +kernel
theorem dX11_law_50 : decode cX11_law 50 = .ok (.ifCond .eq 11, 3) := by decide +kernel
theorem dX11_law_53 : decode cX11_law 53 = .ok (.aload_n 0, 1) := by decide +kernel
theorem dX11_law_54 : decode cX11_law 54 = .ok (.getfield 12, 3) := by decide +kernel
theorem dX11_law_57 : decode cX11_law 57 = .ok (.getfield 144, 3) := by decide +kernel
theorem dX11_law_60 : decode cX11_law 60 = .ok (.ireturn, 1) := by decide +kernel
theorem dX11_law_61 : decode cX11_law 61 = .ok (.aload_n 0, 1) := by decide +kernel
theorem dX11_law_62 : decode cX11_law 62 = .ok (.getfield 34, 3) := by decide +kernel
theorem dX11_law_65 : decode cX11_law 65 = .ok (.astore_n 2, 1) := by decide +kernel
theorem dX11_law_66 : decode cX11_law 66 = .ok (.aload_n 0, 1) := by decide +kernel
theorem dX11_law_67 : decode cX11_law 67 = .ok (.aload_n 0, 1) := by decide +kernel
theorem dX11_law_68 : decode cX11_law 68 = .ok (.getfield 38, 3) := by decide +kernel
theorem dX11_law_71 : decode cX11_law 71 = .ok (.putfield 34, 3) := by decide +kernel
theorem dX11_law_74 : decode cX11_law 74 = .ok (.aload_n 0, 1) := by decide +kernel
theorem dX11_law_75 : decode cX11_law 75 = .ok (.aload_n 2, 1) := by decide +kernel
theorem dX11_law_76 : decode cX11_law 76 = .ok (.putfield 38, 3) := by decide +kernel
theorem dX11_law_79 : decode cX11_law 79 = .ok (.aload_n 0, 1) := by decide +kernel
theorem dX11_law_80 : decode cX11_law 80 = .ok (.getfield 34, 3) := by decide +kernel
theorem dX11_law_83 : decode cX11_law 83 = .ok (.getfield 147, 3) := by decide +kernel
theorem dX11_law_86 : decode cX11_law 86 = .ok (.ireturn, 1) := by decide +kernel
theorem dX11_register_0 : decode cX11_register 0 = .ok (.iload_n 1, 1) := by decide +kernel
theorem dX11_register_1 : decode cX11_register 1 = .ok (.iconst 1, 1) := by decide +kernel
theorem dX11_register_2 : decode cX11_register 2 = .ok (.bipush 120, 2) := by decide +kernel
theorem dX11_register_4 : decode cX11_register 4 = .ok (.invokestatic 104, 3) := by decide +kernel
theorem dX11_register_7 : decode cX11_register 7 = .ok (.ifCond .eq 14, 3) := by decide +kernel
theorem dX11_register_10 : decode cX11_register 10 = .ok (.aload_n 0, 1) := by decide +kernel
theorem dX11_register_11 : decode cX11_register 11 = .ok (.getfield 12, 3) := by decide +kernel
theorem dX11_register_14 : decode cX11_register 14 = .ok (.iload_n 1, 1) := by decide +kernel
theorem dX11_register_15 : decode cX11_register 15 = .ok (.invokevirtual 131, 3) := by decide +kernel
theorem dX11_register_18 : decode cX11_register 18 = .ok (.ifCond .ne 5, 3) := by decide +kernel
theorem dX11_register_21 : decode cX11_register 21 = .ok (.iconst (-1), 1) := by decide +kernel
theorem dX11_register_22 : decode cX11_register 22 = .ok (.ireturn, 1) := by decide +kernel
theorem dX11_register_23 : decode cX11_register 23 = .ok (.aload_n 0, 1) := by decide +kernel
theorem dX11_register_24 : decode cX11_register 24 = .ok (.getfield 12, 3) := by decide +kernel
theorem dX11_register_27 : decode cX11_register 27 = .ok (.iload_n 1, 1) := by decide +kernel
theorem dX11_register_28 : decode cX11_register 28 = .ok (.invokevirtual 134, 3) := by decide +kernel
theorem dX11_register_31 : decode cX11_register 31 = .ok (.aload_n 0, 1) := by decide +kernel
theorem dX11_register_32 : decode cX11_register 32 = .ok (.getfield 26, 3) := by decide +kernel
theorem dX11_register_35 : decode cX11_register 35 = .ok (.aload_n 0, 1) := by decide +kernel
theorem dX11_register_36 : decode cX11_register 36 = .ok (.getfield 19, 3) := by decide +kernel
theorem dX11_register_39 : decode cX11_register 39 = .ok (.invokevirtual 150, 3) := by decide +kernel
theorem dX11_register_42 : decode cX11_register 42 = .ok (.aload_n 0, 1) := by decide +kernel
theorem dX11_register_43 : decode cX11_register 43 = .ok (.getfield 64, 3) := by decide +kernel
theorem dX11_register_46 : decode cX11_register 46 = .ok (.aload_n 0, 1) := by decide +kernel
theorem dX11_register_47 : decode cX11_register 47 = .ok (.getfield 26, 3) := by decide +kernel
theorem dX11_register_50 : decode cX11_register 50 = .ok (.invokevirtual 153, 3) := by decide +kernel
theorem dX11_register_53 : decode cX11_register 53 = .ok (.istore_n 2, 1) := by decide +kernel
theorem dX11_register_54 : decode cX11_register 54 = .ok (.aload_n 0, 1) := by decide +kernel
theorem dX11_register_55 : decode cX11_register 55 = .ok (.getfield 12, 3) := by decide +kernel
theorem dX11_register_58 : decode cX11_register 58 = .ok (.invokevirtual 141, 3) := by decide +kernel
theorem dX11_register_61 : decode cX11_register 61 = .ok (.ifCond .eq 11, 3) := by decide +kernel
theorem dX11_register_64 : decode cX11_register 64 = .ok (.aload_n 0, 1) := by decide +kernel
theorem dX11_register_65 : decode cX11_register 65 = .ok (.getfield 12, 3) := by decide +kernel
theorem dX11_register_68 : decode cX11_register 68 = .ok (.getfield 144, 3) := by decide +kernel
theorem dX11_register_71 : decode cX11_register 71 = .ok (.ireturn, 1) := by decide +kernel
theorem dX11_register_72 : decode cX11_register 72 = .ok (.aload_n 0, 1) := by decide +kernel
theorem dX11_register_73 : decode cX11_register 73 = .ok (.getfield 19, 3) := by decide +kernel
theorem dX11_register_76 : decode cX11_register 76 = .ok (.aload_n 0, 1) := by decide +kernel
theorem dX11_register_77 : decode cX11_register 77 = .ok (.getfield 26, 3) := by decide +kernel
theorem dX11_register_80 : decode cX11_register 80 = .ok (.invokevirtual 150, 3) := by decide +kernel
theorem dX11_register_83 : decode cX11_register 83 = .ok (.iload_n 2, 1) := by decide +kernel
theorem dX11_register_84 : decode cX11_register 84 = .ok (.ireturn, 1) := by decide +kernel
theorem dX11_hours_0 : decode cX11_hours 0 = .ok (.iload_n 1, 1) := by decide +kernel
theorem dX11_hours_1 : decode cX11_hours 1 = .ok (.iconst 1, 1) := by decide +kernel
theorem dX11_hours_2 : decode cX11_hours 2 = .ok (.sipush 240, 3) := by decide +kernel
theorem dX11_hours_5 : decode cX11_hours 5 = .ok (.invokestatic 104, 3) := by decide +kernel
theorem dX11_hours_8 : decode cX11_hours 8 = .ok (.ifCond .ne 5, 3) := by decide +kernel
theorem dX11_hours_11 : decode cX11_hours 11 = .ok (.iconst (-1), 1) := by decide +kernel
theorem dX11_hours_12 : decode cX11_hours 12 = .ok (.ireturn, 1) := by decide +kernel
theorem dX11_hours_13 : decode cX11_hours 13 = .ok (.aload_n 0, 1) := by decide +kernel
theorem dX11_hours_14 : decode cX11_hours 14 = .ok (.getfield 46, 3) := by decide +kernel
theorem dX11_hours_17 : decode cX11_hours 17 = .ok (.aload_n 0, 1) := by decide +kernel
theorem dX11_hours_18 : decode cX11_hours 18 = .ok (.getfield 19, 3) := by decide +kernel
theorem dX11_hours_21 : decode cX11_hours 21 = .ok (.aload_n 0, 1) := by decide +kernel
theorem dX11_hours_22 : decode cX11_hours 22 = .ok (.getfield 34, 3) := by decide +kernel
theorem dX11_hours_25 : decode cX11_hours 25 = .ok (.iload_n 1, 1) := by decide +kernel
theorem dX11_hours_26 : decode cX11_hours 26 = .ok (.invokevirtual 156, 3) := by decide +kernel
theorem dX11_hours_29 : decode cX11_hours 29 = .ok (.aload_n 0, 1) := by decide +kernel
theorem dX11_hours_30 : decode cX11_hours 30 = .ok (.getfield 46, 3) := by decide +kernel
theorem dX11_hours_33 : decode cX11_hours 33 = .ok (.getfield 160, 3) := by decide +kernel
theorem dX11_hours_36 : decode cX11_hours 36 = .ok (.ireturn, 1) := by decide +kernel
theorem dX11_tried_0 : decode cX11_tried 0 = .ok (.iload_n 2, 1) := by decide +kernel
theorem dX11_tried_1 : decode cX11_tried 1 = .ok (.bipush 100, 2) := by decide +kernel
theorem dX11_tried_3 : decode cX11_tried 3 = .ok (.isub, 1) := by decide +kernel
theorem dX11_tried_4 : decode cX11_tried 4 = .ok (.invokestatic 100, 3) := by decide +kernel
theorem dX11_tried_7 : decode cX11_tried 7 = .ok (.istore_n 3, 1) := by decide +kernel
theorem dX11_tried_8 : decode cX11_tried 8 = .ok (.iload_n 1, 1) := by decide +kernel
theorem dX11_tried_9 : decode cX11_tried 9 = .ok (.iconst 1, 1) := by decide +kernel
theorem dX11_tried_10 : decode cX11_tried 10 = .ok (.sipush 240, 3) := by decide +kernel
theorem dX11_tried_13 : decode cX11_tried 13 = .ok (.invokestatic 104, 3) := by decide +kernel
theorem dX11_tried_16 : decode cX11_tried 16 = .ok (.ifCond .eq 16, 3) := by decide +kernel
theorem dX11_tried_19 : decode cX11_tried 19 = .ok (.iload_n 2, 1) := by decide +kernel
theorem dX11_tried_20 : decode cX11_tried 20 = .ok (.iconst 0, 1) := by decide +kernel
theorem dX11_tried_21 : decode cX11_tried 21 = .ok (.iconst 3, 1) := by decide +kernel
theorem dX11_tried_22 : decode cX11_tried 22 = .ok (.invokestatic 104, 3) := by decide +kernel
theorem dX11_tried_25 : decode cX11_tried 25 = .ok (.ifCond .ne 9, 3) := by decide +kernel
theorem dX11_tried_28 : decode cX11_tried 28 = .ok (.iload_n 3, 1) := by decide +kernel
theorem dX11_tried_29 : decode cX11_tried 29 = .ok (.ifCond .ne 5, 3) := by decide +kernel
theorem dX11_tried_32 : decode cX11_tried 32 = .ok (.iconst (-1), 1) := by decide +kernel
theorem dX11_tried_33 : decode cX11_tried 33 = .ok (.ireturn, 1) := by decide +kernel
theorem dX11_tried_34 : decode cX11_tried 34 = .ok (.aload_n 0, 1) := by decide +kernel
theorem dX11_tried_35 : decode cX11_tried 35 = .ok (.getfield 26, 3) := by decide +kernel
theorem dX11_tried_38 : decode cX11_tried 38 = .ok (.aload_n 0, 1) := by decide +kernel
theorem dX11_tried_39 : decode cX11_tried 39 = .ok (.getfield 19, 3) := by decide +kernel
theorem dX11_tried_42 : decode cX11_tried 42 = .ok (.invokevirtual 150, 3) := by decide +kernel
theorem dX11_tried_45 : decode cX11_tried 45 = .ok (.aload_n 0, 1) := by decide +kernel
theorem dX11_tried_46 : decode cX11_tried 46 = .ok (.getfield 46, 3) := by decide +kernel
theorem dX11_tried_49 : decode cX11_tried 49 = .ok (.aload_n 0, 1) := by decide +kernel
theorem dX11_tried_50 : decode cX11_tried 50 = .ok (.getfield 26, 3) := by decide +kernel
theorem dX11_tried_53 : decode cX11_tried 53 = .ok (.aload_n 0, 1) := by decide +kernel
theorem dX11_tried_54 : decode cX11_tried 54 = .ok (.getfield 34, 3) := by decide +kernel
theorem dX11_tried_57 : decode cX11_tried 57 = .ok (.iload_n 1, 1) := by decide +kernel
theorem dX11_tried_58 : decode cX11_tried 58 = .ok (.invokevirtual 156, 3) := by decide +kernel
theorem dX11_tried_61 : decode cX11_tried 61 = .ok (.iload_n 2, 1) := by decide +kernel
theorem dX11_tried_62 : decode cX11_tried 62 = .ok (.tableswitch 65 0 3 #[30, 38, 46, 54], 30) := by decide +kernel
theorem dX11_tried_92 : decode cX11_tried 92 = .ok (.aload_n 0, 1) := by decide +kernel
theorem dX11_tried_93 : decode cX11_tried 93 = .ok (.getfield 46, 3) := by decide +kernel
theorem dX11_tried_96 : decode cX11_tried 96 = .ok (.getfield 160, 3) := by decide +kernel
theorem dX11_tried_99 : decode cX11_tried 99 = .ok (.ireturn, 1) := by decide +kernel
theorem dX11_tried_100 : decode cX11_tried 100 = .ok (.aload_n 0, 1) := by decide +kernel
theorem dX11_tried_101 : decode cX11_tried 101 = .ok (.getfield 46, 3) := by decide +kernel
theorem dX11_tried_104 : decode cX11_tried 104 = .ok (.getfield 163, 3) := by decide +kernel
theorem dX11_tried_107 : decode cX11_tried 107 = .ok (.ireturn, 1) := by decide +kernel
theorem dX11_tried_108 : decode cX11_tried 108 = .ok (.aload_n 0, 1) := by decide +kernel
theorem dX11_tried_109 : decode cX11_tried 109 = .ok (.getfield 46, 3) := by decide +kernel
theorem dX11_tried_112 : decode cX11_tried 112 = .ok (.getfield 166, 3) := by decide +kernel
theorem dX11_tried_115 : decode cX11_tried 115 = .ok (.ireturn, 1) := by decide +kernel
theorem dX11_tried_116 : decode cX11_tried 116 = .ok (.aload_n 0, 1) := by decide +kernel
theorem dX11_tried_117 : decode cX11_tried 117 = .ok (.getfield 26, 3) := by decide +kernel
theorem dX11_tried_120 : decode cX11_tried 120 = .ok (.getfield 169, 3) := by decide +kernel
theorem dX11_tried_123 : decode cX11_tried 123 = .ok (.invokestatic 173, 3) := by decide +kernel
theorem dX11_tried_126 : decode cX11_tried 126 = .ok (.ireturn, 1) := by decide +kernel
theorem dX11_tried_127 : decode cX11_tried 127 = .ok (.aload_n 0, 1) := by decide +kernel
theorem dX11_tried_128 : decode cX11_tried 128 = .ok (.getfield 26, 3) := by decide +kernel
theorem dX11_tried_131 : decode cX11_tried 131 = .ok (.getfield 177, 3) := by decide +kernel
theorem dX11_tried_134 : decode cX11_tried 134 = .ok (.iload_n 2, 1) := by decide +kernel
theorem dX11_tried_135 : decode cX11_tried 135 = .ok (.bipush 100, 2) := by decide +kernel
theorem dX11_tried_137 : decode cX11_tried 137 = .ok (.isub, 1) := by decide +kernel
theorem dX11_tried_138 : decode cX11_tried 138 = .ok (.iaload, 1) := by decide +kernel
theorem dX11_tried_139 : decode cX11_tried 139 = .ok (.ireturn, 1) := by decide +kernel
theorem dX11_roomIs_0 : decode cX11_roomIs 0 = .ok (.iload_n 1, 1) := by decide +kernel
theorem dX11_roomIs_1 : decode cX11_roomIs 1 = .ok (.invokestatic 100, 3) := by decide +kernel
theorem dX11_roomIs_4 : decode cX11_roomIs 4 = .ok (.ifCond .ne 5, 3) := by decide +kernel
theorem dX11_roomIs_7 : decode cX11_roomIs 7 = .ok (.iconst (-1), 1) := by decide +kernel
theorem dX11_roomIs_8 : decode cX11_roomIs 8 = .ok (.ireturn, 1) := by decide +kernel
theorem dX11_roomIs_9 : decode cX11_roomIs 9 = .ok (.iload_n 2, 1) := by decide +kernel
theorem dX11_roomIs_10 : decode cX11_roomIs 10 = .ok (.tableswitch 179 0 7 #[46, 72, 89, 106, 116, 126, 136, 153], 46) := by decide +kernel
theorem dX11_roomIs_56 : decode cX11_roomIs 56 = .ok (.aload_n 0, 1) := by decide +kernel
theorem dX11_roomIs_57 : decode cX11_roomIs 57 = .ok (.getfield 19, 3) := by decide +kernel
theorem dX11_roomIs_60 : decode cX11_roomIs 60 = .ok (.iload_n 1, 1) := by decide +kernel
theorem dX11_roomIs_61 : decode cX11_roomIs 61 = .ok (.invokevirtual 180, 3) := by decide +kernel
theorem dX11_roomIs_64 : decode cX11_roomIs 64 = .ok (.ifCond .eq 15, 3) := by decide +kernel
theorem dX11_roomIs_67 : decode cX11_roomIs 67 = .ok (.aload_n 0, 1) := by decide +kernel
theorem dX11_roomIs_68 : decode cX11_roomIs 68 = .ok (.getfield 19, 3) := by decide +kernel
theorem dX11_roomIs_71 : decode cX11_roomIs 71 = .ok (.getfield 169, 3) := by decide +kernel
theorem dX11_roomIs_74 : decode cX11_roomIs 74 = .ok (.iload_n 1, 1) := by decide +kernel
theorem dX11_roomIs_75 : decode cX11_roomIs 75 = .ok (.iaload, 1) := by decide +kernel
theorem dX11_roomIs_76 : decode cX11_roomIs 76 = .ok (.goto 5, 3) := by decide +kernel
theorem dX11_roomIs_79 : decode cX11_roomIs 79 = .ok (.bipush (-2), 2) := by decide +kernel
theorem dX11_roomIs_81 : decode cX11_roomIs 81 = .ok (.ireturn, 1) := by decide +kernel
theorem dX11_roomIs_82 : decode cX11_roomIs 82 = .ok (.aload_n 0, 1) := by decide +kernel
theorem dX11_roomIs_83 : decode cX11_roomIs 83 = .ok (.getfield 19, 3) := by decide +kernel
theorem dX11_roomIs_86 : decode cX11_roomIs 86 = .ok (.iload_n 1, 1) := by decide +kernel
theorem dX11_roomIs_87 : decode cX11_roomIs 87 = .ok (.invokevirtual 180, 3) := by decide +kernel
theorem dX11_roomIs_90 : decode cX11_roomIs 90 = .ok (.ifCond .eq 7, 3) := by decide +kernel
theorem dX11_roomIs_93 : decode cX11_roomIs 93 = .ok (.iconst 1, 1) := by decide +kernel
theorem dX11_roomIs_94 : decode cX11_roomIs 94 = .ok (.goto 4, 3) := by decide +kernel
theorem dX11_roomIs_97 : decode cX11_roomIs 97 = .ok (.iconst 0, 1) := by decide +kernel
theorem dX11_roomIs_98 : decode cX11_roomIs 98 = .ok (.ireturn, 1) := by decide +kernel
theorem dX11_roomIs_99 : decode cX11_roomIs 99 = .ok (.aload_n 0, 1) := by decide +kernel
theorem dX11_roomIs_100 : decode cX11_roomIs 100 = .ok (.getfield 19, 3) := by decide +kernel
theorem dX11_roomIs_103 : decode cX11_roomIs 103 = .ok (.iload_n 1, 1) := by decide +kernel
theorem dX11_roomIs_104 : decode cX11_roomIs 104 = .ok (.invokevirtual 183, 3) := by decide +kernel
theorem dX11_roomIs_107 : decode cX11_roomIs 107 = .ok (.ifCond .eq 7, 3) := by decide +kernel
theorem dX11_roomIs_110 : decode cX11_roomIs 110 = .ok (.iconst 1, 1) := by decide +kernel
theorem dX11_roomIs_111 : decode cX11_roomIs 111 = .ok (.goto 4, 3) := by decide +kernel
theorem dX11_roomIs_114 : decode cX11_roomIs 114 = .ok (.iconst 0, 1) := by decide +kernel
theorem dX11_roomIs_115 : decode cX11_roomIs 115 = .ok (.ireturn, 1) := by decide +kernel
theorem dX11_roomIs_116 : decode cX11_roomIs 116 = .ok (.aload_n 0, 1) := by decide +kernel
theorem dX11_roomIs_117 : decode cX11_roomIs 117 = .ok (.getfield 19, 3) := by decide +kernel
theorem dX11_roomIs_120 : decode cX11_roomIs 120 = .ok (.getfield 186, 3) := by decide +kernel
theorem dX11_roomIs_123 : decode cX11_roomIs 123 = .ok (.iload_n 1, 1) := by decide +kernel
theorem dX11_roomIs_124 : decode cX11_roomIs 124 = .ok (.iaload, 1) := by decide +kernel
theorem dX11_roomIs_125 : decode cX11_roomIs 125 = .ok (.ireturn, 1) := by decide +kernel
theorem dX11_roomIs_126 : decode cX11_roomIs 126 = .ok (.aload_n 0, 1) := by decide +kernel
theorem dX11_roomIs_127 : decode cX11_roomIs 127 = .ok (.getfield 19, 3) := by decide +kernel
theorem dX11_roomIs_130 : decode cX11_roomIs 130 = .ok (.getfield 189, 3) := by decide +kernel
theorem dX11_roomIs_133 : decode cX11_roomIs 133 = .ok (.iload_n 1, 1) := by decide +kernel
theorem dX11_roomIs_134 : decode cX11_roomIs 134 = .ok (.iaload, 1) := by decide +kernel
theorem dX11_roomIs_135 : decode cX11_roomIs 135 = .ok (.ireturn, 1) := by decide +kernel
theorem dX11_roomIs_136 : decode cX11_roomIs 136 = .ok (.aload_n 0, 1) := by decide +kernel
theorem dX11_roomIs_137 : decode cX11_roomIs 137 = .ok (.getfield 19, 3) := by decide +kernel
theorem dX11_roomIs_140 : decode cX11_roomIs 140 = .ok (.getfield 177, 3) := by decide +kernel
theorem dX11_roomIs_143 : decode cX11_roomIs 143 = .ok (.iload_n 1, 1) := by decide +kernel
theorem dX11_roomIs_144 : decode cX11_roomIs 144 = .ok (.iaload, 1) := by decide +kernel
theorem dX11_roomIs_145 : decode cX11_roomIs 145 = .ok (.ireturn, 1) := by decide +kernel
theorem dX11_roomIs_146 : decode cX11_roomIs 146 = .ok (.aload_n 0, 1) := by decide +kernel
theorem dX11_roomIs_147 : decode cX11_roomIs 147 = .ok (.getfield 19, 3) := by decide +kernel
theorem dX11_roomIs_150 : decode cX11_roomIs 150 = .ok (.iload_n 1, 1) := by decide +kernel
theorem dX11_roomIs_151 : decode cX11_roomIs 151 = .ok (.aload_n 0, 1) := by decide +kernel
theorem dX11_roomIs_152 : decode cX11_roomIs 152 = .ok (.getfield 19, 3) := by decide +kernel
theorem dX11_roomIs_155 : decode cX11_roomIs 155 = .ok (.iload_n 1, 1) := by decide +kernel
theorem dX11_roomIs_156 : decode cX11_roomIs 156 = .ok (.invokevirtual 192, 3) := by decide +kernel
theorem dX11_roomIs_159 : decode cX11_roomIs 159 = .ok (.invokevirtual 196, 3) := by decide +kernel
theorem dX11_roomIs_162 : decode cX11_roomIs 162 = .ok (.ireturn, 1) := by decide +kernel
theorem dX11_roomIs_163 : decode cX11_roomIs 163 = .ok (.aload_n 0, 1) := by decide +kernel
theorem dX11_roomIs_164 : decode cX11_roomIs 164 = .ok (.getfield 19, 3) := by decide +kernel
theorem dX11_roomIs_167 : decode cX11_roomIs 167 = .ok (.getfield 177, 3) := by decide +kernel
theorem dX11_roomIs_170 : decode cX11_roomIs 170 = .ok (.iload_n 1, 1) := by decide +kernel
theorem dX11_roomIs_171 : decode cX11_roomIs 171 = .ok (.iaload, 1) := by decide +kernel
theorem dX11_roomIs_172 : decode cX11_roomIs 172 = .ok (.ifCond .ne 8, 3) := by decide +kernel
theorem dX11_roomIs_175 : decode cX11_roomIs 175 = .ok (.bipush (-2), 2) := by decide +kernel
theorem dX11_roomIs_177 : decode cX11_roomIs 177 = .ok (.goto 11, 3) := by decide +kernel
theorem dX11_roomIs_180 : decode cX11_roomIs 180 = .ok (.aload_n 0, 1) := by decide +kernel
theorem dX11_roomIs_181 : decode cX11_roomIs 181 = .ok (.getfield 19, 3) := by decide +kernel
theorem dX11_roomIs_184 : decode cX11_roomIs 184 = .ok (.iload_n 1, 1) := by decide +kernel
theorem dX11_roomIs_185 : decode cX11_roomIs 185 = .ok (.invokevirtual 192, 3) := by decide +kernel
theorem dX11_roomIs_188 : decode cX11_roomIs 188 = .ok (.ireturn, 1) := by decide +kernel
theorem dX11_roomIs_189 : decode cX11_roomIs 189 = .ok (.iconst (-1), 1) := by decide +kernel
theorem dX11_roomIs_190 : decode cX11_roomIs 190 = .ok (.ireturn, 1) := by decide +kernel
theorem dX11_feels_0 : decode cX11_feels 0 = .ok (.iload_n 1, 1) := by decide +kernel
theorem dX11_feels_1 : decode cX11_feels 1 = .ok (.invokestatic 100, 3) := by decide +kernel
theorem dX11_feels_4 : decode cX11_feels 4 = .ok (.ifCond .eq 10, 3) := by decide +kernel
theorem dX11_feels_7 : decode cX11_feels 7 = .ok (.iload_n 2, 1) := by decide +kernel
theorem dX11_feels_8 : decode cX11_feels 8 = .ok (.invokestatic 100, 3) := by decide +kernel
theorem dX11_feels_11 : decode cX11_feels 11 = .ok (.ifCond .ne 5, 3) := by decide +kernel
theorem dX11_feels_14 : decode cX11_feels 14 = .ok (.iconst (-1), 1) := by decide +kernel
theorem dX11_feels_15 : decode cX11_feels 15 = .ok (.ireturn, 1) := by decide +kernel
theorem dX11_feels_16 : decode cX11_feels 16 = .ok (.aload_n 0, 1) := by decide +kernel
theorem dX11_feels_17 : decode cX11_feels 17 = .ok (.getfield 19, 3) := by decide +kernel
theorem dX11_feels_20 : decode cX11_feels 20 = .ok (.iload_n 1, 1) := by decide +kernel
theorem dX11_feels_21 : decode cX11_feels 21 = .ok (.iload_n 2, 1) := by decide +kernel
theorem dX11_feels_22 : decode cX11_feels 22 = .ok (.invokevirtual 196, 3) := by decide +kernel
theorem dX11_feels_25 : decode cX11_feels 25 = .ok (.ireturn, 1) := by decide +kernel
theorem dX11_way_0 : decode cX11_way 0 = .ok (.iload_n 1, 1) := by decide +kernel
theorem dX11_way_1 : decode cX11_way 1 = .ok (.invokestatic 100, 3) := by decide +kernel
theorem dX11_way_4 : decode cX11_way 4 = .ok (.ifCond .ne 5, 3) := by decide +kernel
theorem dX11_way_7 : decode cX11_way 7 = .ok (.iconst (-1), 1) := by decide +kernel
theorem dX11_way_8 : decode cX11_way 8 = .ok (.ireturn, 1) := by decide +kernel
theorem dX11_way_9 : decode cX11_way 9 = .ok (.iload_n 2, 1) := by decide +kernel
theorem dX11_way_10 : decode cX11_way 10 = .ok (.iconst 0, 1) := by decide +kernel
theorem dX11_way_11 : decode cX11_way 11 = .ok (.iconst 5, 1) := by decide +kernel
theorem dX11_way_12 : decode cX11_way 12 = .ok (.iload_n 1, 1) := by decide +kernel
theorem dX11_way_13 : decode cX11_way 13 = .ok (.invokestatic 200, 3) := by decide +kernel
theorem dX11_way_16 : decode cX11_way 16 = .ok (.isub, 1) := by decide +kernel
theorem dX11_way_17 : decode cX11_way 17 = .ok (.invokestatic 104, 3) := by decide +kernel
theorem dX11_way_20 : decode cX11_way 20 = .ok (.ifCond .ne 6, 3) := by decide +kernel
theorem dX11_way_23 : decode cX11_way 23 = .ok (.bipush (-2), 2) := by decide +kernel
theorem dX11_way_25 : decode cX11_way 25 = .ok (.ireturn, 1) := by decide +kernel
theorem dX11_way_26 : decode cX11_way 26 = .ok (.iload_n 1, 1) := by decide +kernel
theorem dX11_way_27 : decode cX11_way 27 = .ok (.istore_n 3, 1) := by decide +kernel
theorem dX11_way_28 : decode cX11_way 28 = .ok (.iconst 0, 1) := by decide +kernel
theorem dX11_way_29 : decode cX11_way 29 = .ok (.istore 4, 2) := by decide +kernel
theorem dX11_way_31 : decode cX11_way 31 = .ok (.iload 4, 2) := by decide +kernel
theorem dX11_way_33 : decode cX11_way 33 = .ok (.iload_n 2, 1) := by decide +kernel
theorem dX11_way_34 : decode cX11_way 34 = .ok (.if_icmp .gt 18, 3) := by decide +kernel
theorem dX11_way_37 : decode cX11_way 37 = .ok (.aload_n 0, 1) := by decide +kernel
theorem dX11_way_38 : decode cX11_way 38 = .ok (.getfield 19, 3) := by decide +kernel
theorem dX11_way_41 : decode cX11_way 41 = .ok (.iload_n 3, 1) := by decide +kernel
theorem dX11_way_42 : decode cX11_way 42 = .ok (.invokevirtual 203, 3) := by decide +kernel
theorem dX11_way_45 : decode cX11_way 45 = .ok (.istore_n 3, 1) := by decide +kernel
theorem dX11_way_46 : decode cX11_way 46 = .ok (.iinc 4 1, 3) := by decide +kernel
theorem dX11_way_49 : decode cX11_way 49 = .ok (.goto (-18), 3) := by decide +kernel
theorem dX11_way_52 : decode cX11_way 52 = .ok (.iload_n 3, 1) := by decide +kernel
theorem dX11_way_53 : decode cX11_way 53 = .ok (.ireturn, 1) := by decide +kernel
theorem dX11_odds_0 : decode cX11_odds 0 = .ok (.iload_n 1, 1) := by decide +kernel
theorem dX11_odds_1 : decode cX11_odds 1 = .ok (.invokestatic 100, 3) := by decide +kernel
theorem dX11_odds_4 : decode cX11_odds 4 = .ok (.ifCond .eq 33, 3) := by decide +kernel
theorem dX11_odds_7 : decode cX11_odds 7 = .ok (.iload_n 2, 1) := by decide +kernel
theorem dX11_odds_8 : decode cX11_odds 8 = .ok (.iconst 0, 1) := by decide +kernel
theorem dX11_odds_9 : decode cX11_odds 9 = .ok (.bipush 24, 2) := by decide +kernel
theorem dX11_odds_11 : decode cX11_odds 11 = .ok (.invokestatic 104, 3) := by decide +kernel
theorem dX11_odds_14 : decode cX11_odds 14 = .ok (.ifCond .eq 23, 3) := by decide +kernel
theorem dX11_odds_17 : decode cX11_odds 17 = .ok (.iload_n 3, 1) := by decide +kernel
theorem dX11_odds_18 : decode cX11_odds 18 = .ok (.iconst 0, 1) := by decide +kernel
theorem dX11_odds_19 : decode cX11_odds 19 = .ok (.bipush 10, 2) := by decide +kernel
theorem dX11_odds_21 : decode cX11_odds 21 = .ok (.invokestatic 104, 3) := by decide +kernel
theorem dX11_odds_24 : decode cX11_odds 24 = .ok (.ifCond .eq 13, 3) := by decide +kernel
theorem dX11_odds_27 : decode cX11_odds 27 = .ok (.iload 4, 2) := by decide +kernel
theorem dX11_odds_29 : decode cX11_odds 29 = .ok (.iconst 0, 1) := by decide +kernel
theorem dX11_odds_30 : decode cX11_odds 30 = .ok (.iconst 1, 1) := by decide +kernel
theorem dX11_odds_31 : decode cX11_odds 31 = .ok (.invokestatic 104, 3) := by decide +kernel
theorem dX11_odds_34 : decode cX11_odds 34 = .ok (.ifCond .ne 5, 3) := by decide +kernel
theorem dX11_odds_37 : decode cX11_odds 37 = .ok (.iconst (-1), 1) := by decide +kernel
theorem dX11_odds_38 : decode cX11_odds 38 = .ok (.ireturn, 1) := by decide +kernel
theorem dX11_odds_39 : decode cX11_odds 39 = .ok (.iconst 1, 1) := by decide +kernel
theorem dX11_odds_40 : decode cX11_odds 40 = .ok (.istore 5, 2) := by decide +kernel
theorem dX11_odds_42 : decode cX11_odds 42 = .ok (.iconst 1, 1) := by decide +kernel
theorem dX11_odds_43 : decode cX11_odds 43 = .ok (.istore 6, 2) := by decide +kernel
theorem dX11_odds_45 : decode cX11_odds 45 = .ok (.iload_n 1, 1) := by decide +kernel
theorem dX11_odds_46 : decode cX11_odds 46 = .ok (.istore 7, 2) := by decide +kernel
theorem dX11_odds_48 : decode cX11_odds 48 = .ok (.iconst 0, 1) := by decide +kernel
theorem dX11_odds_49 : decode cX11_odds 49 = .ok (.istore 8, 2) := by decide +kernel
theorem dX11_odds_51 : decode cX11_odds 51 = .ok (.iload 8, 2) := by decide +kernel
theorem dX11_odds_53 : decode cX11_odds 53 = .ok (.iconst 5, 1) := by decide +kernel
theorem dX11_odds_54 : decode cX11_odds 54 = .ok (.if_icmp .gt 105, 3) := by decide +kernel
theorem dX11_odds_57 : decode cX11_odds 57 = .ok (.iload 7, 2) := by decide +kernel
theorem dX11_odds_59 : decode cX11_odds 59 = .ok (.bipush 24, 2) := by decide +kernel
theorem dX11_odds_61 : decode cX11_odds 61 = .ok (.if_icmp .eq 98, 3) := by decide +kernel
theorem dX11_odds_64 : decode cX11_odds 64 = .ok (.aload_n 0, 1) := by decide +kernel
theorem dX11_odds_65 : decode cX11_odds 65 = .ok (.getfield 19, 3) := by decide +kernel
theorem dX11_odds_68 : decode cX11_odds 68 = .ok (.iload 7, 2) := by decide +kernel
theorem dX11_odds_70 : decode cX11_odds 70 = .ok (.invokevirtual 203, 3) := by decide +kernel
theorem dX11_odds_73 : decode cX11_odds 73 = .ok (.istore 7, 2) := by decide +kernel
theorem dX11_odds_75 : decode cX11_odds 75 = .ok (.aload_n 0, 1) := by decide +kernel
theorem dX11_odds_76 : decode cX11_odds 76 = .ok (.getfield 19, 3) := by decide +kernel
theorem dX11_odds_79 : decode cX11_odds 79 = .ok (.iload 7, 2) := by decide +kernel
theorem dX11_odds_81 : decode cX11_odds 81 = .ok (.invokevirtual 206, 3) := by decide +kernel
theorem dX11_odds_84 : decode cX11_odds 84 = .ok (.istore 9, 2) := by decide +kernel
theorem dX11_odds_86 : decode cX11_odds 86 = .ok (.iload 7, 2) := by decide +kernel
theorem dX11_odds_88 : decode cX11_odds 88 = .ok (.iload_n 2, 1) := by decide +kernel
theorem dX11_odds_89 : decode cX11_odds 89 = .ok (.if_icmp .ne 43, 3) := by decide +kernel
theorem dX11_odds_92 : decode cX11_odds 92 = .ok (.iload 7, 2) := by decide +kernel
theorem dX11_odds_94 : decode cX11_odds 94 = .ok (.bipush 24, 2) := by decide +kernel
theorem dX11_odds_96 : decode cX11_odds 96 = .ok (.if_icmp .ne 8, 3) := by decide +kernel
theorem dX11_odds_99 : decode cX11_odds 99 = .ok (.bipush 10, 2) := by decide +kernel
theorem dX11_odds_101 : decode cX11_odds 101 = .ok (.goto 13, 3) := by decide +kernel
theorem dX11_odds_104 : decode cX11_odds 104 = .ok (.iload 9, 2) := by decide +kernel
theorem dX11_odds_106 : decode cX11_odds 106 = .ok (.ifCond .eq 7, 3) := by decide +kernel
theorem dX11_odds_109 : decode cX11_odds 109 = .ok (.iload_n 3, 1) := by decide +kernel
theorem dX11_odds_110 : decode cX11_odds 110 = .ok (.goto 4, 3) := by decide +kernel
theorem dX11_odds_113 : decode cX11_odds 113 = .ok (.iconst 0, 1) := by decide +kernel
theorem dX11_odds_114 : decode cX11_odds 114 = .ok (.istore 10, 2) := by decide +kernel
theorem dX11_odds_116 : decode cX11_odds 116 = .ok (.iload 5, 2) := by decide +kernel
theorem dX11_odds_118 : decode cX11_odds 118 = .ok (.iload 10, 2) := by decide +kernel
theorem dX11_odds_120 : decode cX11_odds 120 = .ok (.imul, 1) := by decide +kernel
theorem dX11_odds_121 : decode cX11_odds 121 = .ok (.iload 6, 2) := by decide +kernel
theorem dX11_odds_123 : decode cX11_odds 123 = .ok (.bipush 10, 2) := by decide +kernel
theorem dX11_odds_125 : decode cX11_odds 125 = .ok (.imul, 1) := by decide +kernel
theorem dX11_odds_126 : decode cX11_odds 126 = .ok (.iload 4, 2) := by decide +kernel
theorem dX11_odds_128 : decode cX11_odds 128 = .ok (.invokestatic 209, 3) := by decide +kernel
theorem dX11_odds_131 : decode cX11_odds 131 = .ok (.ireturn, 1) := by decide +kernel
theorem dX11_odds_132 : decode cX11_odds 132 = .ok (.iload 9, 2) := by decide +kernel
theorem dX11_odds_134 : decode cX11_odds 134 = .ok (.ifCond .eq 19, 3) := by decide +kernel
theorem dX11_odds_137 : decode cX11_odds 137 = .ok (.iload 5, 2) := by decide +kernel
theorem dX11_odds_139 : decode cX11_odds 139 = .ok (.bipush 10, 2) := by decide +kernel
theorem dX11_odds_141 : decode cX11_odds 141 = .ok (.iload_n 3, 1) := by decide +kernel
theorem dX11_odds_142 : decode cX11_odds 142 = .ok (.isub, 1) := by decide +kernel
theorem dX11_odds_143 : decode cX11_odds 143 = .ok (.imul, 1) := by decide +kernel
theorem dX11_odds_144 : decode cX11_odds 144 = .ok (.istore 5, 2) := by decide +kernel
theorem dX11_odds_146 : decode cX11_odds 146 = .ok (.iload 6, 2) := by decide +kernel
theorem dX11_odds_148 : decode cX11_odds 148 = .ok (.bipush 10, 2) := by decide +kernel
theorem dX11_odds_150 : decode cX11_odds 150 = .ok (.imul, 1) := by decide +kernel
theorem dX11_odds_151 : decode cX11_odds 151 = .ok (.istore 6, 2) := by decide +kernel
theorem dX11_odds_153 : decode cX11_odds 153 = .ok (.iinc 8 1, 3) := by decide +kernel
theorem dX11_odds_156 : decode cX11_odds 156 = .ok (.goto (-105), 3) := by decide +kernel
theorem dX11_odds_159 : decode cX11_odds 159 = .ok (.iconst 0, 1) := by decide +kernel
theorem dX11_odds_160 : decode cX11_odds 160 = .ok (.iconst 1, 1) := by decide +kernel
theorem dX11_odds_161 : decode cX11_odds 161 = .ok (.iload 4, 2) := by decide +kernel
theorem dX11_odds_163 : decode cX11_odds 163 = .ok (.invokestatic 209, 3) := by decide +kernel
theorem dX11_odds_166 : decode cX11_odds 166 = .ok (.ireturn, 1) := by decide +kernel
theorem dX11_fromWhere_0 : decode cX11_fromWhere 0 = .ok (.iload_n 1, 1) := by decide +kernel
theorem dX11_fromWhere_1 : decode cX11_fromWhere 1 = .ok (.invokestatic 100, 3) := by decide +kernel
theorem dX11_fromWhere_4 : decode cX11_fromWhere 4 = .ok (.ifCond .ne 5, 3) := by decide +kernel
theorem dX11_fromWhere_7 : decode cX11_fromWhere 7 = .ok (.iconst (-1), 1) := by decide +kernel
theorem dX11_fromWhere_8 : decode cX11_fromWhere 8 = .ok (.ireturn, 1) := by decide +kernel
theorem dX11_fromWhere_9 : decode cX11_fromWhere 9 = .ok (.iconst 0, 1) := by decide +kernel
theorem dX11_fromWhere_10 : decode cX11_fromWhere 10 = .ok (.istore_n 2, 1) := by decide +kernel
theorem dX11_fromWhere_11 : decode cX11_fromWhere 11 = .ok (.iconst 0, 1) := by decide +kernel
theorem dX11_fromWhere_12 : decode cX11_fromWhere 12 = .ok (.istore_n 3, 1) := by decide +kernel
theorem dX11_fromWhere_13 : decode cX11_fromWhere 13 = .ok (.iload_n 3, 1) := by decide +kernel
theorem dX11_fromWhere_14 : decode cX11_fromWhere 14 = .ok (.bipush 24, 2) := by decide +kernel
theorem dX11_fromWhere_16 : decode cX11_fromWhere 16 = .ok (.if_icmp .ge 36, 3) := by decide +kernel
theorem dX11_fromWhere_19 : decode cX11_fromWhere 19 = .ok (.iload_n 3, 1) := by decide +kernel
theorem dX11_fromWhere_20 : decode cX11_fromWhere 20 = .ok (.iload_n 1, 1) := by decide +kernel
theorem dX11_fromWhere_21 : decode cX11_fromWhere 21 = .ok (.if_icmp .eq 25, 3) := by decide +kernel
theorem dX11_fromWhere_24 : decode cX11_fromWhere 24 = .ok (.aload_n 0, 1) := by decide +kernel
theorem dX11_fromWhere_25 : decode cX11_fromWhere 25 = .ok (.getfield 19, 3) := by decide +kernel
theorem dX11_fromWhere_28 : decode cX11_fromWhere 28 = .ok (.iload_n 3, 1) := by decide +kernel
theorem dX11_fromWhere_29 : decode cX11_fromWhere 29 = .ok (.iload_n 1, 1) := by decide +kernel
theorem dX11_fromWhere_30 : decode cX11_fromWhere 30 = .ok (.invokestatic 200, 3) := by decide +kernel
theorem dX11_fromWhere_33 : decode cX11_fromWhere 33 = .ok (.invokevirtual 213, 3) := by decide +kernel
theorem dX11_fromWhere_36 : decode cX11_fromWhere 36 = .ok (.iload_n 1, 1) := by decide +kernel
theorem dX11_fromWhere_37 : decode cX11_fromWhere 37 = .ok (.if_icmp .ne 9, 3) := by decide +kernel
theorem dX11_fromWhere_40 : decode cX11_fromWhere 40 = .ok (.iload_n 2, 1) := by decide +kernel
theorem dX11_fromWhere_41 : decode cX11_fromWhere 41 = .ok (.iconst 1, 1) := by decide +kernel
theorem dX11_fromWhere_42 : decode cX11_fromWhere 42 = .ok (.iload_n 3, 1) := by decide +kernel
theorem dX11_fromWhere_43 : decode cX11_fromWhere 43 = .ok (.ishl, 1) := by decide +kernel
theorem dX11_fromWhere_44 : decode cX11_fromWhere 44 = .ok (.ior, 1) := by decide +kernel
theorem dX11_fromWhere_45 : decode cX11_fromWhere 45 = .ok (.istore_n 2, 1) := by decide +kernel
theorem dX11_fromWhere_46 : decode cX11_fromWhere 46 = .ok (.iinc 3 1, 3) := by decide +kernel
theorem dX11_fromWhere_49 : decode cX11_fromWhere 49 = .ok (.goto (-36), 3) := by decide +kernel
theorem dX11_fromWhere_52 : decode cX11_fromWhere 52 = .ok (.iload_n 2, 1) := by decide +kernel
theorem dX11_fromWhere_53 : decode cX11_fromWhere 53 = .ok (.ireturn, 1) := by decide +kernel
theorem dX11_meet_0 : decode cX11_meet 0 = .ok (.iload_n 1, 1) := by decide +kernel
theorem dX11_meet_1 : decode cX11_meet 1 = .ok (.invokestatic 100, 3) := by decide +kernel
theorem dX11_meet_4 : decode cX11_meet 4 = .ok (.ifCond .eq 10, 3) := by decide +kernel
theorem dX11_meet_7 : decode cX11_meet 7 = .ok (.iload_n 2, 1) := by decide +kernel
theorem dX11_meet_8 : decode cX11_meet 8 = .ok (.invokestatic 100, 3) := by decide +kernel
theorem dX11_meet_11 : decode cX11_meet 11 = .ok (.ifCond .ne 5, 3) := by decide +kernel
theorem dX11_meet_14 : decode cX11_meet 14 = .ok (.iconst (-1), 1) := by decide +kernel
theorem dX11_meet_15 : decode cX11_meet 15 = .ok (.ireturn, 1) := by decide +kernel
theorem dX11_meet_16 : decode cX11_meet 16 = .ok (.iload_n 1, 1) := by decide +kernel
theorem dX11_meet_17 : decode cX11_meet 17 = .ok (.invokestatic 200, 3) := by decide +kernel
theorem dX11_meet_20 : decode cX11_meet 20 = .ok (.iload_n 2, 1) := by decide +kernel
theorem dX11_meet_21 : decode cX11_meet 21 = .ok (.invokestatic 200, 3) := by decide +kernel
theorem dX11_meet_24 : decode cX11_meet 24 = .ok (.invokestatic 216, 3) := by decide +kernel
theorem dX11_meet_27 : decode cX11_meet 27 = .ok (.istore_n 3, 1) := by decide +kernel
theorem dX11_meet_28 : decode cX11_meet 28 = .ok (.iload_n 3, 1) := by decide +kernel
theorem dX11_meet_29 : decode cX11_meet 29 = .ok (.istore 4, 2) := by decide +kernel
theorem dX11_meet_31 : decode cX11_meet 31 = .ok (.iload 4, 2) := by decide +kernel
theorem dX11_meet_33 : decode cX11_meet 33 = .ok (.iconst 5, 1) := by decide +kernel
theorem dX11_meet_34 : decode cX11_meet 34 = .ok (.if_icmp .gt 39, 3) := by decide +kernel
theorem dX11_meet_37 : decode cX11_meet 37 = .ok (.aload_n 0, 1) := by decide +kernel
theorem dX11_meet_38 : decode cX11_meet 38 = .ok (.getfield 19, 3) := by decide +kernel
theorem dX11_meet_41 : decode cX11_meet 41 = .ok (.iload_n 1, 1) := by decide +kernel
theorem dX11_meet_42 : decode cX11_meet 42 = .ok (.iload 4, 2) := by decide +kernel
theorem dX11_meet_44 : decode cX11_meet 44 = .ok (.invokevirtual 213, 3) := by decide +kernel
theorem dX11_meet_47 : decode cX11_meet 47 = .ok (.istore 5, 2) := by decide +kernel
theorem dX11_meet_49 : decode cX11_meet 49 = .ok (.iload 5, 2) := by decide +kernel
theorem dX11_meet_51 : decode cX11_meet 51 = .ok (.aload_n 0, 1) := by decide +kernel
theorem dX11_meet_52 : decode cX11_meet 52 = .ok (.getfield 19, 3) := by decide +kernel
theorem dX11_meet_55 : decode cX11_meet 55 = .ok (.iload_n 2, 1) := by decide +kernel
theorem dX11_meet_56 : decode cX11_meet 56 = .ok (.iload 4, 2) := by decide +kernel
theorem dX11_meet_58 : decode cX11_meet 58 = .ok (.invokevirtual 213, 3) := by decide +kernel
theorem dX11_meet_61 : decode cX11_meet 61 = .ok (.if_icmp .ne 6, 3) := by decide +kernel
theorem dX11_meet_64 : decode cX11_meet 64 = .ok (.iload 5, 2) := by decide +kernel
theorem dX11_meet_66 : decode cX11_meet 66 = .ok (.ireturn, 1) := by decide +kernel
theorem dX11_meet_67 : decode cX11_meet 67 = .ok (.iinc 4 1, 3) := by decide +kernel
theorem dX11_meet_70 : decode cX11_meet 70 = .ok (.goto (-39), 3) := by decide +kernel
theorem dX11_meet_73 : decode cX11_meet 73 = .ok (.bipush (-2), 2) := by decide +kernel
theorem dX11_meet_75 : decode cX11_meet 75 = .ok (.ireturn, 1) := by decide +kernel
theorem dX11_cowls_0 : decode cX11_cowls 0 = .ok (.iconst 0, 1) := by decide +kernel
theorem dX11_cowls_1 : decode cX11_cowls 1 = .ok (.istore_n 1, 1) := by decide +kernel
theorem dX11_cowls_2 : decode cX11_cowls 2 = .ok (.iconst 0, 1) := by decide +kernel
theorem dX11_cowls_3 : decode cX11_cowls 3 = .ok (.istore_n 2, 1) := by decide +kernel
theorem dX11_cowls_4 : decode cX11_cowls 4 = .ok (.iload_n 2, 1) := by decide +kernel
theorem dX11_cowls_5 : decode cX11_cowls 5 = .ok (.iconst 4, 1) := by decide +kernel
theorem dX11_cowls_6 : decode cX11_cowls 6 = .ok (.if_icmp .ge 23, 3) := by decide +kernel
theorem dX11_cowls_9 : decode cX11_cowls 9 = .ok (.iload_n 1, 1) := by decide +kernel
theorem dX11_cowls_10 : decode cX11_cowls 10 = .ok (.iconst 1, 1) := by decide +kernel
theorem dX11_cowls_11 : decode cX11_cowls 11 = .ok (.aload_n 0, 1) := by decide +kernel
theorem dX11_cowls_12 : decode cX11_cowls 12 = .ok (.getfield 19, 3) := by decide +kernel
theorem dX11_cowls_15 : decode cX11_cowls 15 = .ok (.iload_n 2, 1) := by decide +kernel
theorem dX11_cowls_16 : decode cX11_cowls 16 = .ok (.iconst 5, 1) := by decide +kernel
theorem dX11_cowls_17 : decode cX11_cowls 17 = .ok (.invokevirtual 213, 3) := by decide +kernel
theorem dX11_cowls_20 : decode cX11_cowls 20 = .ok (.ishl, 1) := by decide +kernel
theorem dX11_cowls_21 : decode cX11_cowls 21 = .ok (.ior, 1) := by decide +kernel
theorem dX11_cowls_22 : decode cX11_cowls 22 = .ok (.istore_n 1, 1) := by decide +kernel
theorem dX11_cowls_23 : decode cX11_cowls 23 = .ok (.iinc 2 1, 3) := by decide +kernel
theorem dX11_cowls_26 : decode cX11_cowls 26 = .ok (.goto (-22), 3) := by decide +kernel
theorem dX11_cowls_29 : decode cX11_cowls 29 = .ok (.iload_n 1, 1) := by decide +kernel
theorem dX11_cowls_30 : decode cX11_cowls 30 = .ok (.invokestatic 221, 3) := by decide +kernel
theorem dX11_cowls_33 : decode cX11_cowls 33 = .ok (.ireturn, 1) := by decide +kernel
theorem dX11_turn_0 : decode cX11_turn 0 = .ok (.iload_n 1, 1) := by decide +kernel
theorem dX11_turn_1 : decode cX11_turn 1 = .ok (.iload_n 2, 1) := by decide +kernel
theorem dX11_turn_2 : decode cX11_turn 2 = .ok (.invokestatic 226, 3) := by decide +kernel
theorem dX11_turn_5 : decode cX11_turn 5 = .ok (.ifCond .eq 18, 3) := by decide +kernel
theorem dX11_turn_8 : decode cX11_turn 8 = .ok (.iload_n 3, 1) := by decide +kernel
theorem dX11_turn_9 : decode cX11_turn 9 = .ok (.bipush 100, 2) := by decide +kernel
theorem dX11_turn_11 : decode cX11_turn 11 = .ok (.if_icmp .eq 14, 3) := by decide +kernel
theorem dX11_turn_14 : decode cX11_turn 14 = .ok (.iload_n 3, 1) := by decide +kernel
theorem dX11_turn_15 : decode cX11_turn 15 = .ok (.iconst 0, 1) := by decide +kernel
theorem dX11_turn_16 : decode cX11_turn 16 = .ok (.iconst 4, 1) := by decide +kernel
theorem dX11_turn_17 : decode cX11_turn 17 = .ok (.invokestatic 104, 3) := by decide +kernel
theorem dX11_turn_20 : decode cX11_turn 20 = .ok (.ifCond .ne 5, 3) := by decide +kernel
theorem dX11_turn_23 : decode cX11_turn 23 = .ok (.iconst (-1), 1) := by decide +kernel
theorem dX11_turn_24 : decode cX11_turn 24 = .ok (.ireturn, 1) := by decide +kernel
theorem dX11_turn_25 : decode cX11_turn 25 = .ok (.aload_n 0, 1) := by decide +kernel
theorem dX11_turn_26 : decode cX11_turn 26 = .ok (.getfield 71, 3) := by decide +kernel
theorem dX11_turn_29 : decode cX11_turn 29 = .ok (.aload_n 0, 1) := by decide +kernel
theorem dX11_turn_30 : decode cX11_turn 30 = .ok (.getfield 19, 3) := by decide +kernel
theorem dX11_turn_33 : decode cX11_turn 33 = .ok (.iload_n 1, 1) := by decide +kernel
theorem dX11_turn_34 : decode cX11_turn 34 = .ok (.iload_n 2, 1) := by decide +kernel
theorem dX11_turn_35 : decode cX11_turn 35 = .ok (.iload_n 3, 1) := by decide +kernel
theorem dX11_turn_36 : decode cX11_turn 36 = .ok (.invokevirtual 230, 3) := by decide +kernel
theorem dX11_turn_39 : decode cX11_turn 39 = .ok (.ireturn, 1) := by decide +kernel
theorem dX11_ways_0 : decode cX11_ways 0 = .ok (.iload_n 1, 1) := by decide +kernel
theorem dX11_ways_1 : decode cX11_ways 1 = .ok (.iload_n 2, 1) := by decide +kernel
theorem dX11_ways_2 : decode cX11_ways 2 = .ok (.invokestatic 226, 3) := by decide +kernel
theorem dX11_ways_5 : decode cX11_ways 5 = .ok (.ifCond .ne 5, 3) := by decide +kernel
theorem dX11_ways_8 : decode cX11_ways 8 = .ok (.iconst (-1), 1) := by decide +kernel
theorem dX11_ways_9 : decode cX11_ways 9 = .ok (.ireturn, 1) := by decide +kernel
theorem dX11_ways_10 : decode cX11_ways 10 = .ok (.aload_n 0, 1) := by decide +kernel
theorem dX11_ways_11 : decode cX11_ways 11 = .ok (.getfield 71, 3) := by decide +kernel
theorem dX11_ways_14 : decode cX11_ways 14 = .ok (.iload_n 1, 1) := by decide +kernel
theorem dX11_ways_15 : decode cX11_ways 15 = .ok (.iload_n 2, 1) := by decide +kernel
theorem dX11_ways_16 : decode cX11_ways 16 = .ok (.invokevirtual 234, 3) := by decide +kernel
theorem dX11_ways_19 : decode cX11_ways 19 = .ok (.ireturn, 1) := by decide +kernel
theorem dX11_stockings_0 : decode cX11_stockings 0 = .ok (.iload_n 1, 1) := by decide +kernel
theorem dX11_stockings_1 : decode cX11_stockings 1 = .ok (.iconst 0, 1) := by decide +kernel
theorem dX11_stockings_2 : decode cX11_stockings 2 = .ok (.ldc 237, 2) := by decide +kernel
theorem dX11_stockings_4 : decode cX11_stockings 4 = .ok (.invokestatic 104, 3) := by decide +kernel
theorem dX11_stockings_7 : decode cX11_stockings 7 = .ok (.ifCond .eq 12, 3) := by decide +kernel
theorem dX11_stockings_10 : decode cX11_stockings 10 = .ok (.iload_n 2, 1) := by decide +kernel
theorem dX11_stockings_11 : decode cX11_stockings 11 = .ok (.iconst 0, 1) := by decide +kernel
theorem dX11_stockings_12 : decode cX11_stockings 12 = .ok (.iconst 1, 1) := by decide +kernel
theorem dX11_stockings_13 : decode cX11_stockings 13 = .ok (.invokestatic 104, 3) := by decide +kernel
theorem dX11_stockings_16 : decode cX11_stockings 16 = .ok (.ifCond .ne 5, 3) := by decide +kernel
theorem dX11_stockings_19 : decode cX11_stockings 19 = .ok (.iconst (-1), 1) := by decide +kernel
theorem dX11_stockings_20 : decode cX11_stockings 20 = .ok (.ireturn, 1) := by decide +kernel
theorem dX11_stockings_21 : decode cX11_stockings 21 = .ok (.aload_n 0, 1) := by decide +kernel
theorem dX11_stockings_22 : decode cX11_stockings 22 = .ok (.getfield 71, 3) := by decide +kernel
theorem dX11_stockings_25 : decode cX11_stockings 25 = .ok (.aload_n 0, 1) := by decide +kernel
theorem dX11_stockings_26 : decode cX11_stockings 26 = .ok (.getfield 19, 3) := by decide +kernel
theorem dX11_stockings_29 : decode cX11_stockings 29 = .ok (.iload_n 1, 1) := by decide +kernel
theorem dX11_stockings_30 : decode cX11_stockings 30 = .ok (.invokevirtual 238, 3) := by decide +kernel
theorem dX11_stockings_33 : decode cX11_stockings 33 = .ok (.istore_n 3, 1) := by decide +kernel
theorem dX11_stockings_34 : decode cX11_stockings 34 = .ok (.iload_n 2, 1) := by decide +kernel
theorem dX11_stockings_35 : decode cX11_stockings 35 = .ok (.ifCond .ne 10, 3) := by decide +kernel
theorem dX11_stockings_38 : decode cX11_stockings 38 = .ok (.iload_n 3, 1) := by decide +kernel
theorem dX11_stockings_39 : decode cX11_stockings 39 = .ok (.invokestatic 221, 3) := by decide +kernel
theorem dX11_stockings_42 : decode cX11_stockings 42 = .ok (.goto 4, 3) := by decide +kernel
theorem dX11_stockings_45 : decode cX11_stockings 45 = .ok (.iload_n 3, 1) := by decide +kernel
theorem dX11_stockings_46 : decode cX11_stockings 46 = .ok (.ireturn, 1) := by decide +kernel
theorem dX11_sleep_0 : decode cX11_sleep 0 = .ok (.iload_n 1, 1) := by decide +kernel
theorem dX11_sleep_1 : decode cX11_sleep 1 = .ok (.iconst 1, 1) := by decide +kernel
theorem dX11_sleep_2 : decode cX11_sleep 2 = .ok (.bipush 6, 2) := by decide +kernel
theorem dX11_sleep_4 : decode cX11_sleep 4 = .ok (.invokestatic 104, 3) := by decide +kernel
theorem dX11_sleep_7 : decode cX11_sleep 7 = .ok (.ifCond .eq 21, 3) := by decide +kernel
theorem dX11_sleep_10 : decode cX11_sleep 10 = .ok (.iload_n 2, 1) := by decide +kernel
theorem dX11_sleep_11 : decode cX11_sleep 11 = .ok (.iconst 0, 1) := by decide +kernel
theorem dX11_sleep_12 : decode cX11_sleep 12 = .ok (.ldc 237, 2) := by decide +kernel
theorem dX11_sleep_14 : decode cX11_sleep 14 = .ok (.invokestatic 104, 3) := by decide +kernel
theorem dX11_sleep_17 : decode cX11_sleep 17 = .ok (.ifCond .eq 11, 3) := by decide +kernel
theorem dX11_sleep_20 : decode cX11_sleep 20 = .ok (.iload_n 2, 1) := by decide +kernel
theorem dX11_sleep_21 : decode cX11_sleep 21 = .ok (.invokestatic 221, 3) := by decide +kernel
theorem dX11_sleep_24 : decode cX11_sleep 24 = .ok (.iload_n 1, 1) := by decide +kernel
theorem dX11_sleep_25 : decode cX11_sleep 25 = .ok (.if_icmp .eq 7, 3) := by decide +kernel
theorem dX11_sleep_28 : decode cX11_sleep 28 = .ok (.ldc2_w 242, 3) := by decide +kernel
theorem dX11_sleep_31 : decode cX11_sleep 31 = .ok (.lreturn, 1) := by decide +kernel
theorem dX11_sleep_32 : decode cX11_sleep 32 = .ok (.iload_n 3, 1) := by decide +kernel
theorem dX11_sleep_33 : decode cX11_sleep 33 = .ok (.bipush 100, 2) := by decide +kernel
theorem dX11_sleep_35 : decode cX11_sleep 35 = .ok (.if_icmp .eq 14, 3) := by decide +kernel
theorem dX11_sleep_38 : decode cX11_sleep 38 = .ok (.iload_n 3, 1) := by decide +kernel
theorem dX11_sleep_39 : decode cX11_sleep 39 = .ok (.iconst 0, 1) := by decide +kernel
theorem dX11_sleep_40 : decode cX11_sleep 40 = .ok (.iload_n 1, 1) := by decide +kernel
theorem dX11_sleep_41 : decode cX11_sleep 41 = .ok (.iconst 1, 1) := by decide +kernel
theorem dX11_sleep_42 : decode cX11_sleep 42 = .ok (.isub, 1) := by decide +kernel
theorem dX11_sleep_43 : decode cX11_sleep 43 = .ok (.invokestatic 104, 3) := by decide +kernel
theorem dX11_sleep_46 : decode cX11_sleep 46 = .ok (.ifCond .eq 14, 3) := by decide +kernel
theorem dX11_sleep_49 : decode cX11_sleep 49 = .ok (.aload_n 0, 1) := by decide +kernel
theorem dX11_sleep_50 : decode cX11_sleep 50 = .ok (.getfield 12, 3) := by decide +kernel
theorem dX11_sleep_53 : decode cX11_sleep 53 = .ok (.iload_n 1, 1) := by decide +kernel
theorem dX11_sleep_54 : decode cX11_sleep 54 = .ok (.invokevirtual 131, 3) := by decide +kernel
theorem dX11_sleep_57 : decode cX11_sleep 57 = .ok (.ifCond .ne 7, 3) := by decide +kernel
theorem dX11_sleep_60 : decode cX11_sleep 60 = .ok (.ldc2_w 242, 3) := by decide +kernel
theorem dX11_sleep_63 : decode cX11_sleep 63 = .ok (.lreturn, 1) := by decide +kernel
theorem dX11_sleep_64 : decode cX11_sleep 64 = .ok (.aload_n 0, 1) := by decide +kernel
theorem dX11_sleep_65 : decode cX11_sleep 65 = .ok (.getfield 12, 3) := by decide +kernel
theorem dX11_sleep_68 : decode cX11_sleep 68 = .ok (.iload_n 1, 1) := by decide +kernel
theorem dX11_sleep_69 : decode cX11_sleep 69 = .ok (.invokevirtual 134, 3) := by decide +kernel
theorem dX11_sleep_72 : decode cX11_sleep 72 = .ok (.aload_n 0, 1) := by decide +kernel
theorem dX11_sleep_73 : decode cX11_sleep 73 = .ok (.getfield 85, 3) := by decide +kernel
theorem dX11_sleep_76 : decode cX11_sleep 76 = .ok (.aload_n 0, 1) := by decide +kernel
theorem dX11_sleep_77 : decode cX11_sleep 77 = .ok (.getfield 12, 3) := by decide +kernel
theorem dX11_sleep_80 : decode cX11_sleep 80 = .ok (.iload_n 1, 1) := by decide +kernel
theorem dX11_sleep_81 : decode cX11_sleep 81 = .ok (.aload_n 0, 1) := by decide +kernel
theorem dX11_sleep_82 : decode cX11_sleep 82 = .ok (.getfield 19, 3) := by decide +kernel
theorem dX11_sleep_85 : decode cX11_sleep 85 = .ok (.iload_n 2, 1) := by decide +kernel
theorem dX11_sleep_86 : decode cX11_sleep 86 = .ok (.invokevirtual 244, 3) := by decide +kernel
theorem dX11_sleep_89 : decode cX11_sleep 89 = .ok (.iload_n 3, 1) := by decide +kernel
theorem dX11_sleep_90 : decode cX11_sleep 90 = .ok (.bipush 100, 2) := by decide +kernel
theorem dX11_sleep_92 : decode cX11_sleep 92 = .ok (.if_icmp .ne 13, 3) := by decide +kernel
theorem dX11_sleep_95 : decode cX11_sleep 95 = .ok (.aload_n 0, 1) := by decide +kernel
theorem dX11_sleep_96 : decode cX11_sleep 96 = .ok (.getfield 85, 3) := by decide +kernel
theorem dX11_sleep_99 : decode cX11_sleep 99 = .ok (.getfield 248, 3) := by decide +kernel
theorem dX11_sleep_102 : decode cX11_sleep 102 = .ok (.goto 13, 3) := by decide +kernel
theorem dX11_sleep_105 : decode cX11_sleep 105 = .ok (.aload_n 0, 1) := by decide +kernel
theorem dX11_sleep_106 : decode cX11_sleep 106 = .ok (.getfield 85, 3) := by decide +kernel
theorem dX11_sleep_109 : decode cX11_sleep 109 = .ok (.getfield 252, 3) := by decide +kernel
theorem dX11_sleep_112 : decode cX11_sleep 112 = .ok (.iload_n 3, 1) := by decide +kernel
theorem dX11_sleep_113 : decode cX11_sleep 113 = .ok (.iaload, 1) := by decide +kernel
theorem dX11_sleep_114 : decode cX11_sleep 114 = .ok (.i2l, 1) := by decide +kernel
theorem dX11_sleep_115 : decode cX11_sleep 115 = .ok (.lreturn, 1) := by decide +kernel
theorem dX11_breakfast_0 : decode cX11_breakfast 0 = .ok (.iload_n 1, 1) := by decide +kernel
theorem dX11_breakfast_1 : decode cX11_breakfast 1 = .ok (.bipush 100, 2) := by decide +kernel
theorem dX11_breakfast_3 : decode cX11_breakfast 3 = .ok (.if_icmp .ne 8, 3) := by decide +kernel
theorem dX11_breakfast_6 : decode cX11_breakfast 6 = .ok (.aload_n 0, 1) := by decide +kernel
theorem dX11_breakfast_7 : decode cX11_breakfast 7 = .ok (.invokevirtual 255, 3) := by decide +kernel
theorem dX11_breakfast_10 : decode cX11_breakfast 10 = .ok (.ireturn, 1) := by decide +kernel
theorem dX11_breakfast_11 : decode cX11_breakfast 11 = .ok (.iload_n 1, 1) := by decide +kernel
theorem dX11_breakfast_12 : decode cX11_breakfast 12 = .ok (.invokestatic 100, 3) := by decide +kernel
theorem dX11_breakfast_15 : decode cX11_breakfast 15 = .ok (.ifCond .eq 11, 3) := by decide +kernel
theorem dX11_breakfast_18 : decode cX11_breakfast 18 = .ok (.aload_n 0, 1) := by decide +kernel
theorem dX11_breakfast_19 : decode cX11_breakfast 19 = .ok (.iload_n 1, 1) := by decide +kernel
theorem dX11_breakfast_20 : decode cX11_breakfast 20 = .ok (.invokevirtual 259, 3) := by decide +kernel
theorem dX11_breakfast_23 : decode cX11_breakfast 23 = .ok (.goto 4, 3) := by decide +kernel
theorem dX11_breakfast_26 : decode cX11_breakfast 26 = .ok (.iconst (-1), 1) := by decide +kernel
theorem dX11_breakfast_27 : decode cX11_breakfast 27 = .ok (.ireturn, 1) := by decide +kernel
theorem dX11_ropes_0 : decode cX11_ropes 0 = .ok (.iload_n 1, 1) := by decide +kernel
theorem dX11_ropes_1 : decode cX11_ropes 1 = .ok (.invokestatic 100, 3) := by decide +kernel
theorem dX11_ropes_4 : decode cX11_ropes 4 = .ok (.ifCond .eq 23, 3) := by decide +kernel
theorem dX11_ropes_7 : decode cX11_ropes 7 = .ok (.iload_n 2, 1) := by decide +kernel
theorem dX11_ropes_8 : decode cX11_ropes 8 = .ok (.iconst 0, 1) := by decide +kernel
theorem dX11_ropes_9 : decode cX11_ropes 9 = .ok (.ldc_w 262, 3) := by decide +kernel
theorem dX11_ropes_12 : decode cX11_ropes 12 = .ok (.invokestatic 104, 3) := by decide +kernel
theorem dX11_ropes_15 : decode cX11_ropes 15 = .ok (.ifCond .eq 12, 3) := by decide +kernel
theorem dX11_ropes_18 : decode cX11_ropes 18 = .ok (.iload_n 3, 1) := by decide +kernel
theorem dX11_ropes_19 : decode cX11_ropes 19 = .ok (.iconst 0, 1) := by decide +kernel
theorem dX11_ropes_20 : decode cX11_ropes 20 = .ok (.iconst 1, 1) := by decide +kernel
theorem dX11_ropes_21 : decode cX11_ropes 21 = .ok (.invokestatic 104, 3) := by decide +kernel
theorem dX11_ropes_24 : decode cX11_ropes 24 = .ok (.ifCond .ne 5, 3) := by decide +kernel
theorem dX11_ropes_27 : decode cX11_ropes 27 = .ok (.iconst (-1), 1) := by decide +kernel
theorem dX11_ropes_28 : decode cX11_ropes 28 = .ok (.ireturn, 1) := by decide +kernel
theorem dX11_ropes_29 : decode cX11_ropes 29 = .ok (.aload_n 0, 1) := by decide +kernel
theorem dX11_ropes_30 : decode cX11_ropes 30 = .ok (.getfield 78, 3) := by decide +kernel
theorem dX11_ropes_33 : decode cX11_ropes 33 = .ok (.aload_n 0, 1) := by decide +kernel
theorem dX11_ropes_34 : decode cX11_ropes 34 = .ok (.getfield 19, 3) := by decide +kernel
theorem dX11_ropes_37 : decode cX11_ropes 37 = .ok (.iload_n 1, 1) := by decide +kernel
theorem dX11_ropes_38 : decode cX11_ropes 38 = .ok (.iload_n 2, 1) := by decide +kernel
theorem dX11_ropes_39 : decode cX11_ropes 39 = .ok (.iload_n 3, 1) := by decide +kernel
theorem dX11_ropes_40 : decode cX11_ropes 40 = .ok (.invokevirtual 263, 3) := by decide +kernel
theorem dX11_ropes_43 : decode cX11_ropes 43 = .ok (.ireturn, 1) := by decide +kernel
theorem dX11_taps_0 : decode cX11_taps 0 = .ok (.iload_n 1, 1) := by decide +kernel
theorem dX11_taps_1 : decode cX11_taps 1 = .ok (.iconst 1, 1) := by decide +kernel
theorem dX11_taps_2 : decode cX11_taps 2 = .ok (.bipush 60, 2) := by decide +kernel
theorem dX11_taps_4 : decode cX11_taps 4 = .ok (.invokestatic 104, 3) := by decide +kernel
theorem dX11_taps_7 : decode cX11_taps 7 = .ok (.ifCond .eq 14, 3) := by decide +kernel
theorem dX11_taps_10 : decode cX11_taps 10 = .ok (.aload_n 0, 1) := by decide +kernel
theorem dX11_taps_11 : decode cX11_taps 11 = .ok (.getfield 12, 3) := by decide +kernel
theorem dX11_taps_14 : decode cX11_taps 14 = .ok (.iload_n 1, 1) := by decide +kernel
theorem dX11_taps_15 : decode cX11_taps 15 = .ok (.invokevirtual 131, 3) := by decide +kernel
theorem dX11_taps_18 : decode cX11_taps 18 = .ok (.ifCond .ne 5, 3) := by decide +kernel
theorem dX11_taps_21 : decode cX11_taps 21 = .ok (.iconst (-1), 1) := by decide +kernel
theorem dX11_taps_22 : decode cX11_taps 22 = .ok (.ireturn, 1) := by decide +kernel
theorem dX11_taps_23 : decode cX11_taps 23 = .ok (.iload_n 2, 1) := by decide +kernel
theorem dX11_taps_24 : decode cX11_taps 24 = .ok (.bipush 100, 2) := by decide +kernel
theorem dX11_taps_26 : decode cX11_taps 26 = .ok (.if_icmp .eq 15, 3) := by decide +kernel
theorem dX11_taps_29 : decode cX11_taps 29 = .ok (.iload_n 2, 1) := by decide +kernel
theorem dX11_taps_30 : decode cX11_taps 30 = .ok (.iconst 0, 1) := by decide +kernel
theorem dX11_taps_31 : decode cX11_taps 31 = .ok (.bipush 19, 2) := by decide +kernel
theorem dX11_taps_33 : decode cX11_taps 33 = .ok (.invokestatic 104, 3) := by decide +kernel
theorem dX11_taps_36 : decode cX11_taps 36 = .ok (.ifCond .ne 5, 3) := by decide +kernel
theorem dX11_taps_39 : decode cX11_taps 39 = .ok (.iconst (-1), 1) := by decide +kernel
theorem dX11_taps_40 : decode cX11_taps 40 = .ok (.ireturn, 1) := by decide +kernel
theorem dX11_taps_41 : decode cX11_taps 41 = .ok (.aload_n 0, 1) := by decide +kernel
theorem dX11_taps_42 : decode cX11_taps 42 = .ok (.getfield 12, 3) := by decide +kernel
theorem dX11_taps_45 : decode cX11_taps 45 = .ok (.iload_n 1, 1) := by decide +kernel
theorem dX11_taps_46 : decode cX11_taps 46 = .ok (.invokevirtual 134, 3) := by decide +kernel
theorem dX11_taps_49 : decode cX11_taps 49 = .ok (.aload_n 0, 1) := by decide +kernel
theorem dX11_taps_50 : decode cX11_taps 50 = .ok (.getfield 12, 3) := by decide +kernel
theorem dX11_taps_53 : decode cX11_taps 53 = .ok (.iload_n 2, 1) := by decide +kernel
theorem dX11_taps_54 : decode cX11_taps 54 = .ok (.invokestatic 266, 3) := by decide +kernel
theorem dX11_taps_57 : decode cX11_taps 57 = .ok (.istore_n 3, 1) := by decide +kernel
theorem dX11_taps_58 : decode cX11_taps 58 = .ok (.aload_n 0, 1) := by decide +kernel
theorem dX11_taps_59 : decode cX11_taps 59 = .ok (.getfield 12, 3) := by decide +kernel
theorem dX11_taps_62 : decode cX11_taps 62 = .ok (.invokevirtual 141, 3) := by decide +kernel
theorem dX11_taps_65 : decode cX11_taps 65 = .ok (.ifCond .eq 13, 3) := by decide +kernel
theorem dX11_taps_68 : decode cX11_taps 68 = .ok (.aload_n 0, 1) := by decide +kernel
theorem dX11_taps_69 : decode cX11_taps 69 = .ok (.getfield 12, 3) := by decide +kernel
theorem dX11_taps_72 : decode cX11_taps 72 = .ok (.getfield 144, 3) := by decide +kernel
theorem dX11_taps_75 : decode cX11_taps 75 = .ok (.goto 4, 3) := by decide +kernel
theorem dX11_taps_78 : decode cX11_taps 78 = .ok (.iload_n 3, 1) := by decide +kernel
theorem dX11_taps_79 : decode cX11_taps 79 = .ok (.ireturn, 1) := by decide +kernel
theorem dX11_tapped_0 : decode cX11_tapped 0 = .ok (.iload_n 1, 1) := by decide +kernel
theorem dX11_tapped_1 : decode cX11_tapped 1 = .ok (.iconst 1, 1) := by decide +kernel
theorem dX11_tapped_2 : decode cX11_tapped 2 = .ok (.bipush 40, 2) := by decide +kernel
theorem dX11_tapped_4 : decode cX11_tapped 4 = .ok (.invokestatic 104, 3) := by decide +kernel
theorem dX11_tapped_7 : decode cX11_tapped 7 = .ok (.ifCond .eq 14, 3) := by decide +kernel
theorem dX11_tapped_10 : decode cX11_tapped 10 = .ok (.aload_n 0, 1) := by decide +kernel
theorem dX11_tapped_11 : decode cX11_tapped 11 = .ok (.getfield 12, 3) := by decide +kernel
theorem dX11_tapped_14 : decode cX11_tapped 14 = .ok (.iload_n 1, 1) := by decide +kernel
theorem dX11_tapped_15 : decode cX11_tapped 15 = .ok (.invokevirtual 131, 3) := by decide +kernel
theorem dX11_tapped_18 : decode cX11_tapped 18 = .ok (.ifCond .ne 5, 3) := by decide +kernel
theorem dX11_tapped_21 : decode cX11_tapped 21 = .ok (.iconst (-1), 1) := by decide +kernel
theorem dX11_tapped_22 : decode cX11_tapped 22 = .ok (.ireturn, 1) := by decide +kernel
theorem dX11_tapped_23 : decode cX11_tapped 23 = .ok (.aload_n 0, 1) := by decide +kernel
theorem dX11_tapped_24 : decode cX11_tapped 24 = .ok (.getfield 12, 3) := by decide +kernel
theorem dX11_tapped_27 : decode cX11_tapped 27 = .ok (.iload_n 1, 1) := by decide +kernel
theorem dX11_tapped_28 : decode cX11_tapped 28 = .ok (.invokevirtual 134, 3) := by decide +kernel
theorem dX11_tapped_31 : decode cX11_tapped 31 = .ok (.aload_n 0, 1) := by decide +kernel
theorem dX11_tapped_32 : decode cX11_tapped 32 = .ok (.getfield 12, 3) := by decide +kernel
theorem dX11_tapped_35 : decode cX11_tapped 35 = .ok (.invokestatic 271, 3) := by decide +kernel
theorem dX11_tapped_38 : decode cX11_tapped 38 = .ok (.istore_n 2, 1) := by decide +kernel
theorem dX11_tapped_39 : decode cX11_tapped 39 = .ok (.aload_n 0, 1) := by decide +kernel
theorem dX11_tapped_40 : decode cX11_tapped 40 = .ok (.getfield 12, 3) := by decide +kernel
theorem dX11_tapped_43 : decode cX11_tapped 43 = .ok (.invokevirtual 141, 3) := by decide +kernel
theorem dX11_tapped_46 : decode cX11_tapped 46 = .ok (.ifCond .eq 13, 3) := by decide +kernel
theorem dX11_tapped_49 : decode cX11_tapped 49 = .ok (.aload_n 0, 1) := by decide +kernel
theorem dX11_tapped_50 : decode cX11_tapped 50 = .ok (.getfield 12, 3) := by decide +kernel
theorem dX11_tapped_53 : decode cX11_tapped 53 = .ok (.getfield 144, 3) := by decide +kernel
theorem dX11_tapped_56 : decode cX11_tapped 56 = .ok (.goto 4, 3) := by decide +kernel
theorem dX11_tapped_59 : decode cX11_tapped 59 = .ok (.iload_n 2, 1) := by decide +kernel
theorem dX11_tapped_60 : decode cX11_tapped 60 = .ok (.ireturn, 1) := by decide +kernel
theorem dX11_linen_0 : decode cX11_linen 0 = .ok (.iload_n 1, 1) := by decide +kernel
theorem dX11_linen_1 : decode cX11_linen 1 = .ok (.iconst 1, 1) := by decide +kernel
theorem dX11_linen_2 : decode cX11_linen 2 = .ok (.bipush 24, 2) := by decide +kernel
theorem dX11_linen_4 : decode cX11_linen 4 = .ok (.invokestatic 104, 3) := by decide +kernel
theorem dX11_linen_7 : decode cX11_linen 7 = .ok (.ifCond .eq 25, 3) := by decide +kernel
theorem dX11_linen_10 : decode cX11_linen 10 = .ok (.iload_n 2, 1) := by decide +kernel
theorem dX11_linen_11 : decode cX11_linen 11 = .ok (.iconst 0, 1) := by decide +kernel
theorem dX11_linen_12 : decode cX11_linen 12 = .ok (.ldc_w 275, 3) := by decide +kernel
theorem dX11_linen_15 : decode cX11_linen 15 = .ok (.invokestatic 104, 3) := by decide +kernel
theorem dX11_linen_18 : decode cX11_linen 18 = .ok (.ifCond .eq 14, 3) := by decide +kernel
theorem dX11_linen_21 : decode cX11_linen 21 = .ok (.aload_n 0, 1) := by decide +kernel
theorem dX11_linen_22 : decode cX11_linen 22 = .ok (.getfield 12, 3) := by decide +kernel
theorem dX11_linen_25 : decode cX11_linen 25 = .ok (.iload_n 1, 1) := by decide +kernel
theorem dX11_linen_26 : decode cX11_linen 26 = .ok (.invokevirtual 131, 3) := by decide +kernel
theorem dX11_linen_29 : decode cX11_linen 29 = .ok (.ifCond .ne 5, 3) := by decide +kernel
theorem dX11_linen_32 : decode cX11_linen 32 = .ok (.iconst (-1), 1) := by decide +kernel
theorem dX11_linen_33 : decode cX11_linen 33 = .ok (.ireturn, 1) := by decide +kernel
theorem dX11_linen_34 : decode cX11_linen 34 = .ok (.iload_n 3, 1) := by decide +kernel
theorem dX11_linen_35 : decode cX11_linen 35 = .ok (.bipush 100, 2) := by decide +kernel
theorem dX11_linen_37 : decode cX11_linen 37 = .ok (.if_icmp .eq 22, 3) := by decide +kernel
theorem dX11_linen_40 : decode cX11_linen 40 = .ok (.iload_n 3, 1) := by decide +kernel
theorem dX11_linen_41 : decode cX11_linen 41 = .ok (.bipush 101, 2) := by decide +kernel
theorem dX11_linen_43 : decode cX11_linen 43 = .ok (.if_icmp .eq 16, 3) := by decide +kernel
theorem dX11_linen_46 : decode cX11_linen 46 = .ok (.iload_n 3, 1) := by decide +kernel
theorem dX11_linen_47 : decode cX11_linen 47 = .ok (.iconst 0, 1) := by decide +kernel
theorem dX11_linen_48 : decode cX11_linen 48 = .ok (.iload_n 1, 1) := by decide +kernel
theorem dX11_linen_49 : decode cX11_linen 49 = .ok (.iconst 1, 1) := by decide +kernel
theorem dX11_linen_50 : decode cX11_linen 50 = .ok (.isub, 1) := by decide +kernel
theorem dX11_linen_51 : decode cX11_linen 51 = .ok (.invokestatic 104, 3) := by decide +kernel
theorem dX11_linen_54 : decode cX11_linen 54 = .ok (.ifCond .ne 5, 3) := by decide +kernel
theorem dX11_linen_57 : decode cX11_linen 57 = .ok (.iconst (-1), 1) := by decide +kernel
theorem dX11_linen_58 : decode cX11_linen 58 = .ok (.ireturn, 1) := by decide +kernel
theorem dX11_linen_59 : decode cX11_linen 59 = .ok (.aload_n 0, 1) := by decide +kernel
theorem dX11_linen_60 : decode cX11_linen 60 = .ok (.getfield 12, 3) := by decide +kernel
theorem dX11_linen_63 : decode cX11_linen 63 = .ok (.iload_n 1, 1) := by decide +kernel
theorem dX11_linen_64 : decode cX11_linen 64 = .ok (.invokevirtual 134, 3) := by decide +kernel
theorem dX11_linen_67 : decode cX11_linen 67 = .ok (.aload_n 0, 1) := by decide +kernel
theorem dX11_linen_68 : decode cX11_linen 68 = .ok (.getfield 92, 3) := by decide +kernel
theorem dX11_linen_71 : decode cX11_linen 71 = .ok (.aload_n 0, 1) := by decide +kernel
theorem dX11_linen_72 : decode cX11_linen 72 = .ok (.getfield 12, 3) := by decide +kernel
theorem dX11_linen_75 : decode cX11_linen 75 = .ok (.iload_n 1, 1) := by decide +kernel
theorem dX11_linen_76 : decode cX11_linen 76 = .ok (.invokevirtual 276, 3) := by decide +kernel
theorem dX11_linen_79 : decode cX11_linen 79 = .ok (.ifCond .ne 6, 3) := by decide +kernel
theorem dX11_linen_82 : decode cX11_linen 82 = .ok (.bipush (-2), 2) := by decide +kernel
theorem dX11_linen_84 : decode cX11_linen 84 = .ok (.ireturn, 1) := by decide +kernel
theorem dX11_linen_85 : decode cX11_linen 85 = .ok (.iload_n 3, 1) := by decide +kernel
theorem dX11_linen_86 : decode cX11_linen 86 = .ok (.bipush 100, 2) := by decide +kernel
theorem dX11_linen_88 : decode cX11_linen 88 = .ok (.if_icmp .ne 11, 3) := by decide +kernel
theorem dX11_linen_91 : decode cX11_linen 91 = .ok (.aload_n 0, 1) := by decide +kernel
theorem dX11_linen_92 : decode cX11_linen 92 = .ok (.getfield 92, 3) := by decide +kernel
theorem dX11_linen_95 : decode cX11_linen 95 = .ok (.invokevirtual 280, 3) := by decide +kernel
theorem dX11_linen_98 : decode cX11_linen 98 = .ok (.ireturn, 1) := by decide +kernel
theorem dX11_linen_99 : decode cX11_linen 99 = .ok (.iload_n 3, 1) := by decide +kernel
theorem dX11_linen_100 : decode cX11_linen 100 = .ok (.bipush 101, 2) := by decide +kernel
theorem dX11_linen_102 : decode cX11_linen 102 = .ok (.if_icmp .ne 13, 3) := by decide +kernel
theorem dX11_linen_105 : decode cX11_linen 105 = .ok (.aload_n 0, 1) := by decide +kernel
theorem dX11_linen_106 : decode cX11_linen 106 = .ok (.getfield 92, 3) := by decide +kernel
theorem dX11_linen_109 : decode cX11_linen 109 = .ok (.invokevirtual 283, 3) := by decide +kernel
theorem dX11_linen_112 : decode cX11_linen 112 = .ok (.goto 12, 3) := by decide +kernel
theorem dX11_linen_115 : decode cX11_linen 115 = .ok (.aload_n 0, 1) := by decide +kernel
theorem dX11_linen_116 : decode cX11_linen 116 = .ok (.getfield 92, 3) := by decide +kernel
theorem dX11_linen_119 : decode cX11_linen 119 = .ok (.iload_n 3, 1) := by decide +kernel
theorem dX11_linen_120 : decode cX11_linen 120 = .ok (.iload_n 2, 1) := by decide +kernel
theorem dX11_linen_121 : decode cX11_linen 121 = .ok (.invokevirtual 286, 3) := by decide +kernel
theorem dX11_linen_124 : decode cX11_linen 124 = .ok (.ireturn, 1) := by decide +kernel
theorem dX11_dust_0 : decode cX11_dust 0 = .ok (.iload_n 1, 1) := by decide +kernel
theorem dX11_dust_1 : decode cX11_dust 1 = .ok (.iconst 0, 1) := by decide +kernel
theorem dX11_dust_2 : decode cX11_dust 2 = .ok (.iconst 1, 1) := by decide +kernel
theorem dX11_dust_3 : decode cX11_dust 3 = .ok (.invokestatic 104, 3) := by decide +kernel
theorem dX11_dust_6 : decode cX11_dust 6 = .ok (.ifCond .ne 5, 3) := by decide +kernel
theorem dX11_dust_9 : decode cX11_dust 9 = .ok (.iconst (-1), 1) := by decide +kernel
theorem dX11_dust_10 : decode cX11_dust 10 = .ok (.ireturn, 1) := by decide +kernel
theorem dX11_dust_11 : decode cX11_dust 11 = .ok (.aload_n 0, 1) := by decide +kernel
theorem dX11_dust_12 : decode cX11_dust 12 = .ok (.getfield 19, 3) := by decide +kernel
theorem dX11_dust_15 : decode cX11_dust 15 = .ok (.getfield 289, 3) := by decide +kernel
theorem dX11_dust_18 : decode cX11_dust 18 = .ok (.ifCond .ne 6, 3) := by decide +kernel
theorem dX11_dust_21 : decode cX11_dust 21 = .ok (.bipush (-2), 2) := by decide +kernel
theorem dX11_dust_23 : decode cX11_dust 23 = .ok (.ireturn, 1) := by decide +kernel
theorem dX11_dust_24 : decode cX11_dust 24 = .ok (.iload_n 1, 1) := by decide +kernel
theorem dX11_dust_25 : decode cX11_dust 25 = .ok (.ifCond .ne 10, 3) := by decide +kernel
theorem dX11_dust_28 : decode cX11_dust 28 = .ok (.aload_n 0, 1) := by decide +kernel
theorem dX11_dust_29 : decode cX11_dust 29 = .ok (.invokevirtual 292, 3) := by decide +kernel
theorem dX11_dust_32 : decode cX11_dust 32 = .ok (.goto 7, 3) := by decide +kernel
theorem dX11_dust_35 : decode cX11_dust 35 = .ok (.aload_n 0, 1) := by decide +kernel
theorem dX11_dust_36 : decode cX11_dust 36 = .ok (.invokevirtual 295, 3) := by decide +kernel
theorem dX11_dust_39 : decode cX11_dust 39 = .ok (.ireturn, 1) := by decide +kernel
theorem dX11_seed_0 : decode cX11_seed 0 = .ok (.iload_n 1, 1) := by decide +kernel
theorem dX11_seed_1 : decode cX11_seed 1 = .ok (.iconst 0, 1) := by decide +kernel
theorem dX11_seed_2 : decode cX11_seed 2 = .ok (.ldc_w 298, 3) := by decide +kernel
theorem dX11_seed_5 : decode cX11_seed 5 = .ok (.invokestatic 104, 3) := by decide +kernel
theorem dX11_seed_8 : decode cX11_seed 8 = .ok (.ifCond .ne 5, 3) := by decide +kernel
theorem dX11_seed_11 : decode cX11_seed 11 = .ok (.iconst 0, 1) := by decide +kernel
theorem dX11_seed_12 : decode cX11_seed 12 = .ok (.ireturn, 1) := by decide +kernel
theorem dX11_seed_13 : decode cX11_seed 13 = .ok (.aload_n 0, 1) := by decide +kernel
theorem dX11_seed_14 : decode cX11_seed 14 = .ok (.getfield 19, 3) := by decide +kernel
theorem dX11_seed_17 : decode cX11_seed 17 = .ok (.iload_n 1, 1) := by decide +kernel
theorem dX11_seed_18 : decode cX11_seed 18 = .ok (.putfield 299, 3) := by decide +kernel
theorem dX11_seed_21 : decode cX11_seed 21 = .ok (.iconst 1, 1) := by decide +kernel
theorem dX11_seed_22 : decode cX11_seed 22 = .ok (.ireturn, 1) := by decide +kernel
theorem dX11_keep_0 : decode cX11_keep 0 = .ok (.aload_n 0, 1) := by decide +kernel
theorem dX11_keep_1 : decode cX11_keep 1 = .ok (.getfield 23, 3) := by decide +kernel
theorem dX11_keep_4 : decode cX11_keep 4 = .ok (.aload_n 0, 1) := by decide +kernel
theorem dX11_keep_5 : decode cX11_keep 5 = .ok (.getfield 19, 3) := by decide +kernel
theorem dX11_keep_8 : decode cX11_keep 8 = .ok (.invokevirtual 150, 3) := by decide +kernel
theorem dX11_keep_11 : decode cX11_keep 11 = .ok (.aload_n 0, 1) := by decide +kernel
theorem dX11_keep_12 : decode cX11_keep 12 = .ok (.iconst 1, 1) := by decide +kernel
theorem dX11_keep_13 : decode cX11_keep 13 = .ok (.putfield 96, 3) := by decide +kernel
theorem dX11_keep_16 : decode cX11_keep 16 = .ok (.aload_n 0, 1) := by decide +kernel
theorem dX11_keep_17 : decode cX11_keep 17 = .ok (.getfield 23, 3) := by decide +kernel
theorem dX11_keep_20 : decode cX11_keep 20 = .ok (.getfield 302, 3) := by decide +kernel
theorem dX11_keep_23 : decode cX11_keep 23 = .ok (.ireturn, 1) := by decide +kernel
theorem dX11_undo_0 : decode cX11_undo 0 = .ok (.aload_n 0, 1) := by decide +kernel
theorem dX11_undo_1 : decode cX11_undo 1 = .ok (.getfield 96, 3) := by decide +kernel
theorem dX11_undo_4 : decode cX11_undo 4 = .ok (.ifCond .ne 5, 3) := by decide +kernel
theorem dX11_undo_7 : decode cX11_undo 7 = .ok (.iconst 0, 1) := by decide +kernel
theorem dX11_undo_8 : decode cX11_undo 8 = .ok (.ireturn, 1) := by decide +kernel
theorem dX11_undo_9 : decode cX11_undo 9 = .ok (.aload_n 0, 1) := by decide +kernel
theorem dX11_undo_10 : decode cX11_undo 10 = .ok (.getfield 19, 3) := by decide +kernel
theorem dX11_undo_13 : decode cX11_undo 13 = .ok (.aload_n 0, 1) := by decide +kernel
theorem dX11_undo_14 : decode cX11_undo 14 = .ok (.getfield 23, 3) := by decide +kernel
theorem dX11_undo_17 : decode cX11_undo 17 = .ok (.invokevirtual 150, 3) := by decide +kernel
theorem dX11_undo_20 : decode cX11_undo 20 = .ok (.iconst 1, 1) := by decide +kernel
theorem dX11_undo_21 : decode cX11_undo 21 = .ok (.ireturn, 1) := by decide +kernel
theorem dX11_check_0 : decode cX11_check 0 = .ok (.iload_n 1, 1) := by decide +kernel
theorem dX11_check_1 : decode cX11_check 1 = .ok (.iconst 0, 1) := by decide +kernel
theorem dX11_check_2 : decode cX11_check 2 = .ok (.bipush 24, 2) := by decide +kernel
theorem dX11_check_4 : decode cX11_check 4 = .ok (.invokestatic 104, 3) := by decide +kernel
theorem dX11_check_7 : decode cX11_check 7 = .ok (.ifCond .eq 14, 3) := by decide +kernel
theorem dX11_check_10 : decode cX11_check 10 = .ok (.aload_n 0, 1) := by decide +kernel
theorem dX11_check_11 : decode cX11_check 11 = .ok (.getfield 12, 3) := by decide +kernel
theorem dX11_check_14 : decode cX11_check 14 = .ok (.iload_n 1, 1) := by decide +kernel
theorem dX11_check_15 : decode cX11_check 15 = .ok (.invokevirtual 131, 3) := by decide +kernel
theorem dX11_check_18 : decode cX11_check 18 = .ok (.ifCond .ne 6, 3) := by decide +kernel
theorem dX11_check_21 : decode cX11_check 21 = .ok (.bipush (-2), 2) := by decide +kernel
theorem dX11_check_23 : decode cX11_check 23 = .ok (.ireturn, 1) := by decide +kernel
theorem dX11_check_24 : decode cX11_check 24 = .ok (.aload_n 0, 1) := by decide +kernel
theorem dX11_check_25 : decode cX11_check 25 = .ok (.getfield 12, 3) := by decide +kernel
theorem dX11_check_28 : decode cX11_check 28 = .ok (.iload_n 1, 1) := by decide +kernel
theorem dX11_check_29 : decode cX11_check 29 = .ok (.invokevirtual 134, 3) := by decide +kernel
theorem dX11_check_32 : decode cX11_check 32 = .ok (.iconst 0, 1) := by decide +kernel
theorem dX11_check_33 : decode cX11_check 33 = .ok (.istore_n 2, 1) := by decide +kernel
theorem dX11_check_34 : decode cX11_check 34 = .ok (.iload_n 2, 1) := by decide +kernel
theorem dX11_check_35 : decode cX11_check 35 = .ok (.iload_n 1, 1) := by decide +kernel
theorem dX11_check_36 : decode cX11_check 36 = .ok (.if_icmp .ge 35, 3) := by decide +kernel
theorem dX11_check_39 : decode cX11_check 39 = .ok (.aload_n 0, 1) := by decide +kernel
theorem dX11_check_40 : decode cX11_check 40 = .ok (.getfield 12, 3) := by decide +kernel
theorem dX11_check_43 : decode cX11_check 43 = .ok (.iload_n 2, 1) := by decide +kernel
theorem dX11_check_44 : decode cX11_check 44 = .ok (.invokevirtual 305, 3) := by decide +kernel
theorem dX11_check_47 : decode cX11_check 47 = .ok (.aload_n 0, 1) := by decide +kernel
theorem dX11_check_48 : decode cX11_check 48 = .ok (.getfield 19, 3) := by decide +kernel
theorem dX11_check_51 : decode cX11_check 51 = .ok (.getfield 169, 3) := by decide +kernel
theorem dX11_check_54 : decode cX11_check 54 = .ok (.iload_n 2, 1) := by decide +kernel
theorem dX11_check_55 : decode cX11_check 55 = .ok (.iaload, 1) := by decide +kernel
theorem dX11_check_56 : decode cX11_check 56 = .ok (.sipush 256, 3) := by decide +kernel
theorem dX11_check_59 : decode cX11_check 59 = .ok (.irem, 1) := by decide +kernel
theorem dX11_check_60 : decode cX11_check 60 = .ok (.if_icmp .eq 5, 3) := by decide +kernel
theorem dX11_check_63 : decode cX11_check 63 = .ok (.iload_n 2, 1) := by decide +kernel
theorem dX11_check_64 : decode cX11_check 64 = .ok (.ireturn, 1) := by decide +kernel
theorem dX11_check_65 : decode cX11_check 65 = .ok (.iinc 2 1, 3) := by decide +kernel
theorem dX11_check_68 : decode cX11_check 68 = .ok (.goto (-34), 3) := by decide +kernel
theorem dX11_check_71 : decode cX11_check 71 = .ok (.iconst (-1), 1) := by decide +kernel
theorem dX11_check_72 : decode cX11_check 72 = .ok (.ireturn, 1) := by decide +kernel
theorem dX11_count_0 : decode cX11_count 0 = .ok (.iload_n 1, 1) := by decide +kernel
theorem dX11_count_1 : decode cX11_count 1 = .ok (.tableswitch 129 0 8 #[51, 59, 67, 75, 83, 91, 99, 107, 118], 51) := by decide +kernel
theorem dX11_count_52 : decode cX11_count 52 = .ok (.aload_n 0, 1) := by decide +kernel
theorem dX11_count_53 : decode cX11_count 53 = .ok (.getfield 19, 3) := by decide +kernel
theorem dX11_count_56 : decode cX11_count 56 = .ok (.getfield 302, 3) := by decide +kernel
theorem dX11_count_59 : decode cX11_count 59 = .ok (.ireturn, 1) := by decide +kernel
theorem dX11_count_60 : decode cX11_count 60 = .ok (.aload_n 0, 1) := by decide +kernel
theorem dX11_count_61 : decode cX11_count 61 = .ok (.getfield 19, 3) := by decide +kernel
theorem dX11_count_64 : decode cX11_count 64 = .ok (.getfield 308, 3) := by decide +kernel
theorem dX11_count_67 : decode cX11_count 67 = .ok (.ireturn, 1) := by decide +kernel
theorem dX11_count_68 : decode cX11_count 68 = .ok (.aload_n 0, 1) := by decide +kernel
theorem dX11_count_69 : decode cX11_count 69 = .ok (.getfield 19, 3) := by decide +kernel
theorem dX11_count_72 : decode cX11_count 72 = .ok (.getfield 289, 3) := by decide +kernel
theorem dX11_count_75 : decode cX11_count 75 = .ok (.ireturn, 1) := by decide +kernel
theorem dX11_count_76 : decode cX11_count 76 = .ok (.aload_n 0, 1) := by decide +kernel
theorem dX11_count_77 : decode cX11_count 77 = .ok (.getfield 19, 3) := by decide +kernel
theorem dX11_count_80 : decode cX11_count 80 = .ok (.getfield 311, 3) := by decide +kernel
theorem dX11_count_83 : decode cX11_count 83 = .ok (.ireturn, 1) := by decide +kernel
theorem dX11_count_84 : decode cX11_count 84 = .ok (.aload_n 0, 1) := by decide +kernel
theorem dX11_count_85 : decode cX11_count 85 = .ok (.getfield 34, 3) := by decide +kernel
theorem dX11_count_88 : decode cX11_count 88 = .ok (.getfield 147, 3) := by decide +kernel
theorem dX11_count_91 : decode cX11_count 91 = .ok (.ireturn, 1) := by decide +kernel
theorem dX11_count_92 : decode cX11_count 92 = .ok (.aload_n 0, 1) := by decide +kernel
theorem dX11_count_93 : decode cX11_count 93 = .ok (.getfield 12, 3) := by decide +kernel
theorem dX11_count_96 : decode cX11_count 96 = .ok (.getfield 127, 3) := by decide +kernel
theorem dX11_count_99 : decode cX11_count 99 = .ok (.ireturn, 1) := by decide +kernel
theorem dX11_count_100 : decode cX11_count 100 = .ok (.aload_n 0, 1) := by decide +kernel
theorem dX11_count_101 : decode cX11_count 101 = .ok (.getfield 19, 3) := by decide +kernel
theorem dX11_count_104 : decode cX11_count 104 = .ok (.getfield 299, 3) := by decide +kernel
theorem dX11_count_107 : decode cX11_count 107 = .ok (.ireturn, 1) := by decide +kernel
theorem dX11_count_108 : decode cX11_count 108 = .ok (.aload_n 0, 1) := by decide +kernel
theorem dX11_count_109 : decode cX11_count 109 = .ok (.getfield 19, 3) := by decide +kernel
theorem dX11_count_112 : decode cX11_count 112 = .ok (.getfield 169, 3) := by decide +kernel
theorem dX11_count_115 : decode cX11_count 115 = .ok (.invokestatic 173, 3) := by decide +kernel
theorem dX11_count_118 : decode cX11_count 118 = .ok (.ireturn, 1) := by decide +kernel
theorem dX11_count_119 : decode cX11_count 119 = .ok (.aload_n 0, 1) := by decide +kernel
theorem dX11_count_120 : decode cX11_count 120 = .ok (.getfield 19, 3) := by decide +kernel
theorem dX11_count_123 : decode cX11_count 123 = .ok (.getfield 189, 3) := by decide +kernel
theorem dX11_count_126 : decode cX11_count 126 = .ok (.invokestatic 173, 3) := by decide +kernel
theorem dX11_count_129 : decode cX11_count 129 = .ok (.ireturn, 1) := by decide +kernel
theorem dX11_count_130 : decode cX11_count 130 = .ok (.iconst (-1), 1) := by decide +kernel
theorem dX11_count_131 : decode cX11_count 131 = .ok (.ireturn, 1) := by decide +kernel
theorem dX11_roomThatFeelsMost_0 : decode cX11_roomThatFeelsMost 0 = .ok (.iconst 0, 1) := by decide +kernel
theorem dX11_roomThatFeelsMost_1 : decode cX11_roomThatFeelsMost 1 = .ok (.istore_n 1, 1) := by decide +kernel
theorem dX11_roomThatFeelsMost_2 : decode cX11_roomThatFeelsMost 2 = .ok (.iconst 1, 1) := by decide +kernel
theorem dX11_roomThatFeelsMost_3 : decode cX11_roomThatFeelsMost 3 = .ok (.istore_n 2, 1) := by decide +kernel
theorem dX11_roomThatFeelsMost_4 : decode cX11_roomThatFeelsMost 4 = .ok (.iload_n 2, 1) := by decide +kernel
theorem dX11_roomThatFeelsMost_5 : decode cX11_roomThatFeelsMost 5 = .ok (.bipush 24, 2) := by decide +kernel
theorem dX11_roomThatFeelsMost_7 : decode cX11_roomThatFeelsMost 7 = .ok (.if_icmp .ge 32, 3) := by decide +kernel
theorem dX11_roomThatFeelsMost_10 : decode cX11_roomThatFeelsMost 10 = .ok (.aload_n 0, 1) := by decide +kernel
theorem dX11_roomThatFeelsMost_11 : decode cX11_roomThatFeelsMost 11 = .ok (.getfield 19, 3) := by decide +kernel
theorem dX11_roomThatFeelsMost_14 : decode cX11_roomThatFeelsMost 14 = .ok (.getfield 177, 3) := by decide +kernel
theorem dX11_roomThatFeelsMost_17 : decode cX11_roomThatFeelsMost 17 = .ok (.iload_n 2, 1) := by decide +kernel
theorem dX11_roomThatFeelsMost_18 : decode cX11_roomThatFeelsMost 18 = .ok (.iaload, 1) := by decide +kernel
theorem dX11_roomThatFeelsMost_19 : decode cX11_roomThatFeelsMost 19 = .ok (.aload_n 0, 1) := by decide +kernel
theorem dX11_roomThatFeelsMost_20 : decode cX11_roomThatFeelsMost 20 = .ok (.getfield 19, 3) := by decide +kernel
theorem dX11_roomThatFeelsMost_23 : decode cX11_roomThatFeelsMost 23 = .ok (.getfield 177, 3) := by decide +kernel
theorem dX11_roomThatFeelsMost_26 : decode cX11_roomThatFeelsMost 26 = .ok (.iload_n 1, 1) := by decide +kernel
theorem dX11_roomThatFeelsMost_27 : decode cX11_roomThatFeelsMost 27 = .ok (.iaload, 1) := by decide +kernel
theorem dX11_roomThatFeelsMost_28 : decode cX11_roomThatFeelsMost 28 = .ok (.if_icmp .le 5, 3) := by decide +kernel
theorem dX11_roomThatFeelsMost_31 : decode cX11_roomThatFeelsMost 31 = .ok (.iload_n 2, 1) := by decide +kernel
theorem dX11_roomThatFeelsMost_32 : decode cX11_roomThatFeelsMost 32 = .ok (.istore_n 1, 1) := by decide +kernel
theorem dX11_roomThatFeelsMost_33 : decode cX11_roomThatFeelsMost 33 = .ok (.iinc 2 1, 3) := by decide +kernel
theorem dX11_roomThatFeelsMost_36 : decode cX11_roomThatFeelsMost 36 = .ok (.goto (-32), 3) := by decide +kernel
theorem dX11_roomThatFeelsMost_39 : decode cX11_roomThatFeelsMost 39 = .ok (.aload_n 0, 1) := by decide +kernel
theorem dX11_roomThatFeelsMost_40 : decode cX11_roomThatFeelsMost 40 = .ok (.getfield 19, 3) := by decide +kernel
theorem dX11_roomThatFeelsMost_43 : decode cX11_roomThatFeelsMost 43 = .ok (.getfield 177, 3) := by decide +kernel
theorem dX11_roomThatFeelsMost_46 : decode cX11_roomThatFeelsMost 46 = .ok (.iload_n 1, 1) := by decide +kernel
theorem dX11_roomThatFeelsMost_47 : decode cX11_roomThatFeelsMost 47 = .ok (.iaload, 1) := by decide +kernel
theorem dX11_roomThatFeelsMost_48 : decode cX11_roomThatFeelsMost 48 = .ok (.ifCond .ne 8, 3) := by decide +kernel
theorem dX11_roomThatFeelsMost_51 : decode cX11_roomThatFeelsMost 51 = .ok (.bipush (-2), 2) := by decide +kernel
theorem dX11_roomThatFeelsMost_53 : decode cX11_roomThatFeelsMost 53 = .ok (.goto 4, 3) := by decide +kernel
theorem dX11_roomThatFeelsMost_56 : decode cX11_roomThatFeelsMost 56 = .ok (.iload_n 1, 1) := by decide +kernel
theorem dX11_roomThatFeelsMost_57 : decode cX11_roomThatFeelsMost 57 = .ok (.ireturn, 1) := by decide +kernel
theorem dX11_roomsThatFeel_0 : decode cX11_roomsThatFeel 0 = .ok (.iconst 0, 1) := by decide +kernel
theorem dX11_roomsThatFeel_1 : decode cX11_roomsThatFeel 1 = .ok (.istore_n 2, 1) := by decide +kernel
theorem dX11_roomsThatFeel_2 : decode cX11_roomsThatFeel 2 = .ok (.iconst 0, 1) := by decide +kernel
theorem dX11_roomsThatFeel_3 : decode cX11_roomsThatFeel 3 = .ok (.istore_n 3, 1) := by decide +kernel
theorem dX11_roomsThatFeel_4 : decode cX11_roomsThatFeel 4 = .ok (.iload_n 3, 1) := by decide +kernel
theorem dX11_roomsThatFeel_5 : decode cX11_roomsThatFeel 5 = .ok (.bipush 24, 2) := by decide +kernel
theorem dX11_roomsThatFeel_7 : decode cX11_roomsThatFeel 7 = .ok (.if_icmp .ge 27, 3) := by decide +kernel
theorem dX11_roomsThatFeel_10 : decode cX11_roomsThatFeel 10 = .ok (.aload_n 0, 1) := by decide +kernel
theorem dX11_roomsThatFeel_11 : decode cX11_roomsThatFeel 11 = .ok (.getfield 19, 3) := by decide +kernel
theorem dX11_roomsThatFeel_14 : decode cX11_roomsThatFeel 14 = .ok (.iload_n 3, 1) := by decide +kernel
theorem dX11_roomsThatFeel_15 : decode cX11_roomsThatFeel 15 = .ok (.iload_n 1, 1) := by decide +kernel
theorem dX11_roomsThatFeel_16 : decode cX11_roomsThatFeel 16 = .ok (.invokevirtual 196, 3) := by decide +kernel
theorem dX11_roomsThatFeel_19 : decode cX11_roomsThatFeel 19 = .ok (.ifCond .le 9, 3) := by decide +kernel
theorem dX11_roomsThatFeel_22 : decode cX11_roomsThatFeel 22 = .ok (.iload_n 2, 1) := by decide +kernel
theorem dX11_roomsThatFeel_23 : decode cX11_roomsThatFeel 23 = .ok (.iconst 1, 1) := by decide +kernel
theorem dX11_roomsThatFeel_24 : decode cX11_roomsThatFeel 24 = .ok (.iload_n 3, 1) := by decide +kernel
theorem dX11_roomsThatFeel_25 : decode cX11_roomsThatFeel 25 = .ok (.ishl, 1) := by decide +kernel
theorem dX11_roomsThatFeel_26 : decode cX11_roomsThatFeel 26 = .ok (.ior, 1) := by decide +kernel
theorem dX11_roomsThatFeel_27 : decode cX11_roomsThatFeel 27 = .ok (.istore_n 2, 1) := by decide +kernel
theorem dX11_roomsThatFeel_28 : decode cX11_roomsThatFeel 28 = .ok (.iinc 3 1, 3) := by decide +kernel
theorem dX11_roomsThatFeel_31 : decode cX11_roomsThatFeel 31 = .ok (.goto (-27), 3) := by decide +kernel
theorem dX11_roomsThatFeel_34 : decode cX11_roomsThatFeel 34 = .ok (.iload_n 2, 1) := by decide +kernel
theorem dX11_roomsThatFeel_35 : decode cX11_roomsThatFeel 35 = .ok (.ireturn, 1) := by decide +kernel
theorem dX11_guestWhoFeelsLeast_0 : decode cX11_guestWhoFeelsLeast 0 = .ok (.bipush (-2), 2) := by decide +kernel
theorem dX11_guestWhoFeelsLeast_2 : decode cX11_guestWhoFeelsLeast 2 = .ok (.istore_n 1, 1) := by decide +kernel
theorem dX11_guestWhoFeelsLeast_3 : decode cX11_guestWhoFeelsLeast 3 = .ok (.iconst 0, 1) := by decide +kernel
theorem dX11_guestWhoFeelsLeast_4 : decode cX11_guestWhoFeelsLeast 4 = .ok (.istore_n 2, 1) := by decide +kernel
theorem dX11_guestWhoFeelsLeast_5 : decode cX11_guestWhoFeelsLeast 5 = .ok (.iload_n 2, 1) := by decide +kernel
theorem dX11_guestWhoFeelsLeast_6 : decode cX11_guestWhoFeelsLeast 6 = .ok (.bipush 24, 2) := by decide +kernel
theorem dX11_guestWhoFeelsLeast_8 : decode cX11_guestWhoFeelsLeast 8 = .ok (.if_icmp .ge 47, 3) := by decide +kernel
theorem dX11_guestWhoFeelsLeast_11 : decode cX11_guestWhoFeelsLeast 11 = .ok (.aload_n 0, 1) := by decide +kernel
theorem dX11_guestWhoFeelsLeast_12 : decode cX11_guestWhoFeelsLeast 12 = .ok (.getfield 19, 3) := by decide +kernel
theorem dX11_guestWhoFeelsLeast_15 : decode cX11_guestWhoFeelsLeast 15 = .ok (.iload_n 2, 1) := by decide +kernel
theorem dX11_guestWhoFeelsLeast_16 : decode cX11_guestWhoFeelsLeast 16 = .ok (.invokevirtual 180, 3) := by decide +kernel
theorem dX11_guestWhoFeelsLeast_19 : decode cX11_guestWhoFeelsLeast 19 = .ok (.ifCond .eq 30, 3) := by decide +kernel
theorem dX11_guestWhoFeelsLeast_22 : decode cX11_guestWhoFeelsLeast 22 = .ok (.iload_n 1, 1) := by decide +kernel
theorem dX11_guestWhoFeelsLeast_23 : decode cX11_guestWhoFeelsLeast 23 = .ok (.ifCond .lt 24, 3) := by decide +kernel
theorem dX11_guestWhoFeelsLeast_26 : decode cX11_guestWhoFeelsLeast 26 = .ok (.aload_n 0, 1) := by decide +kernel
theorem dX11_guestWhoFeelsLeast_27 : decode cX11_guestWhoFeelsLeast 27 = .ok (.getfield 19, 3) := by decide +kernel
theorem dX11_guestWhoFeelsLeast_30 : decode cX11_guestWhoFeelsLeast 30 = .ok (.getfield 177, 3) := by decide +kernel
theorem dX11_guestWhoFeelsLeast_33 : decode cX11_guestWhoFeelsLeast 33 = .ok (.iload_n 2, 1) := by decide +kernel
theorem dX11_guestWhoFeelsLeast_34 : decode cX11_guestWhoFeelsLeast 34 = .ok (.iaload, 1) := by decide +kernel
theorem dX11_guestWhoFeelsLeast_35 : decode cX11_guestWhoFeelsLeast 35 = .ok (.aload_n 0, 1) := by decide +kernel
theorem dX11_guestWhoFeelsLeast_36 : decode cX11_guestWhoFeelsLeast 36 = .ok (.getfield 19, 3) := by decide +kernel
theorem dX11_guestWhoFeelsLeast_39 : decode cX11_guestWhoFeelsLeast 39 = .ok (.getfield 177, 3) := by decide +kernel
theorem dX11_guestWhoFeelsLeast_42 : decode cX11_guestWhoFeelsLeast 42 = .ok (.iload_n 1, 1) := by decide +kernel
theorem dX11_guestWhoFeelsLeast_43 : decode cX11_guestWhoFeelsLeast 43 = .ok (.iaload, 1) := by decide +kernel
theorem dX11_guestWhoFeelsLeast_44 : decode cX11_guestWhoFeelsLeast 44 = .ok (.if_icmp .ge 5, 3) := by decide +kernel
theorem dX11_guestWhoFeelsLeast_47 : decode cX11_guestWhoFeelsLeast 47 = .ok (.iload_n 2, 1) := by decide +kernel
theorem dX11_guestWhoFeelsLeast_48 : decode cX11_guestWhoFeelsLeast 48 = .ok (.istore_n 1, 1) := by decide +kernel
theorem dX11_guestWhoFeelsLeast_49 : decode cX11_guestWhoFeelsLeast 49 = .ok (.iinc 2 1, 3) := by decide +kernel
theorem dX11_guestWhoFeelsLeast_52 : decode cX11_guestWhoFeelsLeast 52 = .ok (.goto (-47), 3) := by decide +kernel
theorem dX11_guestWhoFeelsLeast_55 : decode cX11_guestWhoFeelsLeast 55 = .ok (.iload_n 1, 1) := by decide +kernel
theorem dX11_guestWhoFeelsLeast_56 : decode cX11_guestWhoFeelsLeast 56 = .ok (.ireturn, 1) := by decide +kernel
theorem dX11_medianFelt_0 : decode cX11_medianFelt 0 = .ok (.aload_n 0, 1) := by decide +kernel
theorem dX11_medianFelt_1 : decode cX11_medianFelt 1 = .ok (.getfield 19, 3) := by decide +kernel
theorem dX11_medianFelt_4 : decode cX11_medianFelt 4 = .ok (.getfield 289, 3) := by decide +kernel
theorem dX11_medianFelt_7 : decode cX11_medianFelt 7 = .ok (.invokestatic 221, 3) := by decide +kernel
theorem dX11_medianFelt_10 : decode cX11_medianFelt 10 = .ok (.iconst 1, 1) := by decide +kernel
theorem dX11_medianFelt_11 : decode cX11_medianFelt 11 = .ok (.isub, 1) := by decide +kernel
theorem dX11_medianFelt_12 : decode cX11_medianFelt 12 = .ok (.iconst 2, 1) := by decide +kernel
theorem dX11_medianFelt_13 : decode cX11_medianFelt 13 = .ok (.idiv, 1) := by decide +kernel
theorem dX11_medianFelt_14 : decode cX11_medianFelt 14 = .ok (.istore_n 1, 1) := by decide +kernel
theorem dX11_medianFelt_15 : decode cX11_medianFelt 15 = .ok (.iconst 0, 1) := by decide +kernel
theorem dX11_medianFelt_16 : decode cX11_medianFelt 16 = .ok (.istore_n 2, 1) := by decide +kernel
theorem dX11_medianFelt_17 : decode cX11_medianFelt 17 = .ok (.iload_n 2, 1) := by decide +kernel
theorem dX11_medianFelt_18 : decode cX11_medianFelt 18 = .ok (.bipush 24, 2) := by decide +kernel
theorem dX11_medianFelt_20 : decode cX11_medianFelt 20 = .ok (.if_icmp .ge 72, 3) := by decide +kernel
theorem dX11_medianFelt_23 : decode cX11_medianFelt 23 = .ok (.aload_n 0, 1) := by decide +kernel
theorem dX11_medianFelt_24 : decode cX11_medianFelt 24 = .ok (.getfield 19, 3) := by decide +kernel
theorem dX11_medianFelt_27 : decode cX11_medianFelt 27 = .ok (.iload_n 2, 1) := by decide +kernel
theorem dX11_medianFelt_28 : decode cX11_medianFelt 28 = .ok (.invokevirtual 180, 3) := by decide +kernel
theorem dX11_medianFelt_31 : decode cX11_medianFelt 31 = .ok (.ifCond .eq 55, 3) := by decide +kernel
theorem dX11_medianFelt_34 : decode cX11_medianFelt 34 = .ok (.aload_n 0, 1) := by decide +kernel
theorem dX11_medianFelt_35 : decode cX11_medianFelt 35 = .ok (.aload_n 0, 1) := by decide +kernel
theorem dX11_medianFelt_36 : decode cX11_medianFelt 36 = .ok (.getfield 19, 3) := by decide +kernel
theorem dX11_medianFelt_39 : decode cX11_medianFelt 39 = .ok (.getfield 177, 3) := by decide +kernel
theorem dX11_medianFelt_42 : decode cX11_medianFelt 42 = .ok (.iload_n 2, 1) := by decide +kernel
theorem dX11_medianFelt_43 : decode cX11_medianFelt 43 = .ok (.iaload, 1) := by decide +kernel
theorem dX11_medianFelt_44 : decode cX11_medianFelt 44 = .ok (.invokevirtual 314, 3) := by decide +kernel
theorem dX11_medianFelt_47 : decode cX11_medianFelt 47 = .ok (.istore_n 3, 1) := by decide +kernel
theorem dX11_medianFelt_48 : decode cX11_medianFelt 48 = .ok (.aload_n 0, 1) := by decide +kernel
theorem dX11_medianFelt_49 : decode cX11_medianFelt 49 = .ok (.aload_n 0, 1) := by decide +kernel
theorem dX11_medianFelt_50 : decode cX11_medianFelt 50 = .ok (.getfield 19, 3) := by decide +kernel
theorem dX11_medianFelt_53 : decode cX11_medianFelt 53 = .ok (.getfield 177, 3) := by decide +kernel
theorem dX11_medianFelt_56 : decode cX11_medianFelt 56 = .ok (.iload_n 2, 1) := by decide +kernel
theorem dX11_medianFelt_57 : decode cX11_medianFelt 57 = .ok (.iaload, 1) := by decide +kernel
theorem dX11_medianFelt_58 : decode cX11_medianFelt 58 = .ok (.iconst 1, 1) := by decide +kernel
theorem dX11_medianFelt_59 : decode cX11_medianFelt 59 = .ok (.iadd, 1) := by decide +kernel
theorem dX11_medianFelt_60 : decode cX11_medianFelt 60 = .ok (.invokevirtual 314, 3) := by decide +kernel
theorem dX11_medianFelt_63 : decode cX11_medianFelt 63 = .ok (.istore 4, 2) := by decide +kernel
theorem dX11_medianFelt_65 : decode cX11_medianFelt 65 = .ok (.iload_n 3, 1) := by decide +kernel
theorem dX11_medianFelt_66 : decode cX11_medianFelt 66 = .ok (.iload_n 1, 1) := by decide +kernel
theorem dX11_medianFelt_67 : decode cX11_medianFelt 67 = .ok (.if_icmp .gt 19, 3) := by decide +kernel
theorem dX11_medianFelt_70 : decode cX11_medianFelt 70 = .ok (.iload_n 1, 1) := by decide +kernel
theorem dX11_medianFelt_71 : decode cX11_medianFelt 71 = .ok (.iload 4, 2) := by decide +kernel
theorem dX11_medianFelt_73 : decode cX11_medianFelt 73 = .ok (.if_icmp .ge 13, 3) := by decide +kernel
theorem dX11_medianFelt_76 : decode cX11_medianFelt 76 = .ok (.aload_n 0, 1) := by decide +kernel
theorem dX11_medianFelt_77 : decode cX11_medianFelt 77 = .ok (.getfield 19, 3) := by decide +kernel
theorem dX11_medianFelt_80 : decode cX11_medianFelt 80 = .ok (.getfield 177, 3) := by decide +kernel
theorem dX11_medianFelt_83 : decode cX11_medianFelt 83 = .ok (.iload_n 2, 1) := by decide +kernel
theorem dX11_medianFelt_84 : decode cX11_medianFelt 84 = .ok (.iaload, 1) := by decide +kernel
theorem dX11_medianFelt_85 : decode cX11_medianFelt 85 = .ok (.ireturn, 1) := by decide +kernel
theorem dX11_medianFelt_86 : decode cX11_medianFelt 86 = .ok (.iinc 2 1, 3) := by decide +kernel
theorem dX11_medianFelt_89 : decode cX11_medianFelt 89 = .ok (.goto (-72), 3) := by decide +kernel
theorem dX11_medianFelt_92 : decode cX11_medianFelt 92 = .ok (.bipush (-2), 2) := by decide +kernel
theorem dX11_medianFelt_94 : decode cX11_medianFelt 94 = .ok (.ireturn, 1) := by decide +kernel
theorem dX11_guestsWhoFeelLessThan_0 : decode cX11_guestsWhoFeelLessThan 0 = .ok (.iconst 0, 1) := by decide +kernel
theorem dX11_guestsWhoFeelLessThan_1 : decode cX11_guestsWhoFeelLessThan 1 = .ok (.istore_n 2, 1) := by decide +kernel
theorem dX11_guestsWhoFeelLessThan_2 : decode cX11_guestsWhoFeelLessThan 2 = .ok (.iconst 0, 1) := by decide +kernel
theorem dX11_guestsWhoFeelLessThan_3 : decode cX11_guestsWhoFeelLessThan 3 = .ok (.istore_n 3, 1) := by decide +kernel
theorem dX11_guestsWhoFeelLessThan_4 : decode cX11_guestsWhoFeelLessThan 4 = .ok (.iload_n 3, 1) := by decide +kernel
theorem dX11_guestsWhoFeelLessThan_5 : decode cX11_guestsWhoFeelLessThan 5 = .ok (.bipush 24, 2) := by decide +kernel
theorem dX11_guestsWhoFeelLessThan_7 : decode cX11_guestsWhoFeelLessThan 7 = .ok (.if_icmp .ge 36, 3) := by decide +kernel
theorem dX11_guestsWhoFeelLessThan_10 : decode cX11_guestsWhoFeelLessThan 10 = .ok (.aload_n 0, 1) := by decide +kernel
theorem dX11_guestsWhoFeelLessThan_11 : decode cX11_guestsWhoFeelLessThan 11 = .ok (.getfield 19, 3) := by decide +kernel
theorem dX11_guestsWhoFeelLessThan_14 : decode cX11_guestsWhoFeelLessThan 14 = .ok (.iload_n 3, 1) := by decide +kernel
theorem dX11_guestsWhoFeelLessThan_15 : decode cX11_guestsWhoFeelLessThan 15 = .ok (.invokevirtual 180, 3) := by decide +kernel
theorem dX11_guestsWhoFeelLessThan_18 : decode cX11_guestsWhoFeelLessThan 18 = .ok (.ifCond .eq 19, 3) := by decide +kernel
theorem dX11_guestsWhoFeelLessThan_21 : decode cX11_guestsWhoFeelLessThan 21 = .ok (.aload_n 0, 1) := by decide +kernel
theorem dX11_guestsWhoFeelLessThan_22 : decode cX11_guestsWhoFeelLessThan 22 = .ok (.getfield 19, 3) := by decide +kernel
theorem dX11_guestsWhoFeelLessThan_25 : decode cX11_guestsWhoFeelLessThan 25 = .ok (.getfield 177, 3) := by decide +kernel
theorem dX11_guestsWhoFeelLessThan_28 : decode cX11_guestsWhoFeelLessThan 28 = .ok (.iload_n 3, 1) := by decide +kernel
theorem dX11_guestsWhoFeelLessThan_29 : decode cX11_guestsWhoFeelLessThan 29 = .ok (.iaload, 1) := by decide +kernel
theorem dX11_guestsWhoFeelLessThan_30 : decode cX11_guestsWhoFeelLessThan 30 = .ok (.iload_n 1, 1) := by decide +kernel
theorem dX11_guestsWhoFeelLessThan_31 : decode cX11_guestsWhoFeelLessThan 31 = .ok (.if_icmp .ge 6, 3) := by decide +kernel
theorem dX11_guestsWhoFeelLessThan_34 : decode cX11_guestsWhoFeelLessThan 34 = .ok (.iinc 2 1, 3) := by decide +kernel
theorem dX11_guestsWhoFeelLessThan_37 : decode cX11_guestsWhoFeelLessThan 37 = .ok (.iinc 3 1, 3) := by decide +kernel
theorem dX11_guestsWhoFeelLessThan_40 : decode cX11_guestsWhoFeelLessThan 40 = .ok (.goto (-36), 3) := by decide +kernel
theorem dX11_guestsWhoFeelLessThan_43 : decode cX11_guestsWhoFeelLessThan 43 = .ok (.iload_n 2, 1) := by decide +kernel
theorem dX11_guestsWhoFeelLessThan_44 : decode cX11_guestsWhoFeelLessThan 44 = .ok (.ireturn, 1) := by decide +kernel
theorem dX11_isWithin_0 : decode cX11_isWithin 0 = .ok (.iload_n 0, 1) := by decide +kernel
theorem dX11_isWithin_1 : decode cX11_isWithin 1 = .ok (.iload_n 1, 1) := by decide +kernel
theorem dX11_isWithin_2 : decode cX11_isWithin 2 = .ok (.if_icmp .lt 12, 3) := by decide +kernel
theorem dX11_isWithin_5 : decode cX11_isWithin 5 = .ok (.iload_n 0, 1) := by decide +kernel
theorem dX11_isWithin_6 : decode cX11_isWithin 6 = .ok (.iload_n 2, 1) := by decide +kernel
theorem dX11_isWithin_7 : decode cX11_isWithin 7 = .ok (.if_icmp .gt 7, 3) := by decide +kernel
theorem dX11_isWithin_10 : decode cX11_isWithin 10 = .ok (.iconst 1, 1) := by decide +kernel
theorem dX11_isWithin_11 : decode cX11_isWithin 11 = .ok (.goto 4, 3) := by decide +kernel
theorem dX11_isWithin_14 : decode cX11_isWithin 14 = .ok (.iconst 0, 1) := by decide +kernel
theorem dX11_isWithin_15 : decode cX11_isWithin 15 = .ok (.ireturn, 1) := by decide +kernel
theorem dX11_isRoom_0 : decode cX11_isRoom 0 = .ok (.iload_n 0, 1) := by decide +kernel
theorem dX11_isRoom_1 : decode cX11_isRoom 1 = .ok (.ifCond .lt 13, 3) := by decide +kernel
theorem dX11_isRoom_4 : decode cX11_isRoom 4 = .ok (.iload_n 0, 1) := by decide +kernel
theorem dX11_isRoom_5 : decode cX11_isRoom 5 = .ok (.bipush 24, 2) := by decide +kernel
theorem dX11_isRoom_7 : decode cX11_isRoom 7 = .ok (.if_icmp .ge 7, 3) := by decide +kernel
theorem dX11_isRoom_10 : decode cX11_isRoom 10 = .ok (.iconst 1, 1) := by decide +kernel
theorem dX11_isRoom_11 : decode cX11_isRoom 11 = .ok (.goto 4, 3) := by decide +kernel
theorem dX11_isRoom_14 : decode cX11_isRoom 14 = .ok (.iconst 0, 1) := by decide +kernel
theorem dX11_isRoom_15 : decode cX11_isRoom 15 = .ok (.ireturn, 1) := by decide +kernel
theorem dX11_isRise_0 : decode cX11_isRise 0 = .ok (.iload_n 0, 1) := by decide +kernel
theorem dX11_isRise_1 : decode cX11_isRise 1 = .ok (.invokestatic 100, 3) := by decide +kernel
theorem dX11_isRise_4 : decode cX11_isRise 4 = .ok (.ifCond .eq 25, 3) := by decide +kernel
theorem dX11_isRise_7 : decode cX11_isRise 7 = .ok (.iload_n 1, 1) := by decide +kernel
theorem dX11_isRise_8 : decode cX11_isRise 8 = .ok (.invokestatic 100, 3) := by decide +kernel
theorem dX11_isRise_11 : decode cX11_isRise 11 = .ok (.ifCond .eq 18, 3) := by decide +kernel
theorem dX11_isRise_14 : decode cX11_isRise 14 = .ok (.iload_n 1, 1) := by decide +kernel
theorem dX11_isRise_15 : decode cX11_isRise 15 = .ok (.invokestatic 200, 3) := by decide +kernel
theorem dX11_isRise_18 : decode cX11_isRise 18 = .ok (.iload_n 0, 1) := by decide +kernel
theorem dX11_isRise_19 : decode cX11_isRise 19 = .ok (.invokestatic 200, 3) := by decide +kernel
theorem dX11_isRise_22 : decode cX11_isRise 22 = .ok (.if_icmp .le 7, 3) := by decide +kernel
theorem dX11_isRise_25 : decode cX11_isRise 25 = .ok (.iconst 1, 1) := by decide +kernel
theorem dX11_isRise_26 : decode cX11_isRise 26 = .ok (.goto 4, 3) := by decide +kernel
theorem dX11_isRise_29 : decode cX11_isRise 29 = .ok (.iconst 0, 1) := by decide +kernel
theorem dX11_isRise_30 : decode cX11_isRise 30 = .ok (.ireturn, 1) := by decide +kernel
theorem dX11_floorOf_0 : decode cX11_floorOf 0 = .ok (.iload_n 0, 1) := by decide +kernel
theorem dX11_floorOf_1 : decode cX11_floorOf 1 = .ok (.iconst 4, 1) := by decide +kernel
theorem dX11_floorOf_2 : decode cX11_floorOf 2 = .ok (.idiv, 1) := by decide +kernel
theorem dX11_floorOf_3 : decode cX11_floorOf 3 = .ok (.ireturn, 1) := by decide +kernel
theorem dX11_columnOf_0 : decode cX11_columnOf 0 = .ok (.iload_n 0, 1) := by decide +kernel
theorem dX11_columnOf_1 : decode cX11_columnOf 1 = .ok (.iconst 4, 1) := by decide +kernel
theorem dX11_columnOf_2 : decode cX11_columnOf 2 = .ok (.irem, 1) := by decide +kernel
theorem dX11_columnOf_3 : decode cX11_columnOf 3 = .ok (.ireturn, 1) := by decide +kernel
theorem dX11_columnBy_0 : decode cX11_columnBy 0 = .ok (.iconst 0, 1) := by decide +kernel
theorem dX11_columnBy_1 : decode cX11_columnBy 1 = .ok (.iconst 3, 1) := by decide +kernel
theorem dX11_columnBy_2 : decode cX11_columnBy 2 = .ok (.iload_n 0, 1) := by decide +kernel
theorem dX11_columnBy_3 : decode cX11_columnBy 3 = .ok (.iload_n 1, 1) := by decide +kernel
theorem dX11_columnBy_4 : decode cX11_columnBy 4 = .ok (.iadd, 1) := by decide +kernel
theorem dX11_columnBy_5 : decode cX11_columnBy 5 = .ok (.iconst 1, 1) := by decide +kernel
theorem dX11_columnBy_6 : decode cX11_columnBy 6 = .ok (.isub, 1) := by decide +kernel
theorem dX11_columnBy_7 : decode cX11_columnBy 7 = .ok (.invokestatic 317, 3) := by decide +kernel
theorem dX11_columnBy_10 : decode cX11_columnBy 10 = .ok (.invokestatic 216, 3) := by decide +kernel
theorem dX11_columnBy_13 : decode cX11_columnBy 13 = .ok (.ireturn, 1) := by decide +kernel
theorem dX11_sumOf_0 : decode cX11_sumOf 0 = .ok (.iconst 0, 1) := by decide +kernel
theorem dX11_sumOf_1 : decode cX11_sumOf 1 = .ok (.istore_n 1, 1) := by decide +kernel
theorem dX11_sumOf_2 : decode cX11_sumOf 2 = .ok (.aload_n 0, 1) := by decide +kernel
theorem dX11_sumOf_3 : decode cX11_sumOf 3 = .ok (.astore_n 2, 1) := by decide +kernel
theorem dX11_sumOf_4 : decode cX11_sumOf 4 = .ok (.aload_n 2, 1) := by decide +kernel
theorem dX11_sumOf_5 : decode cX11_sumOf 5 = .ok (.arraylength, 1) := by decide +kernel
theorem dX11_sumOf_6 : decode cX11_sumOf 6 = .ok (.istore_n 3, 1) := by decide +kernel
theorem dX11_sumOf_7 : decode cX11_sumOf 7 = .ok (.iconst 0, 1) := by decide +kernel
theorem dX11_sumOf_8 : decode cX11_sumOf 8 = .ok (.istore 4, 2) := by decide +kernel
theorem dX11_sumOf_10 : decode cX11_sumOf 10 = .ok (.iload 4, 2) := by decide +kernel
theorem dX11_sumOf_12 : decode cX11_sumOf 12 = .ok (.iload_n 3, 1) := by decide +kernel
theorem dX11_sumOf_13 : decode cX11_sumOf 13 = .ok (.if_icmp .ge 20, 3) := by decide +kernel
theorem dX11_sumOf_16 : decode cX11_sumOf 16 = .ok (.aload_n 2, 1) := by decide +kernel
theorem dX11_sumOf_17 : decode cX11_sumOf 17 = .ok (.iload 4, 2) := by decide +kernel
theorem dX11_sumOf_19 : decode cX11_sumOf 19 = .ok (.iaload, 1) := by decide +kernel
theorem dX11_sumOf_20 : decode cX11_sumOf 20 = .ok (.istore 5, 2) := by decide +kernel
theorem dX11_sumOf_22 : decode cX11_sumOf 22 = .ok (.iload_n 1, 1) := by decide +kernel
theorem dX11_sumOf_23 : decode cX11_sumOf 23 = .ok (.iload 5, 2) := by decide +kernel
theorem dX11_sumOf_25 : decode cX11_sumOf 25 = .ok (.iadd, 1) := by decide +kernel
theorem dX11_sumOf_26 : decode cX11_sumOf 26 = .ok (.istore_n 1, 1) := by decide +kernel
theorem dX11_sumOf_27 : decode cX11_sumOf 27 = .ok (.iinc 4 1, 3) := by decide +kernel
theorem dX11_sumOf_30 : decode cX11_sumOf 30 = .ok (.goto (-20), 3) := by decide +kernel
theorem dX11_sumOf_33 : decode cX11_sumOf 33 = .ok (.iload_n 1, 1) := by decide +kernel
theorem dX11_sumOf_34 : decode cX11_sumOf 34 = .ok (.ireturn, 1) := by decide +kernel
theorem dX11_commonDivisor_0 : decode cX11_commonDivisor 0 = .ok (.iload_n 0, 1) := by decide +kernel
theorem dX11_commonDivisor_1 : decode cX11_commonDivisor 1 = .ok (.istore_n 2, 1) := by decide +kernel
theorem dX11_commonDivisor_2 : decode cX11_commonDivisor 2 = .ok (.iload_n 1, 1) := by decide +kernel
theorem dX11_commonDivisor_3 : decode cX11_commonDivisor 3 = .ok (.istore_n 3, 1) := by decide +kernel
theorem dX11_commonDivisor_4 : decode cX11_commonDivisor 4 = .ok (.iconst 0, 1) := by decide +kernel
theorem dX11_commonDivisor_5 : decode cX11_commonDivisor 5 = .ok (.istore 4, 2) := by decide +kernel
theorem dX11_commonDivisor_7 : decode cX11_commonDivisor 7 = .ok (.iload 4, 2) := by decide +kernel
theorem dX11_commonDivisor_9 : decode cX11_commonDivisor 9 = .ok (.bipush 64, 2) := by decide +kernel
theorem dX11_commonDivisor_11 : decode cX11_commonDivisor 11 = .ok (.if_icmp .ge 23, 3) := by decide +kernel
theorem dX11_commonDivisor_14 : decode cX11_commonDivisor 14 = .ok (.iload_n 3, 1) := by decide +kernel
theorem dX11_commonDivisor_15 : decode cX11_commonDivisor 15 = .ok (.ifCond .eq 19, 3) := by decide +kernel
theorem dX11_commonDivisor_18 : decode cX11_commonDivisor 18 = .ok (.iload_n 2, 1) := by decide +kernel
theorem dX11_commonDivisor_19 : decode cX11_commonDivisor 19 = .ok (.iload_n 3, 1) := by decide +kernel
theorem dX11_commonDivisor_20 : decode cX11_commonDivisor 20 = .ok (.irem, 1) := by decide +kernel
theorem dX11_commonDivisor_21 : decode cX11_commonDivisor 21 = .ok (.istore 5, 2) := by decide +kernel
theorem dX11_commonDivisor_23 : decode cX11_commonDivisor 23 = .ok (.iload_n 3, 1) := by decide +kernel
theorem dX11_commonDivisor_24 : decode cX11_commonDivisor 24 = .ok (.istore_n 2, 1) := by decide +kernel
theorem dX11_commonDivisor_25 : decode cX11_commonDivisor 25 = .ok (.iload 5, 2) := by decide +kernel
theorem dX11_commonDivisor_27 : decode cX11_commonDivisor 27 = .ok (.istore_n 3, 1) := by decide +kernel
theorem dX11_commonDivisor_28 : decode cX11_commonDivisor 28 = .ok (.iinc 4 1, 3) := by decide +kernel
theorem dX11_commonDivisor_31 : decode cX11_commonDivisor 31 = .ok (.goto (-24), 3) := by decide +kernel
theorem dX11_commonDivisor_34 : decode cX11_commonDivisor 34 = .ok (.iload_n 2, 1) := by decide +kernel
theorem dX11_commonDivisor_35 : decode cX11_commonDivisor 35 = .ok (.ireturn, 1) := by decide +kernel
theorem dX11_reduced_0 : decode cX11_reduced 0 = .ok (.iload_n 0, 1) := by decide +kernel
theorem dX11_reduced_1 : decode cX11_reduced 1 = .ok (.iload_n 1, 1) := by decide +kernel
theorem dX11_reduced_2 : decode cX11_reduced 2 = .ok (.invokestatic 320, 3) := by decide +kernel
theorem dX11_reduced_5 : decode cX11_reduced 5 = .ok (.istore_n 3, 1) := by decide +kernel
theorem dX11_reduced_6 : decode cX11_reduced 6 = .ok (.iload_n 3, 1) := by decide +kernel
theorem dX11_reduced_7 : decode cX11_reduced 7 = .ok (.ifCond .ne 5, 3) := by decide +kernel
theorem dX11_reduced_10 : decode cX11_reduced 10 = .ok (.iconst (-1), 1) := by decide +kernel
theorem dX11_reduced_11 : decode cX11_reduced 11 = .ok (.ireturn, 1) := by decide +kernel
theorem dX11_reduced_12 : decode cX11_reduced 12 = .ok (.iload_n 2, 1) := by decide +kernel
theorem dX11_reduced_13 : decode cX11_reduced 13 = .ok (.ifCond .ne 7, 3) := by decide +kernel
theorem dX11_reduced_16 : decode cX11_reduced 16 = .ok (.iload_n 0, 1) := by decide +kernel
theorem dX11_reduced_17 : decode cX11_reduced 17 = .ok (.goto 4, 3) := by decide +kernel
theorem dX11_reduced_20 : decode cX11_reduced 20 = .ok (.iload_n 1, 1) := by decide +kernel
theorem dX11_reduced_21 : decode cX11_reduced 21 = .ok (.iload_n 3, 1) := by decide +kernel
theorem dX11_reduced_22 : decode cX11_reduced 22 = .ok (.idiv, 1) := by decide +kernel
theorem dX11_reduced_23 : decode cX11_reduced 23 = .ok (.ireturn, 1) := by decide +kernel
theorem dX12_init_0 : decode cX12_init 0 = .ok (.aload_n 0, 1) := by decide +kernel
theorem dX12_init_1 : decode cX12_init 1 = .ok (.invokespecial 1, 3) := by decide +kernel
theorem dX12_init_4 : decode cX12_init 4 = .ok (.aload_n 0, 1) := by decide +kernel
theorem dX12_init_5 : decode cX12_init 5 = .ok (.sipush 699, 3) := by decide +kernel
theorem dX12_init_8 : decode cX12_init 8 = .ok (.newarray .int, 2) := by decide +kernel
theorem dX12_init_10 : decode cX12_init 10 = .ok (.putfield 7, 3) := by decide +kernel
theorem dX12_init_13 : decode cX12_init 13 = .ok (.aload_n 0, 1) := by decide +kernel
theorem dX12_init_14 : decode cX12_init 14 = .ok (.sipush 699, 3) := by decide +kernel
theorem dX12_init_17 : decode cX12_init 17 = .ok (.newarray .int, 2) := by decide +kernel
theorem dX12_init_19 : decode cX12_init 19 = .ok (.putfield 13, 3) := by decide +kernel
theorem dX12_init_22 : decode cX12_init 22 = .ok (.aload_n 0, 1) := by decide +kernel
theorem dX12_init_23 : decode cX12_init 23 = .ok (.sipush 699, 3) := by decide +kernel
theorem dX12_init_26 : decode cX12_init 26 = .ok (.newarray .int, 2) := by decide +kernel
theorem dX12_init_28 : decode cX12_init 28 = .ok (.putfield 16, 3) := by decide +kernel
theorem dX12_init_31 : decode cX12_init 31 = .ok (.aload_n 0, 1) := by decide +kernel
theorem dX12_init_32 : decode cX12_init 32 = .ok (.sipush 260, 3) := by decide +kernel
theorem dX12_init_35 : decode cX12_init 35 = .ok (.newarray .byte, 2) := by decide +kernel
theorem dX12_init_37 : decode cX12_init 37 = .ok (.putfield 19, 3) := by decide +kernel
theorem dX12_init_40 : decode cX12_init 40 = .ok (.aload_n 0, 1) := by decide +kernel
theorem dX12_init_41 : decode cX12_init 41 = .ok (.sipush 260, 3) := by decide +kernel
theorem dX12_init_44 : decode cX12_init 44 = .ok (.newarray .int, 2) := by decide +kernel
theorem dX12_init_46 : decode cX12_init 46 = .ok (.putfield 23, 3) := by decide +kernel
theorem dX12_init_49 : decode cX12_init 49 = .ok (.aload_n 0, 1) := by decide +kernel
theorem dX12_init_50 : decode cX12_init 50 = .ok (.sipush 260, 3) := by decide +kernel
theorem dX12_init_53 : decode cX12_init 53 = .ok (.newarray .int, 2) := by decide +kernel
theorem dX12_init_55 : decode cX12_init 55 = .ok (.putfield 26, 3) := by decide +kernel
theorem dX12_init_58 : decode cX12_init 58 = .ok (.aload_n 0, 1) := by decide +kernel
theorem dX12_init_59 : decode cX12_init 59 = .ok (.bipush 16, 2) := by decide +kernel
theorem dX12_init_61 : decode cX12_init 61 = .ok (.newarray .int, 2) := by decide +kernel
theorem dX12_init_63 : decode cX12_init 63 = .ok (.putfield 29, 3) := by decide +kernel
theorem dX12_init_66 : decode cX12_init 66 = .ok (.aload_n 0, 1) := by decide +kernel
theorem dX12_init_67 : decode cX12_init 67 = .ok (.bipush 16, 2) := by decide +kernel
theorem dX12_init_69 : decode cX12_init 69 = .ok (.newarray .int, 2) := by decide +kernel
theorem dX12_init_71 : decode cX12_init 71 = .ok (.putfield 32, 3) := by decide +kernel
theorem dX12_init_74 : decode cX12_init 74 = .ok (.aload_n 0, 1) := by decide +kernel
theorem dX12_init_75 : decode cX12_init 75 = .ok (.bipush 16, 2) := by decide +kernel
theorem dX12_init_77 : decode cX12_init 77 = .ok (.newarray .int, 2) := by decide +kernel
theorem dX12_init_79 : decode cX12_init 79 = .ok (.putfield 35, 3) := by decide +kernel
theorem dX12_init_82 : decode cX12_init 82 = .ok (.aload_n 0, 1) := by decide +kernel
theorem dX12_init_83 : decode cX12_init 83 = .ok (.bipush 16, 2) := by decide +kernel
theorem dX12_init_85 : decode cX12_init 85 = .ok (.newarray .int, 2) := by decide +kernel
theorem dX12_init_87 : decode cX12_init 87 = .ok (.putfield 38, 3) := by decide +kernel
theorem dX12_init_90 : decode cX12_init 90 = .ok (.aload_n 0, 1) := by decide +kernel
theorem dX12_init_91 : decode cX12_init 91 = .ok (.sipush 260, 3) := by decide +kernel
theorem dX12_init_94 : decode cX12_init 94 = .ok (.newarray .int, 2) := by decide +kernel
theorem dX12_init_96 : decode cX12_init 96 = .ok (.putfield 41, 3) := by decide +kernel
theorem dX12_init_99 : decode cX12_init 99 = .ok (.aload_n 0, 1) := by decide +kernel
theorem dX12_init_100 : decode cX12_init 100 = .ok (.bipush 16, 2) := by decide +kernel
theorem dX12_init_102 : decode cX12_init 102 = .ok (.newarray .int, 2) := by decide +kernel
theorem dX12_init_104 : decode cX12_init 104 = .ok (.putfield 44, 3) := by decide +kernel
theorem dX12_init_107 : decode cX12_init 107 = .ok (.aload_n 0, 1) := by decide +kernel
theorem dX12_init_108 : decode cX12_init 108 = .ok (.bipush 16, 2) := by decide +kernel
theorem dX12_init_110 : decode cX12_init 110 = .ok (.newarray .int, 2) := by decide +kernel
theorem dX12_init_112 : decode cX12_init 112 = .ok (.putfield 47, 3) := by decide +kernel
theorem dX12_init_115 : decode cX12_init 115 = .ok (.aload_n 0, 1) := by decide +kernel
theorem dX12_init_116 : decode cX12_init 116 = .ok (.bipush 16, 2) := by decide +kernel
theorem dX12_init_118 : decode cX12_init 118 = .ok (.newarray .int, 2) := by decide +kernel
theorem dX12_init_120 : decode cX12_init 120 = .ok (.putfield 50, 3) := by decide +kernel
theorem dX12_init_123 : decode cX12_init 123 = .ok (.aload_n 0, 1) := by decide +kernel
theorem dX12_init_124 : decode cX12_init 124 = .ok (.bipush 16, 2) := by decide +kernel
theorem dX12_init_126 : decode cX12_init 126 = .ok (.newarray .int, 2) := by decide +kernel
theorem dX12_init_128 : decode cX12_init 128 = .ok (.putfield 53, 3) := by decide +kernel
theorem dX12_init_131 : decode cX12_init 131 = .ok (.aload_n 0, 1) := by decide +kernel
theorem dX12_init_132 : decode cX12_init 132 = .ok (.sipush 260, 3) := by decide +kernel
theorem dX12_init_135 : decode cX12_init 135 = .ok (.newarray .int, 2) := by decide +kernel
theorem dX12_init_137 : decode cX12_init 137 = .ok (.putfield 56, 3) := by decide +kernel
theorem dX12_init_140 : decode cX12_init 140 = .ok (.aload_n 0, 1) := by decide +kernel
theorem dX12_init_141 : decode cX12_init 141 = .ok (.bipush 8, 2) := by decide +kernel
theorem dX12_init_143 : decode cX12_init 143 = .ok (.newarray .int, 2) := by decide +kernel
theorem dX12_init_145 : decode cX12_init 145 = .ok (.putfield 59, 3) := by decide +kernel
theorem dX12_init_148 : decode cX12_init 148 = .ok (.aload_n 0, 1) := by decide +kernel
theorem dX12_init_149 : decode cX12_init 149 = .ok (.bipush 24, 2) := by decide +kernel
theorem dX12_init_151 : decode cX12_init 151 = .ok (.newarray .int, 2) := by decide +kernel
theorem dX12_init_153 : decode cX12_init 153 = .ok (.putfield 62, 3) := by decide +kernel
theorem dX12_init_156 : decode cX12_init 156 = .ok (.aload_n 0, 1) := by decide +kernel
theorem dX12_init_157 : decode cX12_init 157 = .ok (.bipush 24, 2) := by decide +kernel
theorem dX12_init_159 : decode cX12_init 159 = .ok (.newarray .int, 2) := by decide +kernel
theorem dX12_init_161 : decode cX12_init 161 = .ok (.putfield 65, 3) := by decide +kernel
theorem dX12_init_164 : decode cX12_init 164 = .ok (.aload_n 0, 1) := by decide +kernel
theorem dX12_init_165 : decode cX12_init 165 = .ok (.bipush 24, 2) := by decide +kernel
theorem dX12_init_167 : decode cX12_init 167 = .ok (.newarray .long, 2) := by decide +kernel
theorem dX12_init_169 : decode cX12_init 169 = .ok (.putfield 68, 3) := by decide +kernel
theorem dX12_init_172 : decode cX12_init 172 = .ok (.aload_n 0, 1) := by decide +kernel
theorem dX12_init_173 : decode cX12_init 173 = .ok (.bipush 24, 2) := by decide +kernel
theorem dX12_init_175 : decode cX12_init 175 = .ok (.newarray .long, 2) := by decide +kernel
theorem dX12_init_177 : decode cX12_init 177 = .ok (.putfield 72, 3) := by decide +kernel
theorem dX12_init_180 : decode cX12_init 180 = .ok (.aload_n 0, 1) := by decide +kernel
theorem dX12_init_181 : decode cX12_init 181 = .ok (.bipush 6, 2) := by decide +kernel
theorem dX12_init_183 : decode cX12_init 183 = .ok (.newarray .int, 2) := by decide +kernel
theorem dX12_init_185 : decode cX12_init 185 = .ok (.putfield 75, 3) := by decide +kernel
theorem dX12_init_188 : decode cX12_init 188 = .ok (.aload_n 0, 1) := by decide +kernel
theorem dX12_init_189 : decode cX12_init 189 = .ok (.bipush 6, 2) := by decide +kernel
theorem dX12_init_191 : decode cX12_init 191 = .ok (.newarray .int, 2) := by decide +kernel
theorem dX12_init_193 : decode cX12_init 193 = .ok (.putfield 78, 3) := by decide +kernel
theorem dX12_init_196 : decode cX12_init 196 = .ok (.aload_n 0, 1) := by decide +kernel
theorem dX12_init_197 : decode cX12_init 197 = .ok (.bipush 6, 2) := by decide +kernel
theorem dX12_init_199 : decode cX12_init 199 = .ok (.newarray .int, 2) := by decide +kernel
theorem dX12_init_201 : decode cX12_init 201 = .ok (.putfield 81, 3) := by decide +kernel
theorem dX12_init_204 : decode cX12_init 204 = .ok (.aload_n 0, 1) := by decide +kernel
theorem dX12_init_205 : decode cX12_init 205 = .ok (.bipush 72, 2) := by decide +kernel
theorem dX12_init_207 : decode cX12_init 207 = .ok (.newarray .int, 2) := by decide +kernel
theorem dX12_init_209 : decode cX12_init 209 = .ok (.putfield 84, 3) := by decide +kernel
theorem dX12_init_212 : decode cX12_init 212 = .ok (.aload_n 0, 1) := by decide +kernel
theorem dX12_init_213 : decode cX12_init 213 = .ok (.bipush 20, 2) := by decide +kernel
theorem dX12_init_215 : decode cX12_init 215 = .ok (.newarray .int, 2) := by decide +kernel
theorem dX12_init_217 : decode cX12_init 217 = .ok (.putfield 87, 3) := by decide +kernel
theorem dX12_init_220 : decode cX12_init 220 = .ok (.aload_n 0, 1) := by decide +kernel
theorem dX12_init_221 : decode cX12_init 221 = .ok (.getfield 7, 3) := by decide +kernel
theorem dX12_init_224 : decode cX12_init 224 = .ok (.sipush 698, 3) := by decide +kernel
theorem dX12_init_227 : decode cX12_init 227 = .ok (.iconst 1, 1) := by decide +kernel
theorem dX12_init_228 : decode cX12_init 228 = .ok (.iastore, 1) := by decide +kernel
theorem dX12_init_229 : decode cX12_init 229 = .ok (.iconst 0, 1) := by decide +kernel
theorem dX12_init_230 : decode cX12_init 230 = .ok (.istore_n 1, 1) := by decide +kernel
theorem dX12_init_231 : decode cX12_init 231 = .ok (.iload_n 1, 1) := by decide +kernel
theorem dX12_init_232 : decode cX12_init 232 = .ok (.bipush 24, 2) := by decide +kernel
theorem dX12_init_234 : decode cX12_init 234 = .ok (.if_icmp .ge 29, 3) := by decide +kernel
theorem dX12_init_237 : decode cX12_init 237 = .ok (.aload_n 0, 1) := by decide +kernel
theorem dX12_init_238 : decode cX12_init 238 = .ok (.getfield 7, 3) := by decide +kernel
theorem dX12_init_241 : decode cX12_init 241 = .ok (.bipush 48, 2) := by decide +kernel
theorem dX12_init_243 : decode cX12_init 243 = .ok (.iload_n 1, 1) := by decide +kernel
theorem dX12_init_244 : decode cX12_init 244 = .ok (.iadd, 1) := by decide +kernel
theorem dX12_init_245 : decode cX12_init 245 = .ok (.iconst 1, 1) := by decide +kernel
theorem dX12_init_246 : decode cX12_init 246 = .ok (.iastore, 1) := by decide +kernel
theorem dX12_init_247 : decode cX12_init 247 = .ok (.aload_n 0, 1) := by decide +kernel
theorem dX12_init_248 : decode cX12_init 248 = .ok (.getfield 7, 3) := by decide +kernel
theorem dX12_init_251 : decode cX12_init 251 = .ok (.bipush 72, 2) := by decide +kernel
theorem dX12_init_253 : decode cX12_init 253 = .ok (.iload_n 1, 1) := by decide +kernel
theorem dX12_init_254 : decode cX12_init 254 = .ok (.iadd, 1) := by decide +kernel
theorem dX12_init_255 : decode cX12_init 255 = .ok (.iconst 1, 1) := by decide +kernel
theorem dX12_init_256 : decode cX12_init 256 = .ok (.iastore, 1) := by decide +kernel
theorem dX12_init_257 : decode cX12_init 257 = .ok (.iinc 1 1, 3) := by decide +kernel
theorem dX12_init_260 : decode cX12_init 260 = .ok (.goto (-29), 3) := by decide +kernel
theorem dX12_init_263 : decode cX12_init 263 = .ok (.return_, 1) := by decide +kernel
theorem dX12_in_0 : decode cX12_in 0 = .ok (.iload_n 0, 1) := by decide +kernel
theorem dX12_in_1 : decode cX12_in 1 = .ok (.iload_n 1, 1) := by decide +kernel
theorem dX12_in_2 : decode cX12_in 2 = .ok (.if_icmp .lt 12, 3) := by decide +kernel
theorem dX12_in_5 : decode cX12_in 5 = .ok (.iload_n 0, 1) := by decide +kernel
theorem dX12_in_6 : decode cX12_in 6 = .ok (.iload_n 2, 1) := by decide +kernel
theorem dX12_in_7 : decode cX12_in 7 = .ok (.if_icmp .gt 7, 3) := by decide +kernel
theorem dX12_in_10 : decode cX12_in 10 = .ok (.iconst 1, 1) := by decide +kernel
theorem dX12_in_11 : decode cX12_in 11 = .ok (.goto 4, 3) := by decide +kernel
theorem dX12_in_14 : decode cX12_in 14 = .ok (.iconst 0, 1) := by decide +kernel
theorem dX12_in_15 : decode cX12_in 15 = .ok (.ireturn, 1) := by decide +kernel
theorem dX12_min_0 : decode cX12_min 0 = .ok (.iload_n 0, 1) := by decide +kernel
theorem dX12_min_1 : decode cX12_min 1 = .ok (.iload_n 1, 1) := by decide +kernel
theorem dX12_min_2 : decode cX12_min 2 = .ok (.if_icmp .ge 7, 3) := by decide +kernel
theorem dX12_min_5 : decode cX12_min 5 = .ok (.iload_n 0, 1) := by decide +kernel
theorem dX12_min_6 : decode cX12_min 6 = .ok (.goto 4, 3) := by decide +kernel
theorem dX12_min_9 : decode cX12_min 9 = .ok (.iload_n 1, 1) := by decide +kernel
theorem dX12_min_10 : decode cX12_min 10 = .ok (.ireturn, 1) := by decide +kernel
theorem dX12_max_0 : decode cX12_max 0 = .ok (.iload_n 0, 1) := by decide +kernel
theorem dX12_max_1 : decode cX12_max 1 = .ok (.iload_n 1, 1) := by decide +kernel
theorem dX12_max_2 : decode cX12_max 2 = .ok (.if_icmp .le 7, 3) := by decide +kernel
theorem dX12_max_5 : decode cX12_max 5 = .ok (.iload_n 0, 1) := by decide +kernel
theorem dX12_max_6 : decode cX12_max 6 = .ok (.goto 4, 3) := by decide +kernel
theorem dX12_max_9 : decode cX12_max 9 = .ok (.iload_n 1, 1) := by decide +kernel
theorem dX12_max_10 : decode cX12_max 10 = .ok (.ireturn, 1) := by decide +kernel
theorem dX12_has_0 : decode cX12_has 0 = .ok (.iload_n 0, 1) := by decide +kernel
theorem dX12_has_1 : decode cX12_has 1 = .ok (.iload_n 1, 1) := by decide +kernel
theorem dX12_has_2 : decode cX12_has 2 = .ok (.ishr, 1) := by decide +kernel
theorem dX12_has_3 : decode cX12_has 3 = .ok (.iconst 1, 1) := by decide +kernel
theorem dX12_has_4 : decode cX12_has 4 = .ok (.iand, 1) := by decide +kernel
theorem dX12_has_5 : decode cX12_has 5 = .ok (.iconst 1, 1) := by decide +kernel
theorem dX12_has_6 : decode cX12_has 6 = .ok (.if_icmp .ne 7, 3) := by decide +kernel
theorem dX12_has_9 : decode cX12_has 9 = .ok (.iconst 1, 1) := by decide +kernel
theorem dX12_has_10 : decode cX12_has 10 = .ok (.goto 4, 3) := by decide +kernel
theorem dX12_has_13 : decode cX12_has 13 = .ok (.iconst 0, 1) := by decide +kernel
theorem dX12_has_14 : decode cX12_has 14 = .ok (.ireturn, 1) := by decide +kernel
theorem dX12_bits_0 : decode cX12_bits 0 = .ok (.iconst 0, 1) := by decide +kernel
theorem dX12_bits_1 : decode cX12_bits 1 = .ok (.istore_n 1, 1) := by decide +kernel
theorem dX12_bits_2 : decode cX12_bits 2 = .ok (.iconst 0, 1) := by decide +kernel
theorem dX12_bits_3 : decode cX12_bits 3 = .ok (.istore_n 2, 1) := by decide +kernel
theorem dX12_bits_4 : decode cX12_bits 4 = .ok (.iload_n 2, 1) := by decide +kernel
theorem dX12_bits_5 : decode cX12_bits 5 = .ok (.bipush 24, 2) := by decide +kernel
theorem dX12_bits_7 : decode cX12_bits 7 = .ok (.if_icmp .ge 17, 3) := by decide +kernel
theorem dX12_bits_10 : decode cX12_bits 10 = .ok (.iload_n 1, 1) := by decide +kernel
theorem dX12_bits_11 : decode cX12_bits 11 = .ok (.iload_n 0, 1) := by decide +kernel
theorem dX12_bits_12 : decode cX12_bits 12 = .ok (.iload_n 2, 1) := by decide +kernel
theorem dX12_bits_13 : decode cX12_bits 13 = .ok (.ishr, 1) := by decide +kernel
theorem dX12_bits_14 : decode cX12_bits 14 = .ok (.iconst 1, 1) := by decide +kernel
theorem dX12_bits_15 : decode cX12_bits 15 = .ok (.iand, 1) := by decide +kernel
theorem dX12_bits_16 : decode cX12_bits 16 = .ok (.iadd, 1) := by decide +kernel
theorem dX12_bits_17 : decode cX12_bits 17 = .ok (.istore_n 1, 1) := by decide +kernel
theorem dX12_bits_18 : decode cX12_bits 18 = .ok (.iinc 2 1, 3) := by decide +kernel
theorem dX12_bits_21 : decode cX12_bits 21 = .ok (.goto (-17), 3) := by decide +kernel
theorem dX12_bits_24 : decode cX12_bits 24 = .ok (.iload_n 1, 1) := by decide +kernel
theorem dX12_bits_25 : decode cX12_bits 25 = .ok (.ireturn, 1) := by decide +kernel
theorem dX12_copies_0 : decode cX12_copies 0 = .ok (.iconst 0, 1) := by decide +kernel
theorem dX12_copies_1 : decode cX12_copies 1 = .ok (.istore_n 2, 1) := by decide +kernel
theorem dX12_copies_2 : decode cX12_copies 2 = .ok (.iload_n 2, 1) := by decide +kernel
theorem dX12_copies_3 : decode cX12_copies 3 = .ok (.sipush 699, 3) := by decide +kernel
theorem dX12_copies_6 : decode cX12_copies 6 = .ok (.if_icmp .ge 15, 3) := by decide +kernel
theorem dX12_copies_9 : decode cX12_copies 9 = .ok (.aload_n 1, 1) := by decide +kernel
theorem dX12_copies_10 : decode cX12_copies 10 = .ok (.iload_n 2, 1) := by decide +kernel
theorem dX12_copies_11 : decode cX12_copies 11 = .ok (.aload_n 0, 1) := by decide +kernel
theorem dX12_copies_12 : decode cX12_copies 12 = .ok (.iload_n 2, 1) := by decide +kernel
theorem dX12_copies_13 : decode cX12_copies 13 = .ok (.iaload, 1) := by decide +kernel
theorem dX12_copies_14 : decode cX12_copies 14 = .ok (.iastore, 1) := by decide +kernel
theorem dX12_copies_15 : decode cX12_copies 15 = .ok (.iinc 2 1, 3) := by decide +kernel
theorem dX12_copies_18 : decode cX12_copies 18 = .ok (.goto (-16), 3) := by decide +kernel
theorem dX12_copies_21 : decode cX12_copies 21 = .ok (.return_, 1) := by decide +kernel
theorem dX12_isRoom_0 : decode cX12_isRoom 0 = .ok (.iload_n 0, 1) := by decide +kernel
theorem dX12_isRoom_1 : decode cX12_isRoom 1 = .ok (.iconst 0, 1) := by decide +kernel
theorem dX12_isRoom_2 : decode cX12_isRoom 2 = .ok (.bipush 23, 2) := by decide +kernel
theorem dX12_isRoom_4 : decode cX12_isRoom 4 = .ok (.invokestatic 90, 3) := by decide +kernel
theorem dX12_isRoom_7 : decode cX12_isRoom 7 = .ok (.ireturn, 1) := by decide +kernel
theorem dX12_felt_0 : decode cX12_felt 0 = .ok (.bipush 120, 2) := by decide +kernel
theorem dX12_felt_2 : decode cX12_felt 2 = .ok (.bipush 24, 2) := by decide +kernel
theorem dX12_felt_4 : decode cX12_felt 4 = .ok (.iload_n 0, 1) := by decide +kernel
theorem dX12_felt_5 : decode cX12_felt 5 = .ok (.imul, 1) := by decide +kernel
theorem dX12_felt_6 : decode cX12_felt 6 = .ok (.iadd, 1) := by decide +kernel
theorem dX12_felt_7 : decode cX12_felt 7 = .ok (.iload_n 1, 1) := by decide +kernel
theorem dX12_felt_8 : decode cX12_felt 8 = .ok (.iadd, 1) := by decide +kernel
theorem dX12_felt_9 : decode cX12_felt 9 = .ok (.ireturn, 1) := by decide +kernel
theorem dX12_feltIn_0 : decode cX12_feltIn 0 = .ok (.iconst 0, 1) := by decide +kernel
theorem dX12_feltIn_1 : decode cX12_feltIn 1 = .ok (.istore_n 2, 1) := by decide +kernel
theorem dX12_feltIn_2 : decode cX12_feltIn 2 = .ok (.iconst 0, 1) := by decide +kernel
theorem dX12_feltIn_3 : decode cX12_feltIn 3 = .ok (.istore_n 3, 1) := by decide +kernel
theorem dX12_feltIn_4 : decode cX12_feltIn 4 = .ok (.iload_n 3, 1) := by decide +kernel
theorem dX12_feltIn_5 : decode cX12_feltIn 5 = .ok (.bipush 24, 2) := by decide +kernel
theorem dX12_feltIn_7 : decode cX12_feltIn 7 = .ok (.if_icmp .ge 22, 3) := by decide +kernel
theorem dX12_feltIn_10 : decode cX12_feltIn 10 = .ok (.iload_n 2, 1) := by decide +kernel
theorem dX12_feltIn_11 : decode cX12_feltIn 11 = .ok (.aload_n 0, 1) := by decide +kernel
theorem dX12_feltIn_12 : decode cX12_feltIn 12 = .ok (.getfield 7, 3) := by decide +kernel
theorem dX12_feltIn_15 : decode cX12_feltIn 15 = .ok (.iload_n 1, 1) := by decide +kernel
theorem dX12_feltIn_16 : decode cX12_feltIn 16 = .ok (.iload_n 3, 1) := by decide +kernel
theorem dX12_feltIn_17 : decode cX12_feltIn 17 = .ok (.invokestatic 94, 3) := by decide +kernel
theorem dX12_feltIn_20 : decode cX12_feltIn 20 = .ok (.iaload, 1) := by decide +kernel
theorem dX12_feltIn_21 : decode cX12_feltIn 21 = .ok (.iadd, 1) := by decide +kernel
theorem dX12_feltIn_22 : decode cX12_feltIn 22 = .ok (.istore_n 2, 1) := by decide +kernel
theorem dX12_feltIn_23 : decode cX12_feltIn 23 = .ok (.iinc 3 1, 3) := by decide +kernel
theorem dX12_feltIn_26 : decode cX12_feltIn 26 = .ok (.goto (-22), 3) := by decide +kernel
theorem dX12_feltIn_29 : decode cX12_feltIn 29 = .ok (.iload_n 2, 1) := by decide +kernel
theorem dX12_feltIn_30 : decode cX12_feltIn 30 = .ok (.ireturn, 1) := by decide +kernel
theorem dX12_takesIn_0 : decode cX12_takesIn 0 = .ok (.aload_n 0, 1) := by decide +kernel
theorem dX12_takesIn_1 : decode cX12_takesIn 1 = .ok (.getfield 7, 3) := by decide +kernel
theorem dX12_takesIn_4 : decode cX12_takesIn 4 = .ok (.iconst 0, 1) := by decide +kernel
theorem dX12_takesIn_5 : decode cX12_takesIn 5 = .ok (.iload_n 1, 1) := by decide +kernel
theorem dX12_takesIn_6 : decode cX12_takesIn 6 = .ok (.iadd, 1) := by decide +kernel
theorem dX12_takesIn_7 : decode cX12_takesIn 7 = .ok (.iaload, 1) := by decide +kernel
theorem dX12_takesIn_8 : decode cX12_takesIn 8 = .ok (.iconst 1, 1) := by decide +kernel
theorem dX12_takesIn_9 : decode cX12_takesIn 9 = .ok (.if_icmp .ne 20, 3) := by decide +kernel
theorem dX12_takesIn_12 : decode cX12_takesIn 12 = .ok (.aload_n 0, 1) := by decide +kernel
theorem dX12_takesIn_13 : decode cX12_takesIn 13 = .ok (.getfield 7, 3) := by decide +kernel
theorem dX12_takesIn_16 : decode cX12_takesIn 16 = .ok (.bipush 48, 2) := by decide +kernel
theorem dX12_takesIn_18 : decode cX12_takesIn 18 = .ok (.iload_n 1, 1) := by decide +kernel
theorem dX12_takesIn_19 : decode cX12_takesIn 19 = .ok (.iadd, 1) := by decide +kernel
theorem dX12_takesIn_20 : decode cX12_takesIn 20 = .ok (.iaload, 1) := by decide +kernel
theorem dX12_takesIn_21 : decode cX12_takesIn 21 = .ok (.iconst 1, 1) := by decide +kernel
theorem dX12_takesIn_22 : decode cX12_takesIn 22 = .ok (.if_icmp .ne 7, 3) := by decide +kernel
theorem dX12_takesIn_25 : decode cX12_takesIn 25 = .ok (.iconst 1, 1) := by decide +kernel
theorem dX12_takesIn_26 : decode cX12_takesIn 26 = .ok (.goto 4, 3) := by decide +kernel
theorem dX12_takesIn_29 : decode cX12_takesIn 29 = .ok (.iconst 0, 1) := by decide +kernel
theorem dX12_takesIn_30 : decode cX12_takesIn 30 = .ok (.ireturn, 1) := by decide +kernel
theorem dX12_turned_0 : decode cX12_turned 0 = .ok (.iconst 0, 1) := by decide +kernel
theorem dX12_turned_1 : decode cX12_turned 1 = .ok (.iconst 3, 1) := by decide +kernel
theorem dX12_turned_2 : decode cX12_turned 2 = .ok (.iload_n 0, 1) := by decide +kernel
theorem dX12_turned_3 : decode cX12_turned 3 = .ok (.iload_n 1, 1) := by decide +kernel
theorem dX12_turned_4 : decode cX12_turned 4 = .ok (.iadd, 1) := by decide +kernel
theorem dX12_turned_5 : decode cX12_turned 5 = .ok (.iconst 1, 1) := by decide +kernel
theorem dX12_turned_6 : decode cX12_turned 6 = .ok (.isub, 1) := by decide +kernel
theorem dX12_turned_7 : decode cX12_turned 7 = .ok (.invokestatic 98, 3) := by decide +kernel
theorem dX12_turned_10 : decode cX12_turned 10 = .ok (.invokestatic 101, 3) := by decide +kernel
theorem dX12_turned_13 : decode cX12_turned 13 = .ok (.ireturn, 1) := by decide +kernel
theorem dX12_above_0 : decode cX12_above 0 = .ok (.iload_n 1, 1) := by decide +kernel
theorem dX12_above_1 : decode cX12_above 1 = .ok (.iconst 4, 1) := by decide +kernel
theorem dX12_above_2 : decode cX12_above 2 = .ok (.idiv, 1) := by decide +kernel
theorem dX12_above_3 : decode cX12_above 3 = .ok (.iconst 5, 1) := by decide +kernel
theorem dX12_above_4 : decode cX12_above 4 = .ok (.if_icmp .ne 6, 3) := by decide +kernel
theorem dX12_above_7 : decode cX12_above 7 = .ok (.bipush 24, 2) := by decide +kernel
theorem dX12_above_9 : decode cX12_above 9 = .ok (.ireturn, 1) := by decide +kernel
theorem dX12_above_10 : decode cX12_above 10 = .ok (.iload_n 1, 1) := by decide +kernel
theorem dX12_above_11 : decode cX12_above 11 = .ok (.iconst 4, 1) := by decide +kernel
theorem dX12_above_12 : decode cX12_above 12 = .ok (.idiv, 1) := by decide +kernel
theorem dX12_above_13 : decode cX12_above 13 = .ok (.iconst 4, 1) := by decide +kernel
theorem dX12_above_14 : decode cX12_above 14 = .ok (.imul, 1) := by decide +kernel
theorem dX12_above_15 : decode cX12_above 15 = .ok (.iconst 4, 1) := by decide +kernel
theorem dX12_above_16 : decode cX12_above 16 = .ok (.iadd, 1) := by decide +kernel
theorem dX12_above_17 : decode cX12_above 17 = .ok (.iload_n 1, 1) := by decide +kernel
theorem dX12_above_18 : decode cX12_above 18 = .ok (.iconst 4, 1) := by decide +kernel
theorem dX12_above_19 : decode cX12_above 19 = .ok (.irem, 1) := by decide +kernel
theorem dX12_above_20 : decode cX12_above 20 = .ok (.aload_n 0, 1) := by decide +kernel
theorem dX12_above_21 : decode cX12_above 21 = .ok (.getfield 7, 3) := by decide +kernel
theorem dX12_above_24 : decode cX12_above 24 = .ok (.bipush 72, 2) := by decide +kernel
theorem dX12_above_26 : decode cX12_above 26 = .ok (.iload_n 1, 1) := by decide +kernel
theorem dX12_above_27 : decode cX12_above 27 = .ok (.iadd, 1) := by decide +kernel
theorem dX12_above_28 : decode cX12_above 28 = .ok (.iaload, 1) := by decide +kernel
theorem dX12_above_29 : decode cX12_above 29 = .ok (.invokestatic 104, 3) := by decide +kernel
theorem dX12_above_32 : decode cX12_above 32 = .ok (.iadd, 1) := by decide +kernel
theorem dX12_above_33 : decode cX12_above 33 = .ok (.ireturn, 1) := by decide +kernel
theorem dX12_laysGuest_0 : decode cX12_laysGuest 0 = .ok (.aload_n 0, 1) := by decide +kernel
theorem dX12_laysGuest_1 : decode cX12_laysGuest 1 = .ok (.getfield 7, 3) := by decide +kernel
theorem dX12_laysGuest_4 : decode cX12_laysGuest 4 = .ok (.iconst 0, 1) := by decide +kernel
theorem dX12_laysGuest_5 : decode cX12_laysGuest 5 = .ok (.iload_n 1, 1) := by decide +kernel
theorem dX12_laysGuest_6 : decode cX12_laysGuest 6 = .ok (.iadd, 1) := by decide +kernel
theorem dX12_laysGuest_7 : decode cX12_laysGuest 7 = .ok (.iload_n 2, 1) := by decide +kernel
theorem dX12_laysGuest_8 : decode cX12_laysGuest 8 = .ok (.iastore, 1) := by decide +kernel
theorem dX12_laysGuest_9 : decode cX12_laysGuest 9 = .ok (.aload_n 0, 1) := by decide +kernel
theorem dX12_laysGuest_10 : decode cX12_laysGuest 10 = .ok (.getfield 7, 3) := by decide +kernel
theorem dX12_laysGuest_13 : decode cX12_laysGuest 13 = .ok (.bipush 24, 2) := by decide +kernel
theorem dX12_laysGuest_15 : decode cX12_laysGuest 15 = .ok (.iload_n 1, 1) := by decide +kernel
theorem dX12_laysGuest_16 : decode cX12_laysGuest 16 = .ok (.iadd, 1) := by decide +kernel
theorem dX12_laysGuest_17 : decode cX12_laysGuest 17 = .ok (.iload_n 3, 1) := by decide +kernel
theorem dX12_laysGuest_18 : decode cX12_laysGuest 18 = .ok (.iastore, 1) := by decide +kernel
theorem dX12_laysGuest_19 : decode cX12_laysGuest 19 = .ok (.iconst 0, 1) := by decide +kernel
theorem dX12_laysGuest_20 : decode cX12_laysGuest 20 = .ok (.istore 4, 2) := by decide +kernel
theorem dX12_laysGuest_22 : decode cX12_laysGuest 22 = .ok (.iload 4, 2) := by decide +kernel
theorem dX12_laysGuest_24 : decode cX12_laysGuest 24 = .ok (.bipush 24, 2) := by decide +kernel
theorem dX12_laysGuest_26 : decode cX12_laysGuest 26 = .ok (.if_icmp .ge 21, 3) := by decide +kernel
theorem dX12_laysGuest_29 : decode cX12_laysGuest 29 = .ok (.aload_n 0, 1) := by decide +kernel
theorem dX12_laysGuest_30 : decode cX12_laysGuest 30 = .ok (.getfield 7, 3) := by decide +kernel
theorem dX12_laysGuest_33 : decode cX12_laysGuest 33 = .ok (.iload_n 1, 1) := by decide +kernel
theorem dX12_laysGuest_34 : decode cX12_laysGuest 34 = .ok (.iload 4, 2) := by decide +kernel
theorem dX12_laysGuest_36 : decode cX12_laysGuest 36 = .ok (.invokestatic 94, 3) := by decide +kernel
theorem dX12_laysGuest_39 : decode cX12_laysGuest 39 = .ok (.iconst 0, 1) := by decide +kernel
theorem dX12_laysGuest_40 : decode cX12_laysGuest 40 = .ok (.iastore, 1) := by decide +kernel
theorem dX12_laysGuest_41 : decode cX12_laysGuest 41 = .ok (.iinc 4 1, 3) := by decide +kernel
theorem dX12_laysGuest_44 : decode cX12_laysGuest 44 = .ok (.goto (-22), 3) := by decide +kernel
theorem dX12_laysGuest_47 : decode cX12_laysGuest 47 = .ok (.return_, 1) := by decide +kernel
theorem dX12_guest_0 : decode cX12_guest 0 = .ok (.iload_n 1, 1) := by decide +kernel
theorem dX12_guest_1 : decode cX12_guest 1 = .ok (.invokestatic 107, 3) := by decide +kernel
theorem dX12_guest_4 : decode cX12_guest 4 = .ok (.ifCond .eq 14, 3) := by decide +kernel
theorem dX12_guest_7 : decode cX12_guest 7 = .ok (.iload_n 2, 1) := by decide +kernel
theorem dX12_guest_8 : decode cX12_guest 8 = .ok (.iconst 0, 1) := by decide +kernel
theorem dX12_guest_9 : decode cX12_guest 9 = .ok (.sipush 9999, 3) := by decide +kernel
theorem dX12_guest_12 : decode cX12_guest 12 = .ok (.invokestatic 90, 3) := by decide +kernel
theorem dX12_guest_15 : decode cX12_guest 15 = .ok (.ifCond .ne 5, 3) := by decide +kernel
theorem dX12_guest_18 : decode cX12_guest 18 = .ok (.iconst 0, 1) := by decide +kernel
theorem dX12_guest_19 : decode cX12_guest 19 = .ok (.ireturn, 1) := by decide +kernel
theorem dX12_guest_20 : decode cX12_guest 20 = .ok (.aload_n 0, 1) := by decide +kernel
theorem dX12_guest_21 : decode cX12_guest 21 = .ok (.iload_n 1, 1) := by decide +kernel
theorem dX12_guest_22 : decode cX12_guest 22 = .ok (.iconst 1, 1) := by decide +kernel
theorem dX12_guest_23 : decode cX12_guest 23 = .ok (.iload_n 2, 1) := by decide +kernel
theorem dX12_guest_24 : decode cX12_guest 24 = .ok (.invokevirtual 111, 3) := by decide +kernel
theorem dX12_guest_27 : decode cX12_guest 27 = .ok (.iconst 1, 1) := by decide +kernel
theorem dX12_guest_28 : decode cX12_guest 28 = .ok (.ireturn, 1) := by decide +kernel
theorem dX12_grille_0 : decode cX12_grille 0 = .ok (.iload_n 1, 1) := by decide +kernel
theorem dX12_grille_1 : decode cX12_grille 1 = .ok (.invokestatic 107, 3) := by decide +kernel
theorem dX12_grille_4 : decode cX12_grille 4 = .ok (.ifCond .ne 5, 3) := by decide +kernel
theorem dX12_grille_7 : decode cX12_grille 7 = .ok (.iconst 0, 1) := by decide +kernel
theorem dX12_grille_8 : decode cX12_grille 8 = .ok (.ireturn, 1) := by decide +kernel
theorem dX12_grille_9 : decode cX12_grille 9 = .ok (.aload_n 0, 1) := by decide +kernel
theorem dX12_grille_10 : decode cX12_grille 10 = .ok (.getfield 7, 3) := by decide +kernel
theorem dX12_grille_13 : decode cX12_grille 13 = .ok (.bipush 48, 2) := by decide +kernel
theorem dX12_grille_15 : decode cX12_grille 15 = .ok (.iload_n 1, 1) := by decide +kernel
theorem dX12_grille_16 : decode cX12_grille 16 = .ok (.iadd, 1) := by decide +kernel
theorem dX12_grille_17 : decode cX12_grille 17 = .ok (.iload_n 2, 1) := by decide +kernel
theorem dX12_grille_18 : decode cX12_grille 18 = .ok (.ifCond .eq 7, 3) := by decide +kernel
theorem dX12_grille_21 : decode cX12_grille 21 = .ok (.iconst 1, 1) := by decide +kernel
theorem dX12_grille_22 : decode cX12_grille 22 = .ok (.goto 4, 3) := by decide +kernel
theorem dX12_grille_25 : decode cX12_grille 25 = .ok (.iconst 0, 1) := by decide +kernel
theorem dX12_grille_26 : decode cX12_grille 26 = .ok (.iastore, 1) := by decide +kernel
theorem dX12_grille_27 : decode cX12_grille 27 = .ok (.iconst 1, 1) := by decide +kernel
theorem dX12_grille_28 : decode cX12_grille 28 = .ok (.ireturn, 1) := by decide +kernel
theorem dX12_louvre_0 : decode cX12_louvre 0 = .ok (.iload_n 1, 1) := by decide +kernel
theorem dX12_louvre_1 : decode cX12_louvre 1 = .ok (.invokestatic 107, 3) := by decide +kernel
theorem dX12_louvre_4 : decode cX12_louvre 4 = .ok (.ifCond .eq 12, 3) := by decide +kernel
theorem dX12_louvre_7 : decode cX12_louvre 7 = .ok (.iload_n 2, 1) := by decide +kernel
theorem dX12_louvre_8 : decode cX12_louvre 8 = .ok (.iconst 0, 1) := by decide +kernel
theorem dX12_louvre_9 : decode cX12_louvre 9 = .ok (.iconst 2, 1) := by decide +kernel
theorem dX12_louvre_10 : decode cX12_louvre 10 = .ok (.invokestatic 90, 3) := by decide +kernel
theorem dX12_louvre_13 : decode cX12_louvre 13 = .ok (.ifCond .ne 5, 3) := by decide +kernel
theorem dX12_louvre_16 : decode cX12_louvre 16 = .ok (.iconst 0, 1) := by decide +kernel
theorem dX12_louvre_17 : decode cX12_louvre 17 = .ok (.ireturn, 1) := by decide +kernel
theorem dX12_louvre_18 : decode cX12_louvre 18 = .ok (.aload_n 0, 1) := by decide +kernel
theorem dX12_louvre_19 : decode cX12_louvre 19 = .ok (.getfield 7, 3) := by decide +kernel
theorem dX12_louvre_22 : decode cX12_louvre 22 = .ok (.bipush 72, 2) := by decide +kernel
theorem dX12_louvre_24 : decode cX12_louvre 24 = .ok (.iload_n 1, 1) := by decide +kernel
theorem dX12_louvre_25 : decode cX12_louvre 25 = .ok (.iadd, 1) := by decide +kernel
theorem dX12_louvre_26 : decode cX12_louvre 26 = .ok (.iload_n 2, 1) := by decide +kernel
theorem dX12_louvre_27 : decode cX12_louvre 27 = .ok (.iastore, 1) := by decide +kernel
theorem dX12_louvre_28 : decode cX12_louvre 28 = .ok (.iconst 1, 1) := by decide +kernel
theorem dX12_louvre_29 : decode cX12_louvre 29 = .ok (.ireturn, 1) := by decide +kernel
theorem dX12_types_0 : decode cX12_types 0 = .ok (.iconst 3, 1) := by decide +kernel
theorem dX12_types_1 : decode cX12_types 1 = .ok (.istore_n 2, 1) := by decide +kernel
theorem dX12_types_2 : decode cX12_types 2 = .ok (.iload_n 2, 1) := by decide +kernel
theorem dX12_types_3 : decode cX12_types 3 = .ok (.ifCond .lt 35, 3) := by decide +kernel
theorem dX12_types_6 : decode cX12_types 6 = .ok (.aload_n 0, 1) := by decide +kernel
theorem dX12_types_7 : decode cX12_types 7 = .ok (.getfield 19, 3) := by decide +kernel
theorem dX12_types_10 : decode cX12_types 10 = .ok (.aload_n 0, 1) := by decide +kernel
theorem dX12_types_11 : decode cX12_types 11 = .ok (.getfield 115, 3) := by decide +kernel
theorem dX12_types_14 : decode cX12_types 14 = .ok (.iload_n 1, 1) := by decide +kernel
theorem dX12_types_15 : decode cX12_types 15 = .ok (.bipush 8, 2) := by decide +kernel
theorem dX12_types_17 : decode cX12_types 17 = .ok (.iload_n 2, 1) := by decide +kernel
theorem dX12_types_18 : decode cX12_types 18 = .ok (.imul, 1) := by decide +kernel
theorem dX12_types_19 : decode cX12_types 19 = .ok (.ishr, 1) := by decide +kernel
theorem dX12_types_20 : decode cX12_types 20 = .ok (.i2b, 1) := by decide +kernel
theorem dX12_types_21 : decode cX12_types 21 = .ok (.bastore, 1) := by decide +kernel
theorem dX12_types_22 : decode cX12_types 22 = .ok (.aload_n 0, 1) := by decide +kernel
theorem dX12_types_23 : decode cX12_types 23 = .ok (.aload_n 0, 1) := by decide +kernel
theorem dX12_types_24 : decode cX12_types 24 = .ok (.getfield 115, 3) := by decide +kernel
theorem dX12_types_27 : decode cX12_types 27 = .ok (.iconst 1, 1) := by decide +kernel
theorem dX12_types_28 : decode cX12_types 28 = .ok (.iadd, 1) := by decide +kernel
theorem dX12_types_29 : decode cX12_types 29 = .ok (.putfield 115, 3) := by decide +kernel
theorem dX12_types_32 : decode cX12_types 32 = .ok (.iinc 2 (-1), 3) := by decide +kernel
theorem dX12_types_35 : decode cX12_types 35 = .ok (.goto (-33), 3) := by decide +kernel
theorem dX12_types_38 : decode cX12_types 38 = .ok (.return_, 1) := by decide +kernel
theorem dX12_feed_0 : decode cX12_feed 0 = .ok (.aload_n 0, 1) := by decide +kernel
theorem dX12_feed_1 : decode cX12_feed 1 = .ok (.getfield 115, 3) := by decide +kernel
theorem dX12_feed_4 : decode cX12_feed 4 = .ok (.bipush 20, 2) := by decide +kernel
theorem dX12_feed_6 : decode cX12_feed 6 = .ok (.iadd, 1) := by decide +kernel
theorem dX12_feed_7 : decode cX12_feed 7 = .ok (.sipush 260, 3) := by decide +kernel
theorem dX12_feed_10 : decode cX12_feed 10 = .ok (.if_icmp .le 5, 3) := by decide +kernel
theorem dX12_feed_13 : decode cX12_feed 13 = .ok (.iconst (-1), 1) := by decide +kernel
theorem dX12_feed_14 : decode cX12_feed 14 = .ok (.ireturn, 1) := by decide +kernel
theorem dX12_feed_15 : decode cX12_feed 15 = .ok (.aload_n 0, 1) := by decide +kernel
theorem dX12_feed_16 : decode cX12_feed 16 = .ok (.iload_n 1, 1) := by decide +kernel
theorem dX12_feed_17 : decode cX12_feed 17 = .ok (.invokevirtual 119, 3) := by decide +kernel
theorem dX12_feed_20 : decode cX12_feed 20 = .ok (.aload_n 0, 1) := by decide +kernel
theorem dX12_feed_21 : decode cX12_feed 21 = .ok (.iload_n 2, 1) := by decide +kernel
theorem dX12_feed_22 : decode cX12_feed 22 = .ok (.invokevirtual 119, 3) := by decide +kernel
theorem dX12_feed_25 : decode cX12_feed 25 = .ok (.aload_n 0, 1) := by decide +kernel
theorem dX12_feed_26 : decode cX12_feed 26 = .ok (.iload_n 3, 1) := by decide +kernel
theorem dX12_feed_27 : decode cX12_feed 27 = .ok (.invokevirtual 119, 3) := by decide +kernel
theorem dX12_feed_30 : decode cX12_feed 30 = .ok (.aload_n 0, 1) := by decide +kernel
theorem dX12_feed_31 : decode cX12_feed 31 = .ok (.iload 4, 2) := by decide +kernel
theorem dX12_feed_33 : decode cX12_feed 33 = .ok (.invokevirtual 119, 3) := by decide +kernel
theorem dX12_feed_36 : decode cX12_feed 36 = .ok (.aload_n 0, 1) := by decide +kernel
theorem dX12_feed_37 : decode cX12_feed 37 = .ok (.iload 5, 2) := by decide +kernel
theorem dX12_feed_39 : decode cX12_feed 39 = .ok (.invokevirtual 119, 3) := by decide +kernel
theorem dX12_feed_42 : decode cX12_feed 42 = .ok (.aload_n 0, 1) := by decide +kernel
theorem dX12_feed_43 : decode cX12_feed 43 = .ok (.getfield 115, 3) := by decide +kernel
theorem dX12_feed_46 : decode cX12_feed 46 = .ok (.ireturn, 1) := by decide +kernel
theorem dX12_octet_0 : decode cX12_octet 0 = .ok (.aload_n 0, 1) := by decide +kernel
theorem dX12_octet_1 : decode cX12_octet 1 = .ok (.getfield 19, 3) := by decide +kernel
theorem dX12_octet_4 : decode cX12_octet 4 = .ok (.iload_n 1, 1) := by decide +kernel
theorem dX12_octet_5 : decode cX12_octet 5 = .ok (.baload, 1) := by decide +kernel
theorem dX12_octet_6 : decode cX12_octet 6 = .ok (.sipush 255, 3) := by decide +kernel
theorem dX12_octet_9 : decode cX12_octet 9 = .ok (.iand, 1) := by decide +kernel
theorem dX12_octet_10 : decode cX12_octet 10 = .ok (.ireturn, 1) := by decide +kernel
theorem dX12_here_0 : decode cX12_here 0 = .ok (.aload_n 0, 1) := by decide +kernel
theorem dX12_here_1 : decode cX12_here 1 = .ok (.getfield 123, 3) := by decide +kernel
theorem dX12_here_4 : decode cX12_here 4 = .ok (.aload_n 0, 1) := by decide +kernel
theorem dX12_here_5 : decode cX12_here 5 = .ok (.getfield 126, 3) := by decide +kernel
theorem dX12_here_8 : decode cX12_here 8 = .ok (.if_icmp .ge 19, 3) := by decide +kernel
theorem dX12_here_11 : decode cX12_here 11 = .ok (.aload_n 0, 1) := by decide +kernel
theorem dX12_here_12 : decode cX12_here 12 = .ok (.getfield 19, 3) := by decide +kernel
theorem dX12_here_15 : decode cX12_here 15 = .ok (.aload_n 0, 1) := by decide +kernel
theorem dX12_here_16 : decode cX12_here 16 = .ok (.getfield 123, 3) := by decide +kernel
theorem dX12_here_19 : decode cX12_here 19 = .ok (.baload, 1) := by decide +kernel
theorem dX12_here_20 : decode cX12_here 20 = .ok (.sipush 255, 3) := by decide +kernel
theorem dX12_here_23 : decode cX12_here 23 = .ok (.iand, 1) := by decide +kernel
theorem dX12_here_24 : decode cX12_here 24 = .ok (.goto 4, 3) := by decide +kernel
theorem dX12_here_27 : decode cX12_here 27 = .ok (.iconst (-1), 1) := by decide +kernel
theorem dX12_here_28 : decode cX12_here 28 = .ok (.ireturn, 1) := by decide +kernel
theorem dX12_isDigit_0 : decode cX12_isDigit 0 = .ok (.aload_n 0, 1) := by decide +kernel
theorem dX12_isDigit_1 : decode cX12_isDigit 1 = .ok (.invokevirtual 129, 3) := by decide +kernel
theorem dX12_isDigit_4 : decode cX12_isDigit 4 = .ok (.bipush 48, 2) := by decide +kernel
theorem dX12_isDigit_6 : decode cX12_isDigit 6 = .ok (.if_icmp .lt 16, 3) := by decide +kernel
theorem dX12_isDigit_9 : decode cX12_isDigit 9 = .ok (.aload_n 0, 1) := by decide +kernel
theorem dX12_isDigit_10 : decode cX12_isDigit 10 = .ok (.invokevirtual 129, 3) := by decide +kernel
theorem dX12_isDigit_13 : decode cX12_isDigit 13 = .ok (.bipush 57, 2) := by decide +kernel
theorem dX12_isDigit_15 : decode cX12_isDigit 15 = .ok (.if_icmp .gt 7, 3) := by decide +kernel
theorem dX12_isDigit_18 : decode cX12_isDigit 18 = .ok (.iconst 1, 1) := by decide +kernel
theorem dX12_isDigit_19 : decode cX12_isDigit 19 = .ok (.goto 4, 3) := by decide +kernel
theorem dX12_isDigit_22 : decode cX12_isDigit 22 = .ok (.iconst 0, 1) := by decide +kernel
theorem dX12_isDigit_23 : decode cX12_isDigit 23 = .ok (.ireturn, 1) := by decide +kernel
theorem dX12_wrongAt_0 : decode cX12_wrongAt 0 = .ok (.aload_n 0, 1) := by decide +kernel
theorem dX12_wrongAt_1 : decode cX12_wrongAt 1 = .ok (.sipush (-1000), 3) := by decide +kernel
theorem dX12_wrongAt_4 : decode cX12_wrongAt 4 = .ok (.iload_n 1, 1) := by decide +kernel
theorem dX12_wrongAt_5 : decode cX12_wrongAt 5 = .ok (.imul, 1) := by decide +kernel
theorem dX12_wrongAt_6 : decode cX12_wrongAt 6 = .ok (.iload_n 2, 1) := by decide +kernel
theorem dX12_wrongAt_7 : decode cX12_wrongAt 7 = .ok (.isub, 1) := by decide +kernel
theorem dX12_wrongAt_8 : decode cX12_wrongAt 8 = .ok (.putfield 133, 3) := by decide +kernel
theorem dX12_wrongAt_11 : decode cX12_wrongAt 11 = .ok (.iconst 0, 1) := by decide +kernel
theorem dX12_wrongAt_12 : decode cX12_wrongAt 12 = .ok (.ireturn, 1) := by decide +kernel
theorem dX12_takes_0 : decode cX12_takes 0 = .ok (.aload_n 0, 1) := by decide +kernel
theorem dX12_takes_1 : decode cX12_takes 1 = .ok (.invokevirtual 129, 3) := by decide +kernel
theorem dX12_takes_4 : decode cX12_takes 4 = .ok (.iload_n 1, 1) := by decide +kernel
theorem dX12_takes_5 : decode cX12_takes 5 = .ok (.if_icmp .eq 13, 3) := by decide +kernel
theorem dX12_takes_8 : decode cX12_takes 8 = .ok (.aload_n 0, 1) := by decide +kernel
theorem dX12_takes_9 : decode cX12_takes 9 = .ok (.iconst 1, 1) := by decide +kernel
theorem dX12_takes_10 : decode cX12_takes 10 = .ok (.aload_n 0, 1) := by decide +kernel
theorem dX12_takes_11 : decode cX12_takes 11 = .ok (.getfield 123, 3) := by decide +kernel
theorem dX12_takes_14 : decode cX12_takes 14 = .ok (.invokevirtual 136, 3) := by decide +kernel
theorem dX12_takes_17 : decode cX12_takes 17 = .ok (.ireturn, 1) := by decide +kernel
theorem dX12_takes_18 : decode cX12_takes 18 = .ok (.aload_n 0, 1) := by decide +kernel
theorem dX12_takes_19 : decode cX12_takes 19 = .ok (.aload_n 0, 1) := by decide +kernel
theorem dX12_takes_20 : decode cX12_takes 20 = .ok (.getfield 123, 3) := by decide +kernel
theorem dX12_takes_23 : decode cX12_takes 23 = .ok (.iconst 1, 1) := by decide +kernel
theorem dX12_takes_24 : decode cX12_takes 24 = .ok (.iadd, 1) := by decide +kernel
theorem dX12_takes_25 : decode cX12_takes 25 = .ok (.putfield 123, 3) := by decide +kernel
theorem dX12_takes_28 : decode cX12_takes 28 = .ok (.iconst 1, 1) := by decide +kernel
theorem dX12_takes_29 : decode cX12_takes 29 = .ok (.ireturn, 1) := by decide +kernel
theorem dX12_readsNumber_0 : decode cX12_readsNumber 0 = .ok (.aload_n 0, 1) := by decide +kernel
theorem dX12_readsNumber_1 : decode cX12_readsNumber 1 = .ok (.getfield 123, 3) := by decide +kernel
theorem dX12_readsNumber_4 : decode cX12_readsNumber 4 = .ok (.istore_n 1, 1) := by decide +kernel
theorem dX12_readsNumber_5 : decode cX12_readsNumber 5 = .ok (.aload_n 0, 1) := by decide +kernel
theorem dX12_readsNumber_6 : decode cX12_readsNumber 6 = .ok (.iconst 0, 1) := by decide +kernel
theorem dX12_readsNumber_7 : decode cX12_readsNumber 7 = .ok (.putfield 140, 3) := by decide +kernel
theorem dX12_readsNumber_10 : decode cX12_readsNumber 10 = .ok (.aload_n 0, 1) := by decide +kernel
theorem dX12_readsNumber_11 : decode cX12_readsNumber 11 = .ok (.invokevirtual 143, 3) := by decide +kernel
theorem dX12_readsNumber_14 : decode cX12_readsNumber 14 = .ok (.ifCond .eq 55, 3) := by decide +kernel
theorem dX12_readsNumber_17 : decode cX12_readsNumber 17 = .ok (.aload_n 0, 1) := by decide +kernel
theorem dX12_readsNumber_18 : decode cX12_readsNumber 18 = .ok (.getfield 123, 3) := by decide +kernel
theorem dX12_readsNumber_21 : decode cX12_readsNumber 21 = .ok (.iload_n 1, 1) := by decide +kernel
theorem dX12_readsNumber_22 : decode cX12_readsNumber 22 = .ok (.iconst 5, 1) := by decide +kernel
theorem dX12_readsNumber_23 : decode cX12_readsNumber 23 = .ok (.iadd, 1) := by decide +kernel
theorem dX12_readsNumber_24 : decode cX12_readsNumber 24 = .ok (.if_icmp .ne 13, 3) := by decide +kernel
theorem dX12_readsNumber_27 : decode cX12_readsNumber 27 = .ok (.aload_n 0, 1) := by decide +kernel
theorem dX12_readsNumber_28 : decode cX12_readsNumber 28 = .ok (.iconst 2, 1) := by decide +kernel
theorem dX12_readsNumber_29 : decode cX12_readsNumber 29 = .ok (.aload_n 0, 1) := by decide +kernel
theorem dX12_readsNumber_30 : decode cX12_readsNumber 30 = .ok (.getfield 123, 3) := by decide +kernel
theorem dX12_readsNumber_33 : decode cX12_readsNumber 33 = .ok (.invokevirtual 136, 3) := by decide +kernel
theorem dX12_readsNumber_36 : decode cX12_readsNumber 36 = .ok (.ireturn, 1) := by decide +kernel
theorem dX12_readsNumber_37 : decode cX12_readsNumber 37 = .ok (.aload_n 0, 1) := by decide +kernel
theorem dX12_readsNumber_38 : decode cX12_readsNumber 38 = .ok (.bipush 10, 2) := by decide +kernel
theorem dX12_readsNumber_40 : decode cX12_readsNumber 40 = .ok (.aload_n 0, 1) := by decide +kernel
theorem dX12_readsNumber_41 : decode cX12_readsNumber 41 = .ok (.getfield 140, 3) := by decide +kernel
theorem dX12_readsNumber_44 : decode cX12_readsNumber 44 = .ok (.imul, 1) := by decide +kernel
theorem dX12_readsNumber_45 : decode cX12_readsNumber 45 = .ok (.aload_n 0, 1) := by decide +kernel
theorem dX12_readsNumber_46 : decode cX12_readsNumber 46 = .ok (.invokevirtual 129, 3) := by decide +kernel
theorem dX12_readsNumber_49 : decode cX12_readsNumber 49 = .ok (.iadd, 1) := by decide +kernel
theorem dX12_readsNumber_50 : decode cX12_readsNumber 50 = .ok (.bipush 48, 2) := by decide +kernel
theorem dX12_readsNumber_52 : decode cX12_readsNumber 52 = .ok (.isub, 1) := by decide +kernel
theorem dX12_readsNumber_53 : decode cX12_readsNumber 53 = .ok (.putfield 140, 3) := by decide +kernel
theorem dX12_readsNumber_56 : decode cX12_readsNumber 56 = .ok (.aload_n 0, 1) := by decide +kernel
theorem dX12_readsNumber_57 : decode cX12_readsNumber 57 = .ok (.aload_n 0, 1) := by decide +kernel
theorem dX12_readsNumber_58 : decode cX12_readsNumber 58 = .ok (.getfield 123, 3) := by decide +kernel
theorem dX12_readsNumber_61 : decode cX12_readsNumber 61 = .ok (.iconst 1, 1) := by decide +kernel
theorem dX12_readsNumber_62 : decode cX12_readsNumber 62 = .ok (.iadd, 1) := by decide +kernel
theorem dX12_readsNumber_63 : decode cX12_readsNumber 63 = .ok (.putfield 123, 3) := by decide +kernel
theorem dX12_readsNumber_66 : decode cX12_readsNumber 66 = .ok (.goto (-56), 3) := by decide +kernel
theorem dX12_readsNumber_69 : decode cX12_readsNumber 69 = .ok (.iconst 1, 1) := by decide +kernel
theorem dX12_readsNumber_70 : decode cX12_readsNumber 70 = .ok (.ireturn, 1) := by decide +kernel
theorem dX12_notes_0 : decode cX12_notes 0 = .ok (.aload_n 0, 1) := by decide +kernel
theorem dX12_notes_1 : decode cX12_notes 1 = .ok (.getfield 23, 3) := by decide +kernel
theorem dX12_notes_4 : decode cX12_notes 4 = .ok (.aload_n 0, 1) := by decide +kernel
theorem dX12_notes_5 : decode cX12_notes 5 = .ok (.getfield 147, 3) := by decide +kernel
theorem dX12_notes_8 : decode cX12_notes 8 = .ok (.ldc 150, 2) := by decide +kernel
theorem dX12_notes_10 : decode cX12_notes 10 = .ok (.iload_n 1, 1) := by decide +kernel
theorem dX12_notes_11 : decode cX12_notes 11 = .ok (.imul, 1) := by decide +kernel
theorem dX12_notes_12 : decode cX12_notes 12 = .ok (.iload_n 2, 1) := by decide +kernel
theorem dX12_notes_13 : decode cX12_notes 13 = .ok (.iadd, 1) := by decide +kernel
theorem dX12_notes_14 : decode cX12_notes 14 = .ok (.iastore, 1) := by decide +kernel
theorem dX12_notes_15 : decode cX12_notes 15 = .ok (.aload_n 0, 1) := by decide +kernel
theorem dX12_notes_16 : decode cX12_notes 16 = .ok (.aload_n 0, 1) := by decide +kernel
theorem dX12_notes_17 : decode cX12_notes 17 = .ok (.getfield 147, 3) := by decide +kernel
theorem dX12_notes_20 : decode cX12_notes 20 = .ok (.iconst 1, 1) := by decide +kernel
theorem dX12_notes_21 : decode cX12_notes 21 = .ok (.iadd, 1) := by decide +kernel
theorem dX12_notes_22 : decode cX12_notes 22 = .ok (.putfield 147, 3) := by decide +kernel
theorem dX12_notes_25 : decode cX12_notes 25 = .ok (.return_, 1) := by decide +kernel
theorem dX12_opens_0 : decode cX12_opens 0 = .ok (.aload_n 0, 1) := by decide +kernel
theorem dX12_opens_1 : decode cX12_opens 1 = .ok (.getfield 151, 3) := by decide +kernel
theorem dX12_opens_4 : decode cX12_opens 4 = .ok (.bipush 6, 2) := by decide +kernel
theorem dX12_opens_6 : decode cX12_opens 6 = .ok (.if_icmp .ne 13, 3) := by decide +kernel
theorem dX12_opens_9 : decode cX12_opens 9 = .ok (.aload_n 0, 1) := by decide +kernel
theorem dX12_opens_10 : decode cX12_opens 10 = .ok (.iconst 5, 1) := by decide +kernel
theorem dX12_opens_11 : decode cX12_opens 11 = .ok (.aload_n 0, 1) := by decide +kernel
theorem dX12_opens_12 : decode cX12_opens 12 = .ok (.getfield 123, 3) := by decide +kernel
theorem dX12_opens_15 : decode cX12_opens 15 = .ok (.invokevirtual 136, 3) := by decide +kernel
theorem dX12_opens_18 : decode cX12_opens 18 = .ok (.ireturn, 1) := by decide +kernel
theorem dX12_opens_19 : decode cX12_opens 19 = .ok (.aload_n 0, 1) := by decide +kernel
theorem dX12_opens_20 : decode cX12_opens 20 = .ok (.aload_n 0, 1) := by decide +kernel
theorem dX12_opens_21 : decode cX12_opens 21 = .ok (.getfield 151, 3) := by decide +kernel
theorem dX12_opens_24 : decode cX12_opens 24 = .ok (.iconst 1, 1) := by decide +kernel
theorem dX12_opens_25 : decode cX12_opens 25 = .ok (.iadd, 1) := by decide +kernel
theorem dX12_opens_26 : decode cX12_opens 26 = .ok (.putfield 151, 3) := by decide +kernel
theorem dX12_opens_29 : decode cX12_opens 29 = .ok (.aload_n 0, 1) := by decide +kernel
theorem dX12_opens_30 : decode cX12_opens 30 = .ok (.getfield 26, 3) := by decide +kernel
theorem dX12_opens_33 : decode cX12_opens 33 = .ok (.aload_n 0, 1) := by decide +kernel
theorem dX12_opens_34 : decode cX12_opens 34 = .ok (.getfield 154, 3) := by decide +kernel
theorem dX12_opens_37 : decode cX12_opens 37 = .ok (.ldc 150, 2) := by decide +kernel
theorem dX12_opens_39 : decode cX12_opens 39 = .ok (.iload_n 1, 1) := by decide +kernel
theorem dX12_opens_40 : decode cX12_opens 40 = .ok (.imul, 1) := by decide +kernel
theorem dX12_opens_41 : decode cX12_opens 41 = .ok (.iastore, 1) := by decide +kernel
theorem dX12_opens_42 : decode cX12_opens 42 = .ok (.aload_n 0, 1) := by decide +kernel
theorem dX12_opens_43 : decode cX12_opens 43 = .ok (.aload_n 0, 1) := by decide +kernel
theorem dX12_opens_44 : decode cX12_opens 44 = .ok (.getfield 154, 3) := by decide +kernel
theorem dX12_opens_47 : decode cX12_opens 47 = .ok (.iconst 1, 1) := by decide +kernel
theorem dX12_opens_48 : decode cX12_opens 48 = .ok (.iadd, 1) := by decide +kernel
theorem dX12_opens_49 : decode cX12_opens 49 = .ok (.putfield 154, 3) := by decide +kernel
theorem dX12_opens_52 : decode cX12_opens 52 = .ok (.aload_n 0, 1) := by decide +kernel
theorem dX12_opens_53 : decode cX12_opens 53 = .ok (.aload_n 0, 1) := by decide +kernel
theorem dX12_opens_54 : decode cX12_opens 54 = .ok (.getfield 123, 3) := by decide +kernel
theorem dX12_opens_57 : decode cX12_opens 57 = .ok (.iconst 1, 1) := by decide +kernel
theorem dX12_opens_58 : decode cX12_opens 58 = .ok (.iadd, 1) := by decide +kernel
theorem dX12_opens_59 : decode cX12_opens 59 = .ok (.putfield 123, 3) := by decide +kernel
theorem dX12_opens_62 : decode cX12_opens 62 = .ok (.iconst 1, 1) := by decide +kernel
theorem dX12_opens_63 : decode cX12_opens 63 = .ok (.ireturn, 1) := by decide +kernel
theorem dX12_waitTop_0 : decode cX12_waitTop 0 = .ok (.aload_n 0, 1) := by decide +kernel
theorem dX12_waitTop_1 : decode cX12_waitTop 1 = .ok (.getfield 154, 3) := by decide +kernel
theorem dX12_waitTop_4 : decode cX12_waitTop 4 = .ok (.ifCond .ne 7, 3) := by decide +kernel
theorem dX12_waitTop_7 : decode cX12_waitTop 7 = .ok (.iconst (-1), 1) := by decide +kernel
theorem dX12_waitTop_8 : decode cX12_waitTop 8 = .ok (.goto 17, 3) := by decide +kernel
theorem dX12_waitTop_11 : decode cX12_waitTop 11 = .ok (.aload_n 0, 1) := by decide +kernel
theorem dX12_waitTop_12 : decode cX12_waitTop 12 = .ok (.getfield 26, 3) := by decide +kernel
theorem dX12_waitTop_15 : decode cX12_waitTop 15 = .ok (.aload_n 0, 1) := by decide +kernel
theorem dX12_waitTop_16 : decode cX12_waitTop 16 = .ok (.getfield 154, 3) := by decide +kernel
theorem dX12_waitTop_19 : decode cX12_waitTop 19 = .ok (.iconst 1, 1) := by decide +kernel
theorem dX12_waitTop_20 : decode cX12_waitTop 20 = .ok (.isub, 1) := by decide +kernel
theorem dX12_waitTop_21 : decode cX12_waitTop 21 = .ok (.iaload, 1) := by decide +kernel
theorem dX12_waitTop_22 : decode cX12_waitTop 22 = .ok (.ldc 150, 2) := by decide +kernel
theorem dX12_waitTop_24 : decode cX12_waitTop 24 = .ok (.idiv, 1) := by decide +kernel
theorem dX12_waitTop_25 : decode cX12_waitTop 25 = .ok (.ireturn, 1) := by decide +kernel
theorem dX12_factOf_0 : decode cX12_factOf 0 = .ok (.iload_n 0, 1) := by decide +kernel
theorem dX12_factOf_1 : decode cX12_factOf 1 = .ok (.tableswitch 125 97 119 #[119, 125, 125, 125, 125, 113, 117, 122, 125, 125, 125, 125, 125, 125, 125, 111, 125, 107, 109, 125, 125, 125, 115], 107) := by decide +kernel
theorem dX12_factOf_108 : decode cX12_factOf 108 = .ok (.iconst 0, 1) := by decide +kernel
theorem dX12_factOf_109 : decode cX12_factOf 109 = .ok (.ireturn, 1) := by decide +kernel
theorem dX12_factOf_110 : decode cX12_factOf 110 = .ok (.iconst 1, 1) := by decide +kernel
theorem dX12_factOf_111 : decode cX12_factOf 111 = .ok (.ireturn, 1) := by decide +kernel
theorem dX12_factOf_112 : decode cX12_factOf 112 = .ok (.iconst 2, 1) := by decide +kernel
theorem dX12_factOf_113 : decode cX12_factOf 113 = .ok (.ireturn, 1) := by decide +kernel
theorem dX12_factOf_114 : decode cX12_factOf 114 = .ok (.iconst 3, 1) := by decide +kernel
theorem dX12_factOf_115 : decode cX12_factOf 115 = .ok (.ireturn, 1) := by decide +kernel
theorem dX12_factOf_116 : decode cX12_factOf 116 = .ok (.iconst 4, 1) := by decide +kernel
theorem dX12_factOf_117 : decode cX12_factOf 117 = .ok (.ireturn, 1) := by decide +kernel
theorem dX12_factOf_118 : decode cX12_factOf 118 = .ok (.iconst 5, 1) := by decide +kernel
theorem dX12_factOf_119 : decode cX12_factOf 119 = .ok (.ireturn, 1) := by decide +kernel
theorem dX12_factOf_120 : decode cX12_factOf 120 = .ok (.bipush 6, 2) := by decide +kernel
theorem dX12_factOf_122 : decode cX12_factOf 122 = .ok (.ireturn, 1) := by decide +kernel
theorem dX12_factOf_123 : decode cX12_factOf 123 = .ok (.bipush 7, 2) := by decide +kernel
theorem dX12_factOf_125 : decode cX12_factOf 125 = .ok (.ireturn, 1) := by decide +kernel
theorem dX12_factOf_126 : decode cX12_factOf 126 = .ok (.iconst (-1), 1) := by decide +kernel
theorem dX12_factOf_127 : decode cX12_factOf 127 = .ok (.ireturn, 1) := by decide +kernel
theorem dX12_sumSign_0 : decode cX12_sumSign 0 = .ok (.iload_n 0, 1) := by decide +kernel
theorem dX12_sumSign_1 : decode cX12_sumSign 1 = .ok (.bipush 43, 2) := by decide +kernel
theorem dX12_sumSign_3 : decode cX12_sumSign 3 = .ok (.if_icmp .ne 7, 3) := by decide +kernel
theorem dX12_sumSign_6 : decode cX12_sumSign 6 = .ok (.iconst 2, 1) := by decide +kernel
theorem dX12_sumSign_7 : decode cX12_sumSign 7 = .ok (.goto 45, 3) := by decide +kernel
theorem dX12_sumSign_10 : decode cX12_sumSign 10 = .ok (.iload_n 0, 1) := by decide +kernel
theorem dX12_sumSign_11 : decode cX12_sumSign 11 = .ok (.bipush 45, 2) := by decide +kernel
theorem dX12_sumSign_13 : decode cX12_sumSign 13 = .ok (.if_icmp .ne 7, 3) := by decide +kernel
theorem dX12_sumSign_16 : decode cX12_sumSign 16 = .ok (.iconst 3, 1) := by decide +kernel
theorem dX12_sumSign_17 : decode cX12_sumSign 17 = .ok (.goto 35, 3) := by decide +kernel
theorem dX12_sumSign_20 : decode cX12_sumSign 20 = .ok (.iload_n 0, 1) := by decide +kernel
theorem dX12_sumSign_21 : decode cX12_sumSign 21 = .ok (.bipush 42, 2) := by decide +kernel
theorem dX12_sumSign_23 : decode cX12_sumSign 23 = .ok (.if_icmp .ne 7, 3) := by decide +kernel
theorem dX12_sumSign_26 : decode cX12_sumSign 26 = .ok (.iconst 4, 1) := by decide +kernel
theorem dX12_sumSign_27 : decode cX12_sumSign 27 = .ok (.goto 25, 3) := by decide +kernel
theorem dX12_sumSign_30 : decode cX12_sumSign 30 = .ok (.iload_n 0, 1) := by decide +kernel
theorem dX12_sumSign_31 : decode cX12_sumSign 31 = .ok (.bipush 47, 2) := by decide +kernel
theorem dX12_sumSign_33 : decode cX12_sumSign 33 = .ok (.if_icmp .ne 7, 3) := by decide +kernel
theorem dX12_sumSign_36 : decode cX12_sumSign 36 = .ok (.iconst 5, 1) := by decide +kernel
theorem dX12_sumSign_37 : decode cX12_sumSign 37 = .ok (.goto 15, 3) := by decide +kernel
theorem dX12_sumSign_40 : decode cX12_sumSign 40 = .ok (.iload_n 0, 1) := by decide +kernel
theorem dX12_sumSign_41 : decode cX12_sumSign 41 = .ok (.bipush 37, 2) := by decide +kernel
theorem dX12_sumSign_43 : decode cX12_sumSign 43 = .ok (.if_icmp .ne 8, 3) := by decide +kernel
theorem dX12_sumSign_46 : decode cX12_sumSign 46 = .ok (.bipush 6, 2) := by decide +kernel
theorem dX12_sumSign_48 : decode cX12_sumSign 48 = .ok (.goto 4, 3) := by decide +kernel
theorem dX12_sumSign_51 : decode cX12_sumSign 51 = .ok (.iconst (-1), 1) := by decide +kernel
theorem dX12_sumSign_52 : decode cX12_sumSign 52 = .ok (.ireturn, 1) := by decide +kernel
theorem dX12_closesSums_0 : decode cX12_closesSums 0 = .ok (.aload_n 0, 1) := by decide +kernel
theorem dX12_closesSums_1 : decode cX12_closesSums 1 = .ok (.invokevirtual 157, 3) := by decide +kernel
theorem dX12_closesSums_4 : decode cX12_closesSums 4 = .ok (.iconst 4, 1) := by decide +kernel
theorem dX12_closesSums_5 : decode cX12_closesSums 5 = .ok (.if_icmp .lt 12, 3) := by decide +kernel
theorem dX12_closesSums_8 : decode cX12_closesSums 8 = .ok (.aload_n 0, 1) := by decide +kernel
theorem dX12_closesSums_9 : decode cX12_closesSums 9 = .ok (.invokevirtual 157, 3) := by decide +kernel
theorem dX12_closesSums_12 : decode cX12_closesSums 12 = .ok (.bipush 6, 2) := by decide +kernel
theorem dX12_closesSums_14 : decode cX12_closesSums 14 = .ok (.if_icmp .le 23, 3) := by decide +kernel
theorem dX12_closesSums_17 : decode cX12_closesSums 17 = .ok (.iload_n 1, 1) := by decide +kernel
theorem dX12_closesSums_18 : decode cX12_closesSums 18 = .ok (.ifCond .eq 41, 3) := by decide +kernel
theorem dX12_closesSums_21 : decode cX12_closesSums 21 = .ok (.aload_n 0, 1) := by decide +kernel
theorem dX12_closesSums_22 : decode cX12_closesSums 22 = .ok (.invokevirtual 157, 3) := by decide +kernel
theorem dX12_closesSums_25 : decode cX12_closesSums 25 = .ok (.iconst 2, 1) := by decide +kernel
theorem dX12_closesSums_26 : decode cX12_closesSums 26 = .ok (.if_icmp .eq 11, 3) := by decide +kernel
theorem dX12_closesSums_29 : decode cX12_closesSums 29 = .ok (.aload_n 0, 1) := by decide +kernel
theorem dX12_closesSums_30 : decode cX12_closesSums 30 = .ok (.invokevirtual 157, 3) := by decide +kernel
theorem dX12_closesSums_33 : decode cX12_closesSums 33 = .ok (.iconst 3, 1) := by decide +kernel
theorem dX12_closesSums_34 : decode cX12_closesSums 34 = .ok (.if_icmp .ne 25, 3) := by decide +kernel
theorem dX12_closesSums_37 : decode cX12_closesSums 37 = .ok (.aload_n 0, 1) := by decide +kernel
theorem dX12_closesSums_38 : decode cX12_closesSums 38 = .ok (.aload_n 0, 1) := by decide +kernel
theorem dX12_closesSums_39 : decode cX12_closesSums 39 = .ok (.invokevirtual 157, 3) := by decide +kernel
theorem dX12_closesSums_42 : decode cX12_closesSums 42 = .ok (.iconst 0, 1) := by decide +kernel
theorem dX12_closesSums_43 : decode cX12_closesSums 43 = .ok (.invokevirtual 160, 3) := by decide +kernel
theorem dX12_closesSums_46 : decode cX12_closesSums 46 = .ok (.aload_n 0, 1) := by decide +kernel
theorem dX12_closesSums_47 : decode cX12_closesSums 47 = .ok (.aload_n 0, 1) := by decide +kernel
theorem dX12_closesSums_48 : decode cX12_closesSums 48 = .ok (.getfield 154, 3) := by decide +kernel
theorem dX12_closesSums_51 : decode cX12_closesSums 51 = .ok (.iconst 1, 1) := by decide +kernel
theorem dX12_closesSums_52 : decode cX12_closesSums 52 = .ok (.isub, 1) := by decide +kernel
theorem dX12_closesSums_53 : decode cX12_closesSums 53 = .ok (.putfield 154, 3) := by decide +kernel
theorem dX12_closesSums_56 : decode cX12_closesSums 56 = .ok (.goto (-56), 3) := by decide +kernel
theorem dX12_closesSums_59 : decode cX12_closesSums 59 = .ok (.return_, 1) := by decide +kernel
theorem dX12_readsFactor_0 : decode cX12_readsFactor 0 = .ok (.aload_n 0, 1) := by decide +kernel
theorem dX12_readsFactor_1 : decode cX12_readsFactor 1 = .ok (.invokevirtual 129, 3) := by decide +kernel
theorem dX12_readsFactor_4 : decode cX12_readsFactor 4 = .ok (.bipush 91, 2) := by decide +kernel
theorem dX12_readsFactor_6 : decode cX12_readsFactor 6 = .ok (.if_icmp .ne 14, 3) := by decide +kernel
theorem dX12_readsFactor_9 : decode cX12_readsFactor 9 = .ok (.aload_n 0, 1) := by decide +kernel
theorem dX12_readsFactor_10 : decode cX12_readsFactor 10 = .ok (.bipush 14, 2) := by decide +kernel
theorem dX12_readsFactor_12 : decode cX12_readsFactor 12 = .ok (.invokevirtual 164, 3) := by decide +kernel
theorem dX12_readsFactor_15 : decode cX12_readsFactor 15 = .ok (.ifCond .ne (-15), 3) := by decide +kernel
theorem dX12_readsFactor_18 : decode cX12_readsFactor 18 = .ok (.iconst 0, 1) := by decide +kernel
theorem dX12_readsFactor_19 : decode cX12_readsFactor 19 = .ok (.ireturn, 1) := by decide +kernel
theorem dX12_readsFactor_20 : decode cX12_readsFactor 20 = .ok (.aload_n 0, 1) := by decide +kernel
theorem dX12_readsFactor_21 : decode cX12_readsFactor 21 = .ok (.invokevirtual 143, 3) := by decide +kernel
theorem dX12_readsFactor_24 : decode cX12_readsFactor 24 = .ok (.ifCond .eq 23, 3) := by decide +kernel
theorem dX12_readsFactor_27 : decode cX12_readsFactor 27 = .ok (.aload_n 0, 1) := by decide +kernel
theorem dX12_readsFactor_28 : decode cX12_readsFactor 28 = .ok (.invokevirtual 167, 3) := by decide +kernel
theorem dX12_readsFactor_31 : decode cX12_readsFactor 31 = .ok (.ifCond .ne 5, 3) := by decide +kernel
theorem dX12_readsFactor_34 : decode cX12_readsFactor 34 = .ok (.iconst 0, 1) := by decide +kernel
theorem dX12_readsFactor_35 : decode cX12_readsFactor 35 = .ok (.ireturn, 1) := by decide +kernel
theorem dX12_readsFactor_36 : decode cX12_readsFactor 36 = .ok (.aload_n 0, 1) := by decide +kernel
theorem dX12_readsFactor_37 : decode cX12_readsFactor 37 = .ok (.iconst 0, 1) := by decide +kernel
theorem dX12_readsFactor_38 : decode cX12_readsFactor 38 = .ok (.aload_n 0, 1) := by decide +kernel
theorem dX12_readsFactor_39 : decode cX12_readsFactor 39 = .ok (.getfield 140, 3) := by decide +kernel
theorem dX12_readsFactor_42 : decode cX12_readsFactor 42 = .ok (.invokevirtual 160, 3) := by decide +kernel
theorem dX12_readsFactor_45 : decode cX12_readsFactor 45 = .ok (.iconst 1, 1) := by decide +kernel
theorem dX12_readsFactor_46 : decode cX12_readsFactor 46 = .ok (.ireturn, 1) := by decide +kernel
theorem dX12_readsFactor_47 : decode cX12_readsFactor 47 = .ok (.aload_n 0, 1) := by decide +kernel
theorem dX12_readsFactor_48 : decode cX12_readsFactor 48 = .ok (.invokevirtual 129, 3) := by decide +kernel
theorem dX12_readsFactor_51 : decode cX12_readsFactor 51 = .ok (.invokestatic 170, 3) := by decide +kernel
theorem dX12_readsFactor_54 : decode cX12_readsFactor 54 = .ok (.istore_n 1, 1) := by decide +kernel
theorem dX12_readsFactor_55 : decode cX12_readsFactor 55 = .ok (.iload_n 1, 1) := by decide +kernel
theorem dX12_readsFactor_56 : decode cX12_readsFactor 56 = .ok (.iconst (-1), 1) := by decide +kernel
theorem dX12_readsFactor_57 : decode cX12_readsFactor 57 = .ok (.if_icmp .ne 13, 3) := by decide +kernel
theorem dX12_readsFactor_60 : decode cX12_readsFactor 60 = .ok (.aload_n 0, 1) := by decide +kernel
theorem dX12_readsFactor_61 : decode cX12_readsFactor 61 = .ok (.iconst 1, 1) := by decide +kernel
theorem dX12_readsFactor_62 : decode cX12_readsFactor 62 = .ok (.aload_n 0, 1) := by decide +kernel
theorem dX12_readsFactor_63 : decode cX12_readsFactor 63 = .ok (.getfield 123, 3) := by decide +kernel
theorem dX12_readsFactor_66 : decode cX12_readsFactor 66 = .ok (.invokevirtual 136, 3) := by decide +kernel
theorem dX12_readsFactor_69 : decode cX12_readsFactor 69 = .ok (.ireturn, 1) := by decide +kernel
theorem dX12_readsFactor_70 : decode cX12_readsFactor 70 = .ok (.aload_n 0, 1) := by decide +kernel
theorem dX12_readsFactor_71 : decode cX12_readsFactor 71 = .ok (.iconst 1, 1) := by decide +kernel
theorem dX12_readsFactor_72 : decode cX12_readsFactor 72 = .ok (.iload_n 1, 1) := by decide +kernel
theorem dX12_readsFactor_73 : decode cX12_readsFactor 73 = .ok (.invokevirtual 160, 3) := by decide +kernel
theorem dX12_readsFactor_76 : decode cX12_readsFactor 76 = .ok (.aload_n 0, 1) := by decide +kernel
theorem dX12_readsFactor_77 : decode cX12_readsFactor 77 = .ok (.aload_n 0, 1) := by decide +kernel
theorem dX12_readsFactor_78 : decode cX12_readsFactor 78 = .ok (.getfield 123, 3) := by decide +kernel
theorem dX12_readsFactor_81 : decode cX12_readsFactor 81 = .ok (.iconst 1, 1) := by decide +kernel
theorem dX12_readsFactor_82 : decode cX12_readsFactor 82 = .ok (.iadd, 1) := by decide +kernel
theorem dX12_readsFactor_83 : decode cX12_readsFactor 83 = .ok (.putfield 123, 3) := by decide +kernel
theorem dX12_readsFactor_86 : decode cX12_readsFactor 86 = .ok (.iconst 1, 1) := by decide +kernel
theorem dX12_readsFactor_87 : decode cX12_readsFactor 87 = .ok (.ireturn, 1) := by decide +kernel
theorem dX12_hasOpenSum_0 : decode cX12_hasOpenSum 0 = .ok (.iload_n 1, 1) := by decide +kernel
theorem dX12_hasOpenSum_1 : decode cX12_hasOpenSum 1 = .ok (.istore_n 2, 1) := by decide +kernel
theorem dX12_hasOpenSum_2 : decode cX12_hasOpenSum 2 = .ok (.iload_n 2, 1) := by decide +kernel
theorem dX12_hasOpenSum_3 : decode cX12_hasOpenSum 3 = .ok (.aload_n 0, 1) := by decide +kernel
theorem dX12_hasOpenSum_4 : decode cX12_hasOpenSum 4 = .ok (.getfield 154, 3) := by decide +kernel
theorem dX12_hasOpenSum_7 : decode cX12_hasOpenSum 7 = .ok (.if_icmp .ge 25, 3) := by decide +kernel
theorem dX12_hasOpenSum_10 : decode cX12_hasOpenSum 10 = .ok (.aload_n 0, 1) := by decide +kernel
theorem dX12_hasOpenSum_11 : decode cX12_hasOpenSum 11 = .ok (.getfield 26, 3) := by decide +kernel
theorem dX12_hasOpenSum_14 : decode cX12_hasOpenSum 14 = .ok (.iload_n 2, 1) := by decide +kernel
theorem dX12_hasOpenSum_15 : decode cX12_hasOpenSum 15 = .ok (.iaload, 1) := by decide +kernel
theorem dX12_hasOpenSum_16 : decode cX12_hasOpenSum 16 = .ok (.ldc 150, 2) := by decide +kernel
theorem dX12_hasOpenSum_18 : decode cX12_hasOpenSum 18 = .ok (.idiv, 1) := by decide +kernel
theorem dX12_hasOpenSum_19 : decode cX12_hasOpenSum 19 = .ok (.bipush 14, 2) := by decide +kernel
theorem dX12_hasOpenSum_21 : decode cX12_hasOpenSum 21 = .ok (.if_icmp .ne 5, 3) := by decide +kernel
theorem dX12_hasOpenSum_24 : decode cX12_hasOpenSum 24 = .ok (.iconst 1, 1) := by decide +kernel
theorem dX12_hasOpenSum_25 : decode cX12_hasOpenSum 25 = .ok (.ireturn, 1) := by decide +kernel
theorem dX12_hasOpenSum_26 : decode cX12_hasOpenSum 26 = .ok (.iinc 2 1, 3) := by decide +kernel
theorem dX12_hasOpenSum_29 : decode cX12_hasOpenSum 29 = .ok (.goto (-27), 3) := by decide +kernel
theorem dX12_hasOpenSum_32 : decode cX12_hasOpenSum 32 = .ok (.iconst 0, 1) := by decide +kernel
theorem dX12_hasOpenSum_33 : decode cX12_hasOpenSum 33 = .ok (.ireturn, 1) := by decide +kernel
theorem dX12_readsSum_0 : decode cX12_readsSum 0 = .ok (.aload_n 0, 1) := by decide +kernel
theorem dX12_readsSum_1 : decode cX12_readsSum 1 = .ok (.getfield 154, 3) := by decide +kernel
theorem dX12_readsSum_4 : decode cX12_readsSum 4 = .ok (.istore_n 1, 1) := by decide +kernel
theorem dX12_readsSum_5 : decode cX12_readsSum 5 = .ok (.aload_n 0, 1) := by decide +kernel
theorem dX12_readsSum_6 : decode cX12_readsSum 6 = .ok (.invokevirtual 174, 3) := by decide +kernel
theorem dX12_readsSum_9 : decode cX12_readsSum 9 = .ok (.ifCond .ne 5, 3) := by decide +kernel
theorem dX12_readsSum_12 : decode cX12_readsSum 12 = .ok (.iconst 0, 1) := by decide +kernel
theorem dX12_readsSum_13 : decode cX12_readsSum 13 = .ok (.ireturn, 1) := by decide +kernel
end
section
theorem dX12_readsSum_14 : decode cX12_readsSum 14 = .ok (.aload_n 0, 1) := by decide +kernel
theorem dX12_readsSum_15 : decode cX12_readsSum 15 = .ok (.invokevirtual 129, 3) := by decide +kernel
theorem dX12_readsSum_18 : decode cX12_readsSum 18 = .ok (.invokestatic 177, 3) := by decide +kernel
theorem dX12_readsSum_21 : decode cX12_readsSum 21 = .ok (.istore_n 2, 1) := by decide +kernel
theorem dX12_readsSum_22 : decode cX12_readsSum 22 = .ok (.iload_n 2, 1) := by decide +kernel
theorem dX12_readsSum_23 : decode cX12_readsSum 23 = .ok (.iconst (-1), 1) := by decide +kernel
theorem dX12_readsSum_24 : decode cX12_readsSum 24 = .ok (.if_icmp .eq 59, 3) := by decide +kernel
theorem dX12_readsSum_27 : decode cX12_readsSum 27 = .ok (.aload_n 0, 1) := by decide +kernel
theorem dX12_readsSum_28 : decode cX12_readsSum 28 = .ok (.iload_n 2, 1) := by decide +kernel
theorem dX12_readsSum_29 : decode cX12_readsSum 29 = .ok (.iconst 4, 1) := by decide +kernel
theorem dX12_readsSum_30 : decode cX12_readsSum 30 = .ok (.if_icmp .ge 7, 3) := by decide +kernel
theorem dX12_readsSum_33 : decode cX12_readsSum 33 = .ok (.iconst 1, 1) := by decide +kernel
theorem dX12_readsSum_34 : decode cX12_readsSum 34 = .ok (.goto 4, 3) := by decide +kernel
theorem dX12_readsSum_37 : decode cX12_readsSum 37 = .ok (.iconst 0, 1) := by decide +kernel
theorem dX12_readsSum_38 : decode cX12_readsSum 38 = .ok (.invokevirtual 180, 3) := by decide +kernel
theorem dX12_readsSum_41 : decode cX12_readsSum 41 = .ok (.aload_n 0, 1) := by decide +kernel
theorem dX12_readsSum_42 : decode cX12_readsSum 42 = .ok (.getfield 26, 3) := by decide +kernel
theorem dX12_readsSum_45 : decode cX12_readsSum 45 = .ok (.aload_n 0, 1) := by decide +kernel
theorem dX12_readsSum_46 : decode cX12_readsSum 46 = .ok (.getfield 154, 3) := by decide +kernel
theorem dX12_readsSum_49 : decode cX12_readsSum 49 = .ok (.ldc 150, 2) := by decide +kernel
theorem dX12_readsSum_51 : decode cX12_readsSum 51 = .ok (.iload_n 2, 1) := by decide +kernel
theorem dX12_readsSum_52 : decode cX12_readsSum 52 = .ok (.imul, 1) := by decide +kernel
theorem dX12_readsSum_53 : decode cX12_readsSum 53 = .ok (.iastore, 1) := by decide +kernel
theorem dX12_readsSum_54 : decode cX12_readsSum 54 = .ok (.aload_n 0, 1) := by decide +kernel
theorem dX12_readsSum_55 : decode cX12_readsSum 55 = .ok (.aload_n 0, 1) := by decide +kernel
theorem dX12_readsSum_56 : decode cX12_readsSum 56 = .ok (.getfield 154, 3) := by decide +kernel
theorem dX12_readsSum_59 : decode cX12_readsSum 59 = .ok (.iconst 1, 1) := by decide +kernel
theorem dX12_readsSum_60 : decode cX12_readsSum 60 = .ok (.iadd, 1) := by decide +kernel
theorem dX12_readsSum_61 : decode cX12_readsSum 61 = .ok (.putfield 154, 3) := by decide +kernel
theorem dX12_readsSum_64 : decode cX12_readsSum 64 = .ok (.aload_n 0, 1) := by decide +kernel
theorem dX12_readsSum_65 : decode cX12_readsSum 65 = .ok (.aload_n 0, 1) := by decide +kernel
theorem dX12_readsSum_66 : decode cX12_readsSum 66 = .ok (.getfield 123, 3) := by decide +kernel
theorem dX12_readsSum_69 : decode cX12_readsSum 69 = .ok (.iconst 1, 1) := by decide +kernel
theorem dX12_readsSum_70 : decode cX12_readsSum 70 = .ok (.iadd, 1) := by decide +kernel
theorem dX12_readsSum_71 : decode cX12_readsSum 71 = .ok (.putfield 123, 3) := by decide +kernel
theorem dX12_readsSum_74 : decode cX12_readsSum 74 = .ok (.aload_n 0, 1) := by decide +kernel
theorem dX12_readsSum_75 : decode cX12_readsSum 75 = .ok (.invokevirtual 174, 3) := by decide +kernel
theorem dX12_readsSum_78 : decode cX12_readsSum 78 = .ok (.ifCond .ne 85, 3) := by decide +kernel
theorem dX12_readsSum_81 : decode cX12_readsSum 81 = .ok (.iconst 0, 1) := by decide +kernel
theorem dX12_readsSum_82 : decode cX12_readsSum 82 = .ok (.ireturn, 1) := by decide +kernel
theorem dX12_readsSum_83 : decode cX12_readsSum 83 = .ok (.aload_n 0, 1) := by decide +kernel
theorem dX12_readsSum_84 : decode cX12_readsSum 84 = .ok (.invokevirtual 129, 3) := by decide +kernel
theorem dX12_readsSum_87 : decode cX12_readsSum 87 = .ok (.bipush 93, 2) := by decide +kernel
theorem dX12_readsSum_89 : decode cX12_readsSum 89 = .ok (.if_icmp .ne 49, 3) := by decide +kernel
theorem dX12_readsSum_92 : decode cX12_readsSum 92 = .ok (.aload_n 0, 1) := by decide +kernel
theorem dX12_readsSum_93 : decode cX12_readsSum 93 = .ok (.iload_n 1, 1) := by decide +kernel
theorem dX12_readsSum_94 : decode cX12_readsSum 94 = .ok (.invokevirtual 184, 3) := by decide +kernel
theorem dX12_readsSum_97 : decode cX12_readsSum 97 = .ok (.ifCond .eq 41, 3) := by decide +kernel
theorem dX12_readsSum_100 : decode cX12_readsSum 100 = .ok (.aload_n 0, 1) := by decide +kernel
theorem dX12_readsSum_101 : decode cX12_readsSum 101 = .ok (.iconst 1, 1) := by decide +kernel
theorem dX12_readsSum_102 : decode cX12_readsSum 102 = .ok (.invokevirtual 180, 3) := by decide +kernel
theorem dX12_readsSum_105 : decode cX12_readsSum 105 = .ok (.aload_n 0, 1) := by decide +kernel
theorem dX12_readsSum_106 : decode cX12_readsSum 106 = .ok (.aload_n 0, 1) := by decide +kernel
theorem dX12_readsSum_107 : decode cX12_readsSum 107 = .ok (.getfield 154, 3) := by decide +kernel
theorem dX12_readsSum_110 : decode cX12_readsSum 110 = .ok (.iconst 1, 1) := by decide +kernel
theorem dX12_readsSum_111 : decode cX12_readsSum 111 = .ok (.isub, 1) := by decide +kernel
theorem dX12_readsSum_112 : decode cX12_readsSum 112 = .ok (.putfield 154, 3) := by decide +kernel
theorem dX12_readsSum_115 : decode cX12_readsSum 115 = .ok (.aload_n 0, 1) := by decide +kernel
theorem dX12_readsSum_116 : decode cX12_readsSum 116 = .ok (.aload_n 0, 1) := by decide +kernel
theorem dX12_readsSum_117 : decode cX12_readsSum 117 = .ok (.getfield 151, 3) := by decide +kernel
theorem dX12_readsSum_120 : decode cX12_readsSum 120 = .ok (.iconst 1, 1) := by decide +kernel
theorem dX12_readsSum_121 : decode cX12_readsSum 121 = .ok (.isub, 1) := by decide +kernel
theorem dX12_readsSum_122 : decode cX12_readsSum 122 = .ok (.putfield 151, 3) := by decide +kernel
theorem dX12_readsSum_125 : decode cX12_readsSum 125 = .ok (.aload_n 0, 1) := by decide +kernel
theorem dX12_readsSum_126 : decode cX12_readsSum 126 = .ok (.aload_n 0, 1) := by decide +kernel
theorem dX12_readsSum_127 : decode cX12_readsSum 127 = .ok (.getfield 123, 3) := by decide +kernel
theorem dX12_readsSum_130 : decode cX12_readsSum 130 = .ok (.iconst 1, 1) := by decide +kernel
theorem dX12_readsSum_131 : decode cX12_readsSum 131 = .ok (.iadd, 1) := by decide +kernel
theorem dX12_readsSum_132 : decode cX12_readsSum 132 = .ok (.putfield 123, 3) := by decide +kernel
theorem dX12_readsSum_135 : decode cX12_readsSum 135 = .ok (.goto 28, 3) := by decide +kernel
theorem dX12_readsSum_138 : decode cX12_readsSum 138 = .ok (.aload_n 0, 1) := by decide +kernel
theorem dX12_readsSum_139 : decode cX12_readsSum 139 = .ok (.iload_n 1, 1) := by decide +kernel
theorem dX12_readsSum_140 : decode cX12_readsSum 140 = .ok (.invokevirtual 184, 3) := by decide +kernel
theorem dX12_readsSum_143 : decode cX12_readsSum 143 = .ok (.ifCond .eq 13, 3) := by decide +kernel
theorem dX12_readsSum_146 : decode cX12_readsSum 146 = .ok (.aload_n 0, 1) := by decide +kernel
theorem dX12_readsSum_147 : decode cX12_readsSum 147 = .ok (.iconst 1, 1) := by decide +kernel
theorem dX12_readsSum_148 : decode cX12_readsSum 148 = .ok (.aload_n 0, 1) := by decide +kernel
theorem dX12_readsSum_149 : decode cX12_readsSum 149 = .ok (.getfield 123, 3) := by decide +kernel
theorem dX12_readsSum_152 : decode cX12_readsSum 152 = .ok (.invokevirtual 136, 3) := by decide +kernel
theorem dX12_readsSum_155 : decode cX12_readsSum 155 = .ok (.ireturn, 1) := by decide +kernel
theorem dX12_readsSum_156 : decode cX12_readsSum 156 = .ok (.aload_n 0, 1) := by decide +kernel
theorem dX12_readsSum_157 : decode cX12_readsSum 157 = .ok (.iconst 1, 1) := by decide +kernel
theorem dX12_readsSum_158 : decode cX12_readsSum 158 = .ok (.invokevirtual 180, 3) := by decide +kernel
theorem dX12_readsSum_161 : decode cX12_readsSum 161 = .ok (.iconst 1, 1) := by decide +kernel
theorem dX12_readsSum_162 : decode cX12_readsSum 162 = .ok (.ireturn, 1) := by decide +kernel
theorem dX12_readsSum_163 : decode cX12_readsSum 163 = .ok (.goto (-149), 3) := by decide +kernel
theorem dX12_endsPiece_0 : decode cX12_endsPiece 0 = .ok (.aload_n 0, 1) := by decide +kernel
theorem dX12_endsPiece_1 : decode cX12_endsPiece 1 = .ok (.invokevirtual 157, 3) := by decide +kernel
theorem dX12_endsPiece_4 : decode cX12_endsPiece 4 = .ok (.bipush 10, 2) := by decide +kernel
theorem dX12_endsPiece_6 : decode cX12_endsPiece 6 = .ok (.if_icmp .ne 33, 3) := by decide +kernel
theorem dX12_endsPiece_9 : decode cX12_endsPiece 9 = .ok (.aload_n 0, 1) := by decide +kernel
theorem dX12_endsPiece_10 : decode cX12_endsPiece 10 = .ok (.bipush 10, 2) := by decide +kernel
theorem dX12_endsPiece_12 : decode cX12_endsPiece 12 = .ok (.iconst 0, 1) := by decide +kernel
theorem dX12_endsPiece_13 : decode cX12_endsPiece 13 = .ok (.invokevirtual 160, 3) := by decide +kernel
theorem dX12_endsPiece_16 : decode cX12_endsPiece 16 = .ok (.aload_n 0, 1) := by decide +kernel
theorem dX12_endsPiece_17 : decode cX12_endsPiece 17 = .ok (.aload_n 0, 1) := by decide +kernel
theorem dX12_endsPiece_18 : decode cX12_endsPiece 18 = .ok (.getfield 154, 3) := by decide +kernel
theorem dX12_endsPiece_21 : decode cX12_endsPiece 21 = .ok (.iconst 1, 1) := by decide +kernel
theorem dX12_endsPiece_22 : decode cX12_endsPiece 22 = .ok (.isub, 1) := by decide +kernel
theorem dX12_endsPiece_23 : decode cX12_endsPiece 23 = .ok (.putfield 154, 3) := by decide +kernel
theorem dX12_endsPiece_26 : decode cX12_endsPiece 26 = .ok (.aload_n 0, 1) := by decide +kernel
theorem dX12_endsPiece_27 : decode cX12_endsPiece 27 = .ok (.aload_n 0, 1) := by decide +kernel
theorem dX12_endsPiece_28 : decode cX12_endsPiece 28 = .ok (.getfield 151, 3) := by decide +kernel
theorem dX12_endsPiece_31 : decode cX12_endsPiece 31 = .ok (.iconst 1, 1) := by decide +kernel
theorem dX12_endsPiece_32 : decode cX12_endsPiece 32 = .ok (.isub, 1) := by decide +kernel
theorem dX12_endsPiece_33 : decode cX12_endsPiece 33 = .ok (.putfield 151, 3) := by decide +kernel
theorem dX12_endsPiece_36 : decode cX12_endsPiece 36 = .ok (.goto (-36), 3) := by decide +kernel
theorem dX12_endsPiece_39 : decode cX12_endsPiece 39 = .ok (.return_, 1) := by decide +kernel
theorem dX12_lands_0 : decode cX12_lands 0 = .ok (.aload_n 0, 1) := by decide +kernel
theorem dX12_lands_1 : decode cX12_lands 1 = .ok (.invokevirtual 157, 3) := by decide +kernel
theorem dX12_lands_4 : decode cX12_lands 4 = .ok (.bipush 11, 2) := by decide +kernel
theorem dX12_lands_6 : decode cX12_lands 6 = .ok (.if_icmp .eq 16, 3) := by decide +kernel
theorem dX12_lands_9 : decode cX12_lands 9 = .ok (.iload_n 1, 1) := by decide +kernel
theorem dX12_lands_10 : decode cX12_lands 10 = .ok (.ifCond .eq 63, 3) := by decide +kernel
theorem dX12_lands_13 : decode cX12_lands 13 = .ok (.aload_n 0, 1) := by decide +kernel
theorem dX12_lands_14 : decode cX12_lands 14 = .ok (.invokevirtual 157, 3) := by decide +kernel
theorem dX12_lands_17 : decode cX12_lands 17 = .ok (.bipush 12, 2) := by decide +kernel
theorem dX12_lands_19 : decode cX12_lands 19 = .ok (.if_icmp .ne 54, 3) := by decide +kernel
theorem dX12_lands_22 : decode cX12_lands 22 = .ok (.aload_n 0, 1) := by decide +kernel
theorem dX12_lands_23 : decode cX12_lands 23 = .ok (.getfield 26, 3) := by decide +kernel
theorem dX12_lands_26 : decode cX12_lands 26 = .ok (.aload_n 0, 1) := by decide +kernel
theorem dX12_lands_27 : decode cX12_lands 27 = .ok (.getfield 154, 3) := by decide +kernel
theorem dX12_lands_30 : decode cX12_lands 30 = .ok (.iconst 1, 1) := by decide +kernel
theorem dX12_lands_31 : decode cX12_lands 31 = .ok (.isub, 1) := by decide +kernel
theorem dX12_lands_32 : decode cX12_lands 32 = .ok (.iaload, 1) := by decide +kernel
theorem dX12_lands_33 : decode cX12_lands 33 = .ok (.ldc 150, 2) := by decide +kernel
theorem dX12_lands_35 : decode cX12_lands 35 = .ok (.irem, 1) := by decide +kernel
theorem dX12_lands_36 : decode cX12_lands 36 = .ok (.istore_n 2, 1) := by decide +kernel
theorem dX12_lands_37 : decode cX12_lands 37 = .ok (.aload_n 0, 1) := by decide +kernel
theorem dX12_lands_38 : decode cX12_lands 38 = .ok (.getfield 23, 3) := by decide +kernel
theorem dX12_lands_41 : decode cX12_lands 41 = .ok (.iload_n 2, 1) := by decide +kernel
theorem dX12_lands_42 : decode cX12_lands 42 = .ok (.ldc 150, 2) := by decide +kernel
theorem dX12_lands_44 : decode cX12_lands 44 = .ok (.aload_n 0, 1) := by decide +kernel
theorem dX12_lands_45 : decode cX12_lands 45 = .ok (.getfield 23, 3) := by decide +kernel
theorem dX12_lands_48 : decode cX12_lands 48 = .ok (.iload_n 2, 1) := by decide +kernel
theorem dX12_lands_49 : decode cX12_lands 49 = .ok (.iaload, 1) := by decide +kernel
theorem dX12_lands_50 : decode cX12_lands 50 = .ok (.ldc 150, 2) := by decide +kernel
theorem dX12_lands_52 : decode cX12_lands 52 = .ok (.idiv, 1) := by decide +kernel
theorem dX12_lands_53 : decode cX12_lands 53 = .ok (.imul, 1) := by decide +kernel
theorem dX12_lands_54 : decode cX12_lands 54 = .ok (.aload_n 0, 1) := by decide +kernel
theorem dX12_lands_55 : decode cX12_lands 55 = .ok (.getfield 147, 3) := by decide +kernel
theorem dX12_lands_58 : decode cX12_lands 58 = .ok (.iadd, 1) := by decide +kernel
theorem dX12_lands_59 : decode cX12_lands 59 = .ok (.iastore, 1) := by decide +kernel
theorem dX12_lands_60 : decode cX12_lands 60 = .ok (.aload_n 0, 1) := by decide +kernel
theorem dX12_lands_61 : decode cX12_lands 61 = .ok (.aload_n 0, 1) := by decide +kernel
theorem dX12_lands_62 : decode cX12_lands 62 = .ok (.getfield 154, 3) := by decide +kernel
theorem dX12_lands_65 : decode cX12_lands 65 = .ok (.iconst 1, 1) := by decide +kernel
theorem dX12_lands_66 : decode cX12_lands 66 = .ok (.isub, 1) := by decide +kernel
theorem dX12_lands_67 : decode cX12_lands 67 = .ok (.putfield 154, 3) := by decide +kernel
theorem dX12_lands_70 : decode cX12_lands 70 = .ok (.goto (-70), 3) := by decide +kernel
theorem dX12_lands_73 : decode cX12_lands 73 = .ok (.return_, 1) := by decide +kernel
theorem dX12_jumps_0 : decode cX12_jumps 0 = .ok (.aload_n 0, 1) := by decide +kernel
theorem dX12_jumps_1 : decode cX12_jumps 1 = .ok (.getfield 26, 3) := by decide +kernel
theorem dX12_jumps_4 : decode cX12_jumps 4 = .ok (.aload_n 0, 1) := by decide +kernel
theorem dX12_jumps_5 : decode cX12_jumps 5 = .ok (.getfield 154, 3) := by decide +kernel
theorem dX12_jumps_8 : decode cX12_jumps 8 = .ok (.ldc 150, 2) := by decide +kernel
theorem dX12_jumps_10 : decode cX12_jumps 10 = .ok (.iload_n 1, 1) := by decide +kernel
theorem dX12_jumps_11 : decode cX12_jumps 11 = .ok (.imul, 1) := by decide +kernel
theorem dX12_jumps_12 : decode cX12_jumps 12 = .ok (.aload_n 0, 1) := by decide +kernel
theorem dX12_jumps_13 : decode cX12_jumps 13 = .ok (.getfield 147, 3) := by decide +kernel
theorem dX12_jumps_16 : decode cX12_jumps 16 = .ok (.iadd, 1) := by decide +kernel
theorem dX12_jumps_17 : decode cX12_jumps 17 = .ok (.iastore, 1) := by decide +kernel
theorem dX12_jumps_18 : decode cX12_jumps 18 = .ok (.aload_n 0, 1) := by decide +kernel
theorem dX12_jumps_19 : decode cX12_jumps 19 = .ok (.aload_n 0, 1) := by decide +kernel
theorem dX12_jumps_20 : decode cX12_jumps 20 = .ok (.getfield 154, 3) := by decide +kernel
theorem dX12_jumps_23 : decode cX12_jumps 23 = .ok (.iconst 1, 1) := by decide +kernel
theorem dX12_jumps_24 : decode cX12_jumps 24 = .ok (.iadd, 1) := by decide +kernel
theorem dX12_jumps_25 : decode cX12_jumps 25 = .ok (.putfield 154, 3) := by decide +kernel
theorem dX12_jumps_28 : decode cX12_jumps 28 = .ok (.aload_n 0, 1) := by decide +kernel
theorem dX12_jumps_29 : decode cX12_jumps 29 = .ok (.iload_n 1, 1) := by decide +kernel
theorem dX12_jumps_30 : decode cX12_jumps 30 = .ok (.iconst 0, 1) := by decide +kernel
theorem dX12_jumps_31 : decode cX12_jumps 31 = .ok (.invokevirtual 160, 3) := by decide +kernel
theorem dX12_jumps_34 : decode cX12_jumps 34 = .ok (.aload_n 0, 1) := by decide +kernel
theorem dX12_jumps_35 : decode cX12_jumps 35 = .ok (.aload_n 0, 1) := by decide +kernel
theorem dX12_jumps_36 : decode cX12_jumps 36 = .ok (.getfield 123, 3) := by decide +kernel
theorem dX12_jumps_39 : decode cX12_jumps 39 = .ok (.iconst 1, 1) := by decide +kernel
theorem dX12_jumps_40 : decode cX12_jumps 40 = .ok (.iadd, 1) := by decide +kernel
theorem dX12_jumps_41 : decode cX12_jumps 41 = .ok (.putfield 123, 3) := by decide +kernel
theorem dX12_jumps_44 : decode cX12_jumps 44 = .ok (.return_, 1) := by decide +kernel
theorem dX12_readsCompared_0 : decode cX12_readsCompared 0 = .ok (.aload_n 0, 1) := by decide +kernel
theorem dX12_readsCompared_1 : decode cX12_readsCompared 1 = .ok (.invokevirtual 187, 3) := by decide +kernel
theorem dX12_readsCompared_4 : decode cX12_readsCompared 4 = .ok (.ifCond .ne 5, 3) := by decide +kernel
theorem dX12_readsCompared_7 : decode cX12_readsCompared 7 = .ok (.iconst 0, 1) := by decide +kernel
theorem dX12_readsCompared_8 : decode cX12_readsCompared 8 = .ok (.ireturn, 1) := by decide +kernel
theorem dX12_readsCompared_9 : decode cX12_readsCompared 9 = .ok (.aload_n 0, 1) := by decide +kernel
theorem dX12_readsCompared_10 : decode cX12_readsCompared 10 = .ok (.invokevirtual 129, 3) := by decide +kernel
theorem dX12_readsCompared_13 : decode cX12_readsCompared 13 = .ok (.bipush 60, 2) := by decide +kernel
theorem dX12_readsCompared_15 : decode cX12_readsCompared 15 = .ok (.if_icmp .ne 8, 3) := by decide +kernel
theorem dX12_readsCompared_18 : decode cX12_readsCompared 18 = .ok (.bipush 7, 2) := by decide +kernel
theorem dX12_readsCompared_20 : decode cX12_readsCompared 20 = .ok (.goto 32, 3) := by decide +kernel
theorem dX12_readsCompared_23 : decode cX12_readsCompared 23 = .ok (.aload_n 0, 1) := by decide +kernel
theorem dX12_readsCompared_24 : decode cX12_readsCompared 24 = .ok (.invokevirtual 129, 3) := by decide +kernel
theorem dX12_readsCompared_27 : decode cX12_readsCompared 27 = .ok (.bipush 62, 2) := by decide +kernel
theorem dX12_readsCompared_29 : decode cX12_readsCompared 29 = .ok (.if_icmp .ne 8, 3) := by decide +kernel
theorem dX12_readsCompared_32 : decode cX12_readsCompared 32 = .ok (.bipush 8, 2) := by decide +kernel
theorem dX12_readsCompared_34 : decode cX12_readsCompared 34 = .ok (.goto 18, 3) := by decide +kernel
theorem dX12_readsCompared_37 : decode cX12_readsCompared 37 = .ok (.aload_n 0, 1) := by decide +kernel
theorem dX12_readsCompared_38 : decode cX12_readsCompared 38 = .ok (.invokevirtual 129, 3) := by decide +kernel
theorem dX12_readsCompared_41 : decode cX12_readsCompared 41 = .ok (.bipush 61, 2) := by decide +kernel
theorem dX12_readsCompared_43 : decode cX12_readsCompared 43 = .ok (.if_icmp .ne 8, 3) := by decide +kernel
theorem dX12_readsCompared_46 : decode cX12_readsCompared 46 = .ok (.bipush 9, 2) := by decide +kernel
theorem dX12_readsCompared_48 : decode cX12_readsCompared 48 = .ok (.goto 4, 3) := by decide +kernel
theorem dX12_readsCompared_51 : decode cX12_readsCompared 51 = .ok (.iconst (-1), 1) := by decide +kernel
theorem dX12_readsCompared_52 : decode cX12_readsCompared 52 = .ok (.istore_n 1, 1) := by decide +kernel
theorem dX12_readsCompared_53 : decode cX12_readsCompared 53 = .ok (.iload_n 1, 1) := by decide +kernel
theorem dX12_readsCompared_54 : decode cX12_readsCompared 54 = .ok (.iconst (-1), 1) := by decide +kernel
theorem dX12_readsCompared_55 : decode cX12_readsCompared 55 = .ok (.if_icmp .ne 13, 3) := by decide +kernel
theorem dX12_readsCompared_58 : decode cX12_readsCompared 58 = .ok (.aload_n 0, 1) := by decide +kernel
theorem dX12_readsCompared_59 : decode cX12_readsCompared 59 = .ok (.iconst 1, 1) := by decide +kernel
theorem dX12_readsCompared_60 : decode cX12_readsCompared 60 = .ok (.aload_n 0, 1) := by decide +kernel
theorem dX12_readsCompared_61 : decode cX12_readsCompared 61 = .ok (.getfield 123, 3) := by decide +kernel
theorem dX12_readsCompared_64 : decode cX12_readsCompared 64 = .ok (.invokevirtual 136, 3) := by decide +kernel
theorem dX12_readsCompared_67 : decode cX12_readsCompared 67 = .ok (.ireturn, 1) := by decide +kernel
theorem dX12_readsCompared_68 : decode cX12_readsCompared 68 = .ok (.aload_n 0, 1) := by decide +kernel
theorem dX12_readsCompared_69 : decode cX12_readsCompared 69 = .ok (.aload_n 0, 1) := by decide +kernel
theorem dX12_readsCompared_70 : decode cX12_readsCompared 70 = .ok (.getfield 123, 3) := by decide +kernel
theorem dX12_readsCompared_73 : decode cX12_readsCompared 73 = .ok (.iconst 1, 1) := by decide +kernel
theorem dX12_readsCompared_74 : decode cX12_readsCompared 74 = .ok (.iadd, 1) := by decide +kernel
theorem dX12_readsCompared_75 : decode cX12_readsCompared 75 = .ok (.putfield 123, 3) := by decide +kernel
theorem dX12_readsCompared_78 : decode cX12_readsCompared 78 = .ok (.aload_n 0, 1) := by decide +kernel
theorem dX12_readsCompared_79 : decode cX12_readsCompared 79 = .ok (.invokevirtual 187, 3) := by decide +kernel
theorem dX12_readsCompared_82 : decode cX12_readsCompared 82 = .ok (.ifCond .ne 5, 3) := by decide +kernel
theorem dX12_readsCompared_85 : decode cX12_readsCompared 85 = .ok (.iconst 0, 1) := by decide +kernel
theorem dX12_readsCompared_86 : decode cX12_readsCompared 86 = .ok (.ireturn, 1) := by decide +kernel
theorem dX12_readsCompared_87 : decode cX12_readsCompared 87 = .ok (.aload_n 0, 1) := by decide +kernel
theorem dX12_readsCompared_88 : decode cX12_readsCompared 88 = .ok (.iload_n 1, 1) := by decide +kernel
theorem dX12_readsCompared_89 : decode cX12_readsCompared 89 = .ok (.iconst 0, 1) := by decide +kernel
theorem dX12_readsCompared_90 : decode cX12_readsCompared 90 = .ok (.invokevirtual 160, 3) := by decide +kernel
theorem dX12_readsCompared_93 : decode cX12_readsCompared 93 = .ok (.aload_n 0, 1) := by decide +kernel
theorem dX12_readsCompared_94 : decode cX12_readsCompared 94 = .ok (.invokevirtual 190, 3) := by decide +kernel
theorem dX12_readsCompared_97 : decode cX12_readsCompared 97 = .ok (.iconst 1, 1) := by decide +kernel
theorem dX12_readsCompared_98 : decode cX12_readsCompared 98 = .ok (.ireturn, 1) := by decide +kernel
theorem dX12_readsCondition_0 : decode cX12_readsCondition 0 = .ok (.aload_n 0, 1) := by decide +kernel
theorem dX12_readsCondition_1 : decode cX12_readsCondition 1 = .ok (.invokevirtual 129, 3) := by decide +kernel
theorem dX12_readsCondition_4 : decode cX12_readsCondition 4 = .ok (.bipush 40, 2) := by decide +kernel
theorem dX12_readsCondition_6 : decode cX12_readsCondition 6 = .ok (.if_icmp .eq 13, 3) := by decide +kernel
theorem dX12_readsCondition_9 : decode cX12_readsCondition 9 = .ok (.aload_n 0, 1) := by decide +kernel
theorem dX12_readsCondition_10 : decode cX12_readsCondition 10 = .ok (.iconst 1, 1) := by decide +kernel
theorem dX12_readsCondition_11 : decode cX12_readsCondition 11 = .ok (.aload_n 0, 1) := by decide +kernel
theorem dX12_readsCondition_12 : decode cX12_readsCondition 12 = .ok (.getfield 123, 3) := by decide +kernel
theorem dX12_readsCondition_15 : decode cX12_readsCondition 15 = .ok (.invokevirtual 136, 3) := by decide +kernel
theorem dX12_readsCondition_18 : decode cX12_readsCondition 18 = .ok (.ireturn, 1) := by decide +kernel
theorem dX12_readsCondition_19 : decode cX12_readsCondition 19 = .ok (.aload_n 0, 1) := by decide +kernel
theorem dX12_readsCondition_20 : decode cX12_readsCondition 20 = .ok (.iconst 0, 1) := by decide +kernel
theorem dX12_readsCondition_21 : decode cX12_readsCondition 21 = .ok (.putfield 151, 3) := by decide +kernel
theorem dX12_readsCondition_24 : decode cX12_readsCondition 24 = .ok (.aload_n 0, 1) := by decide +kernel
theorem dX12_readsCondition_25 : decode cX12_readsCondition 25 = .ok (.iconst 0, 1) := by decide +kernel
theorem dX12_readsCondition_26 : decode cX12_readsCondition 26 = .ok (.putfield 154, 3) := by decide +kernel
theorem dX12_readsCondition_29 : decode cX12_readsCondition 29 = .ok (.aload_n 0, 1) := by decide +kernel
theorem dX12_readsCondition_30 : decode cX12_readsCondition 30 = .ok (.bipush 13, 2) := by decide +kernel
theorem dX12_readsCondition_32 : decode cX12_readsCondition 32 = .ok (.invokevirtual 164, 3) := by decide +kernel
theorem dX12_readsCondition_35 : decode cX12_readsCondition 35 = .ok (.ifCond .ne 5, 3) := by decide +kernel
theorem dX12_readsCondition_38 : decode cX12_readsCondition 38 = .ok (.iconst 0, 1) := by decide +kernel
theorem dX12_readsCondition_39 : decode cX12_readsCondition 39 = .ok (.ireturn, 1) := by decide +kernel
theorem dX12_readsCondition_40 : decode cX12_readsCondition 40 = .ok (.aload_n 0, 1) := by decide +kernel
theorem dX12_readsCondition_41 : decode cX12_readsCondition 41 = .ok (.invokevirtual 129, 3) := by decide +kernel
theorem dX12_readsCondition_44 : decode cX12_readsCondition 44 = .ok (.bipush 33, 2) := by decide +kernel
theorem dX12_readsCondition_46 : decode cX12_readsCondition 46 = .ok (.if_icmp .eq 12, 3) := by decide +kernel
theorem dX12_readsCondition_49 : decode cX12_readsCondition 49 = .ok (.aload_n 0, 1) := by decide +kernel
theorem dX12_readsCondition_50 : decode cX12_readsCondition 50 = .ok (.invokevirtual 129, 3) := by decide +kernel
theorem dX12_readsCondition_53 : decode cX12_readsCondition 53 = .ok (.bipush 40, 2) := by decide +kernel
theorem dX12_readsCondition_55 : decode cX12_readsCondition 55 = .ok (.if_icmp .ne 28, 3) := by decide +kernel
theorem dX12_readsCondition_58 : decode cX12_readsCondition 58 = .ok (.aload_n 0, 1) := by decide +kernel
theorem dX12_readsCondition_59 : decode cX12_readsCondition 59 = .ok (.aload_n 0, 1) := by decide +kernel
theorem dX12_readsCondition_60 : decode cX12_readsCondition 60 = .ok (.invokevirtual 129, 3) := by decide +kernel
theorem dX12_readsCondition_63 : decode cX12_readsCondition 63 = .ok (.bipush 33, 2) := by decide +kernel
theorem dX12_readsCondition_65 : decode cX12_readsCondition 65 = .ok (.if_icmp .ne 8, 3) := by decide +kernel
theorem dX12_readsCondition_68 : decode cX12_readsCondition 68 = .ok (.bipush 10, 2) := by decide +kernel
theorem dX12_readsCondition_70 : decode cX12_readsCondition 70 = .ok (.goto 5, 3) := by decide +kernel
theorem dX12_readsCondition_73 : decode cX12_readsCondition 73 = .ok (.bipush 13, 2) := by decide +kernel
theorem dX12_readsCondition_75 : decode cX12_readsCondition 75 = .ok (.invokevirtual 164, 3) := by decide +kernel
theorem dX12_readsCondition_78 : decode cX12_readsCondition 78 = .ok (.ifCond .ne (-38), 3) := by decide +kernel
theorem dX12_readsCondition_81 : decode cX12_readsCondition 81 = .ok (.iconst 0, 1) := by decide +kernel
theorem dX12_readsCondition_82 : decode cX12_readsCondition 82 = .ok (.ireturn, 1) := by decide +kernel
theorem dX12_readsCondition_83 : decode cX12_readsCondition 83 = .ok (.aload_n 0, 1) := by decide +kernel
theorem dX12_readsCondition_84 : decode cX12_readsCondition 84 = .ok (.invokevirtual 193, 3) := by decide +kernel
theorem dX12_readsCondition_87 : decode cX12_readsCondition 87 = .ok (.ifCond .ne 5, 3) := by decide +kernel
theorem dX12_readsCondition_90 : decode cX12_readsCondition 90 = .ok (.iconst 0, 1) := by decide +kernel
theorem dX12_readsCondition_91 : decode cX12_readsCondition 91 = .ok (.ireturn, 1) := by decide +kernel
theorem dX12_readsCondition_92 : decode cX12_readsCondition 92 = .ok (.aload_n 0, 1) := by decide +kernel
theorem dX12_readsCondition_93 : decode cX12_readsCondition 93 = .ok (.invokevirtual 129, 3) := by decide +kernel
theorem dX12_readsCondition_96 : decode cX12_readsCondition 96 = .ok (.bipush 41, 2) := by decide +kernel
theorem dX12_readsCondition_98 : decode cX12_readsCondition 98 = .ok (.if_icmp .ne 54, 3) := by decide +kernel
theorem dX12_readsCondition_101 : decode cX12_readsCondition 101 = .ok (.aload_n 0, 1) := by decide +kernel
theorem dX12_readsCondition_102 : decode cX12_readsCondition 102 = .ok (.iconst 1, 1) := by decide +kernel
theorem dX12_readsCondition_103 : decode cX12_readsCondition 103 = .ok (.invokevirtual 196, 3) := by decide +kernel
theorem dX12_readsCondition_106 : decode cX12_readsCondition 106 = .ok (.aload_n 0, 1) := by decide +kernel
theorem dX12_readsCondition_107 : decode cX12_readsCondition 107 = .ok (.aload_n 0, 1) := by decide +kernel
theorem dX12_readsCondition_108 : decode cX12_readsCondition 108 = .ok (.getfield 154, 3) := by decide +kernel
theorem dX12_readsCondition_111 : decode cX12_readsCondition 111 = .ok (.iconst 1, 1) := by decide +kernel
theorem dX12_readsCondition_112 : decode cX12_readsCondition 112 = .ok (.isub, 1) := by decide +kernel
theorem dX12_readsCondition_113 : decode cX12_readsCondition 113 = .ok (.putfield 154, 3) := by decide +kernel
theorem dX12_readsCondition_116 : decode cX12_readsCondition 116 = .ok (.aload_n 0, 1) := by decide +kernel
theorem dX12_readsCondition_117 : decode cX12_readsCondition 117 = .ok (.aload_n 0, 1) := by decide +kernel
theorem dX12_readsCondition_118 : decode cX12_readsCondition 118 = .ok (.getfield 151, 3) := by decide +kernel
theorem dX12_readsCondition_121 : decode cX12_readsCondition 121 = .ok (.iconst 1, 1) := by decide +kernel
theorem dX12_readsCondition_122 : decode cX12_readsCondition 122 = .ok (.isub, 1) := by decide +kernel
theorem dX12_readsCondition_123 : decode cX12_readsCondition 123 = .ok (.putfield 151, 3) := by decide +kernel
theorem dX12_readsCondition_126 : decode cX12_readsCondition 126 = .ok (.aload_n 0, 1) := by decide +kernel
theorem dX12_readsCondition_127 : decode cX12_readsCondition 127 = .ok (.aload_n 0, 1) := by decide +kernel
theorem dX12_readsCondition_128 : decode cX12_readsCondition 128 = .ok (.getfield 123, 3) := by decide +kernel
theorem dX12_readsCondition_131 : decode cX12_readsCondition 131 = .ok (.iconst 1, 1) := by decide +kernel
theorem dX12_readsCondition_132 : decode cX12_readsCondition 132 = .ok (.iadd, 1) := by decide +kernel
theorem dX12_readsCondition_133 : decode cX12_readsCondition 133 = .ok (.putfield 123, 3) := by decide +kernel
theorem dX12_readsCondition_136 : decode cX12_readsCondition 136 = .ok (.aload_n 0, 1) := by decide +kernel
theorem dX12_readsCondition_137 : decode cX12_readsCondition 137 = .ok (.getfield 154, 3) := by decide +kernel
theorem dX12_readsCondition_140 : decode cX12_readsCondition 140 = .ok (.ifCond .ne 5, 3) := by decide +kernel
theorem dX12_readsCondition_143 : decode cX12_readsCondition 143 = .ok (.iconst 1, 1) := by decide +kernel
theorem dX12_readsCondition_144 : decode cX12_readsCondition 144 = .ok (.ireturn, 1) := by decide +kernel
theorem dX12_readsCondition_145 : decode cX12_readsCondition 145 = .ok (.aload_n 0, 1) := by decide +kernel
theorem dX12_readsCondition_146 : decode cX12_readsCondition 146 = .ok (.invokevirtual 190, 3) := by decide +kernel
theorem dX12_readsCondition_149 : decode cX12_readsCondition 149 = .ok (.goto (-57), 3) := by decide +kernel
theorem dX12_readsCondition_152 : decode cX12_readsCondition 152 = .ok (.aload_n 0, 1) := by decide +kernel
theorem dX12_readsCondition_153 : decode cX12_readsCondition 153 = .ok (.invokevirtual 129, 3) := by decide +kernel
theorem dX12_readsCondition_156 : decode cX12_readsCondition 156 = .ok (.bipush 38, 2) := by decide +kernel
theorem dX12_readsCondition_158 : decode cX12_readsCondition 158 = .ok (.if_icmp .eq 22, 3) := by decide +kernel
theorem dX12_readsCondition_161 : decode cX12_readsCondition 161 = .ok (.aload_n 0, 1) := by decide +kernel
theorem dX12_readsCondition_162 : decode cX12_readsCondition 162 = .ok (.invokevirtual 129, 3) := by decide +kernel
theorem dX12_readsCondition_165 : decode cX12_readsCondition 165 = .ok (.bipush 124, 2) := by decide +kernel
theorem dX12_readsCondition_167 : decode cX12_readsCondition 167 = .ok (.if_icmp .eq 13, 3) := by decide +kernel
theorem dX12_readsCondition_170 : decode cX12_readsCondition 170 = .ok (.aload_n 0, 1) := by decide +kernel
theorem dX12_readsCondition_171 : decode cX12_readsCondition 171 = .ok (.iconst 1, 1) := by decide +kernel
theorem dX12_readsCondition_172 : decode cX12_readsCondition 172 = .ok (.aload_n 0, 1) := by decide +kernel
theorem dX12_readsCondition_173 : decode cX12_readsCondition 173 = .ok (.getfield 123, 3) := by decide +kernel
theorem dX12_readsCondition_176 : decode cX12_readsCondition 176 = .ok (.invokevirtual 136, 3) := by decide +kernel
theorem dX12_readsCondition_179 : decode cX12_readsCondition 179 = .ok (.ireturn, 1) := by decide +kernel
theorem dX12_readsCondition_180 : decode cX12_readsCondition 180 = .ok (.aload_n 0, 1) := by decide +kernel
theorem dX12_readsCondition_181 : decode cX12_readsCondition 181 = .ok (.aload_n 0, 1) := by decide +kernel
theorem dX12_readsCondition_182 : decode cX12_readsCondition 182 = .ok (.invokevirtual 129, 3) := by decide +kernel
theorem dX12_readsCondition_185 : decode cX12_readsCondition 185 = .ok (.bipush 124, 2) := by decide +kernel
theorem dX12_readsCondition_187 : decode cX12_readsCondition 187 = .ok (.if_icmp .ne 7, 3) := by decide +kernel
theorem dX12_readsCondition_190 : decode cX12_readsCondition 190 = .ok (.iconst 1, 1) := by decide +kernel
theorem dX12_readsCondition_191 : decode cX12_readsCondition 191 = .ok (.goto 4, 3) := by decide +kernel
theorem dX12_readsCondition_194 : decode cX12_readsCondition 194 = .ok (.iconst 0, 1) := by decide +kernel
theorem dX12_readsCondition_195 : decode cX12_readsCondition 195 = .ok (.invokevirtual 196, 3) := by decide +kernel
theorem dX12_readsCondition_198 : decode cX12_readsCondition 198 = .ok (.aload_n 0, 1) := by decide +kernel
theorem dX12_readsCondition_199 : decode cX12_readsCondition 199 = .ok (.aload_n 0, 1) := by decide +kernel
theorem dX12_readsCondition_200 : decode cX12_readsCondition 200 = .ok (.invokevirtual 129, 3) := by decide +kernel
theorem dX12_readsCondition_203 : decode cX12_readsCondition 203 = .ok (.bipush 38, 2) := by decide +kernel
theorem dX12_readsCondition_205 : decode cX12_readsCondition 205 = .ok (.if_icmp .ne 8, 3) := by decide +kernel
theorem dX12_readsCondition_208 : decode cX12_readsCondition 208 = .ok (.bipush 11, 2) := by decide +kernel
theorem dX12_readsCondition_210 : decode cX12_readsCondition 210 = .ok (.goto 5, 3) := by decide +kernel
theorem dX12_readsCondition_213 : decode cX12_readsCondition 213 = .ok (.bipush 12, 2) := by decide +kernel
theorem dX12_readsCondition_215 : decode cX12_readsCondition 215 = .ok (.invokevirtual 199, 3) := by decide +kernel
theorem dX12_readsCondition_218 : decode cX12_readsCondition 218 = .ok (.goto (-178), 3) := by decide +kernel
theorem dX12_readsRule_0 : decode cX12_readsRule 0 = .ok (.aload_n 0, 1) := by decide +kernel
theorem dX12_readsRule_1 : decode cX12_readsRule 1 = .ok (.invokevirtual 129, 3) := by decide +kernel
theorem dX12_readsRule_4 : decode cX12_readsRule 4 = .ok (.istore_n 1, 1) := by decide +kernel
theorem dX12_readsRule_5 : decode cX12_readsRule 5 = .ok (.iload_n 1, 1) := by decide +kernel
theorem dX12_readsRule_6 : decode cX12_readsRule 6 = .ok (.bipush 99, 2) := by decide +kernel
theorem dX12_readsRule_8 : decode cX12_readsRule 8 = .ok (.if_icmp .eq 31, 3) := by decide +kernel
theorem dX12_readsRule_11 : decode cX12_readsRule 11 = .ok (.iload_n 1, 1) := by decide +kernel
theorem dX12_readsRule_12 : decode cX12_readsRule 12 = .ok (.bipush 107, 2) := by decide +kernel
theorem dX12_readsRule_14 : decode cX12_readsRule 14 = .ok (.if_icmp .eq 25, 3) := by decide +kernel
theorem dX12_readsRule_17 : decode cX12_readsRule 17 = .ok (.iload_n 1, 1) := by decide +kernel
theorem dX12_readsRule_18 : decode cX12_readsRule 18 = .ok (.bipush 100, 2) := by decide +kernel
theorem dX12_readsRule_20 : decode cX12_readsRule 20 = .ok (.if_icmp .eq 19, 3) := by decide +kernel
theorem dX12_readsRule_23 : decode cX12_readsRule 23 = .ok (.iload_n 1, 1) := by decide +kernel
theorem dX12_readsRule_24 : decode cX12_readsRule 24 = .ok (.bipush 120, 2) := by decide +kernel
theorem dX12_readsRule_26 : decode cX12_readsRule 26 = .ok (.if_icmp .eq 13, 3) := by decide +kernel
theorem dX12_readsRule_29 : decode cX12_readsRule 29 = .ok (.aload_n 0, 1) := by decide +kernel
theorem dX12_readsRule_30 : decode cX12_readsRule 30 = .ok (.iconst 1, 1) := by decide +kernel
theorem dX12_readsRule_31 : decode cX12_readsRule 31 = .ok (.aload_n 0, 1) := by decide +kernel
theorem dX12_readsRule_32 : decode cX12_readsRule 32 = .ok (.getfield 123, 3) := by decide +kernel
theorem dX12_readsRule_35 : decode cX12_readsRule 35 = .ok (.invokevirtual 136, 3) := by decide +kernel
theorem dX12_readsRule_38 : decode cX12_readsRule 38 = .ok (.ireturn, 1) := by decide +kernel
theorem dX12_readsRule_39 : decode cX12_readsRule 39 = .ok (.aload_n 0, 1) := by decide +kernel
theorem dX12_readsRule_40 : decode cX12_readsRule 40 = .ok (.getfield 202, 3) := by decide +kernel
theorem dX12_readsRule_43 : decode cX12_readsRule 43 = .ok (.bipush 16, 2) := by decide +kernel
theorem dX12_readsRule_45 : decode cX12_readsRule 45 = .ok (.if_icmp .ne 13, 3) := by decide +kernel
theorem dX12_readsRule_48 : decode cX12_readsRule 48 = .ok (.aload_n 0, 1) := by decide +kernel
theorem dX12_readsRule_49 : decode cX12_readsRule 49 = .ok (.iconst 4, 1) := by decide +kernel
theorem dX12_readsRule_50 : decode cX12_readsRule 50 = .ok (.aload_n 0, 1) := by decide +kernel
theorem dX12_readsRule_51 : decode cX12_readsRule 51 = .ok (.getfield 123, 3) := by decide +kernel
theorem dX12_readsRule_54 : decode cX12_readsRule 54 = .ok (.invokevirtual 136, 3) := by decide +kernel
theorem dX12_readsRule_57 : decode cX12_readsRule 57 = .ok (.ireturn, 1) := by decide +kernel
theorem dX12_readsRule_58 : decode cX12_readsRule 58 = .ok (.aload_n 0, 1) := by decide +kernel
theorem dX12_readsRule_59 : decode cX12_readsRule 59 = .ok (.getfield 29, 3) := by decide +kernel
theorem dX12_readsRule_62 : decode cX12_readsRule 62 = .ok (.aload_n 0, 1) := by decide +kernel
theorem dX12_readsRule_63 : decode cX12_readsRule 63 = .ok (.getfield 202, 3) := by decide +kernel
theorem dX12_readsRule_66 : decode cX12_readsRule 66 = .ok (.iload_n 1, 1) := by decide +kernel
theorem dX12_readsRule_67 : decode cX12_readsRule 67 = .ok (.iastore, 1) := by decide +kernel
theorem dX12_readsRule_68 : decode cX12_readsRule 68 = .ok (.aload_n 0, 1) := by decide +kernel
theorem dX12_readsRule_69 : decode cX12_readsRule 69 = .ok (.aload_n 0, 1) := by decide +kernel
theorem dX12_readsRule_70 : decode cX12_readsRule 70 = .ok (.getfield 123, 3) := by decide +kernel
theorem dX12_readsRule_73 : decode cX12_readsRule 73 = .ok (.iconst 1, 1) := by decide +kernel
theorem dX12_readsRule_74 : decode cX12_readsRule 74 = .ok (.iadd, 1) := by decide +kernel
theorem dX12_readsRule_75 : decode cX12_readsRule 75 = .ok (.putfield 123, 3) := by decide +kernel
theorem dX12_readsRule_78 : decode cX12_readsRule 78 = .ok (.aload_n 0, 1) := by decide +kernel
theorem dX12_readsRule_79 : decode cX12_readsRule 79 = .ok (.getfield 32, 3) := by decide +kernel
theorem dX12_readsRule_82 : decode cX12_readsRule 82 = .ok (.aload_n 0, 1) := by decide +kernel
theorem dX12_readsRule_83 : decode cX12_readsRule 83 = .ok (.getfield 202, 3) := by decide +kernel
theorem dX12_readsRule_86 : decode cX12_readsRule 86 = .ok (.aload_n 0, 1) := by decide +kernel
theorem dX12_readsRule_87 : decode cX12_readsRule 87 = .ok (.getfield 147, 3) := by decide +kernel
theorem dX12_readsRule_90 : decode cX12_readsRule 90 = .ok (.iastore, 1) := by decide +kernel
theorem dX12_readsRule_91 : decode cX12_readsRule 91 = .ok (.aload_n 0, 1) := by decide +kernel
theorem dX12_readsRule_92 : decode cX12_readsRule 92 = .ok (.iconst 0, 1) := by decide +kernel
theorem dX12_readsRule_93 : decode cX12_readsRule 93 = .ok (.putfield 151, 3) := by decide +kernel
theorem dX12_readsRule_96 : decode cX12_readsRule 96 = .ok (.aload_n 0, 1) := by decide +kernel
theorem dX12_readsRule_97 : decode cX12_readsRule 97 = .ok (.iconst 0, 1) := by decide +kernel
theorem dX12_readsRule_98 : decode cX12_readsRule 98 = .ok (.putfield 154, 3) := by decide +kernel
theorem dX12_readsRule_101 : decode cX12_readsRule 101 = .ok (.iload_n 1, 1) := by decide +kernel
theorem dX12_readsRule_102 : decode cX12_readsRule 102 = .ok (.bipush 120, 2) := by decide +kernel
theorem dX12_readsRule_104 : decode cX12_readsRule 104 = .ok (.if_icmp .eq 12, 3) := by decide +kernel
theorem dX12_readsRule_107 : decode cX12_readsRule 107 = .ok (.aload_n 0, 1) := by decide +kernel
theorem dX12_readsRule_108 : decode cX12_readsRule 108 = .ok (.invokevirtual 187, 3) := by decide +kernel
theorem dX12_readsRule_111 : decode cX12_readsRule 111 = .ok (.ifCond .ne 5, 3) := by decide +kernel
theorem dX12_readsRule_114 : decode cX12_readsRule 114 = .ok (.iconst 0, 1) := by decide +kernel
theorem dX12_readsRule_115 : decode cX12_readsRule 115 = .ok (.ireturn, 1) := by decide +kernel
theorem dX12_readsRule_116 : decode cX12_readsRule 116 = .ok (.aload_n 0, 1) := by decide +kernel
theorem dX12_readsRule_117 : decode cX12_readsRule 117 = .ok (.getfield 35, 3) := by decide +kernel
theorem dX12_readsRule_120 : decode cX12_readsRule 120 = .ok (.aload_n 0, 1) := by decide +kernel
theorem dX12_readsRule_121 : decode cX12_readsRule 121 = .ok (.getfield 202, 3) := by decide +kernel
theorem dX12_readsRule_124 : decode cX12_readsRule 124 = .ok (.aload_n 0, 1) := by decide +kernel
theorem dX12_readsRule_125 : decode cX12_readsRule 125 = .ok (.getfield 147, 3) := by decide +kernel
theorem dX12_readsRule_128 : decode cX12_readsRule 128 = .ok (.iastore, 1) := by decide +kernel
theorem dX12_readsRule_129 : decode cX12_readsRule 129 = .ok (.aload_n 0, 1) := by decide +kernel
theorem dX12_readsRule_130 : decode cX12_readsRule 130 = .ok (.invokevirtual 205, 3) := by decide +kernel
theorem dX12_readsRule_133 : decode cX12_readsRule 133 = .ok (.ifCond .ne 5, 3) := by decide +kernel
theorem dX12_readsRule_136 : decode cX12_readsRule 136 = .ok (.iconst 0, 1) := by decide +kernel
theorem dX12_readsRule_137 : decode cX12_readsRule 137 = .ok (.ireturn, 1) := by decide +kernel
theorem dX12_readsRule_138 : decode cX12_readsRule 138 = .ok (.aload_n 0, 1) := by decide +kernel
theorem dX12_readsRule_139 : decode cX12_readsRule 139 = .ok (.getfield 38, 3) := by decide +kernel
theorem dX12_readsRule_142 : decode cX12_readsRule 142 = .ok (.aload_n 0, 1) := by decide +kernel
theorem dX12_readsRule_143 : decode cX12_readsRule 143 = .ok (.getfield 202, 3) := by decide +kernel
theorem dX12_readsRule_146 : decode cX12_readsRule 146 = .ok (.aload_n 0, 1) := by decide +kernel
theorem dX12_readsRule_147 : decode cX12_readsRule 147 = .ok (.getfield 147, 3) := by decide +kernel
theorem dX12_readsRule_150 : decode cX12_readsRule 150 = .ok (.iastore, 1) := by decide +kernel
theorem dX12_readsRule_151 : decode cX12_readsRule 151 = .ok (.aload_n 0, 1) := by decide +kernel
theorem dX12_readsRule_152 : decode cX12_readsRule 152 = .ok (.aload_n 0, 1) := by decide +kernel
theorem dX12_readsRule_153 : decode cX12_readsRule 153 = .ok (.getfield 202, 3) := by decide +kernel
theorem dX12_readsRule_156 : decode cX12_readsRule 156 = .ok (.iconst 1, 1) := by decide +kernel
theorem dX12_readsRule_157 : decode cX12_readsRule 157 = .ok (.iadd, 1) := by decide +kernel
theorem dX12_readsRule_158 : decode cX12_readsRule 158 = .ok (.putfield 202, 3) := by decide +kernel
theorem dX12_readsRule_161 : decode cX12_readsRule 161 = .ok (.iconst 1, 1) := by decide +kernel
theorem dX12_readsRule_162 : decode cX12_readsRule 162 = .ok (.ireturn, 1) := by decide +kernel
theorem dX12_beginsText_0 : decode cX12_beginsText 0 = .ok (.aload_n 0, 1) := by decide +kernel
theorem dX12_beginsText_1 : decode cX12_beginsText 1 = .ok (.iconst 0, 1) := by decide +kernel
theorem dX12_beginsText_2 : decode cX12_beginsText 2 = .ok (.putfield 123, 3) := by decide +kernel
theorem dX12_beginsText_5 : decode cX12_beginsText 5 = .ok (.aload_n 0, 1) := by decide +kernel
theorem dX12_beginsText_6 : decode cX12_beginsText 6 = .ok (.iload_n 1, 1) := by decide +kernel
theorem dX12_beginsText_7 : decode cX12_beginsText 7 = .ok (.putfield 126, 3) := by decide +kernel
theorem dX12_beginsText_10 : decode cX12_beginsText 10 = .ok (.aload_n 0, 1) := by decide +kernel
theorem dX12_beginsText_11 : decode cX12_beginsText 11 = .ok (.iconst 0, 1) := by decide +kernel
theorem dX12_beginsText_12 : decode cX12_beginsText 12 = .ok (.putfield 147, 3) := by decide +kernel
theorem dX12_beginsText_15 : decode cX12_beginsText 15 = .ok (.aload_n 0, 1) := by decide +kernel
theorem dX12_beginsText_16 : decode cX12_beginsText 16 = .ok (.iconst 0, 1) := by decide +kernel
theorem dX12_beginsText_17 : decode cX12_beginsText 17 = .ok (.putfield 202, 3) := by decide +kernel
theorem dX12_beginsText_20 : decode cX12_beginsText 20 = .ok (.return_, 1) := by decide +kernel
theorem dX12_law_0 : decode cX12_law 0 = .ok (.iload_n 1, 1) := by decide +kernel
theorem dX12_law_1 : decode cX12_law 1 = .ok (.iconst 1, 1) := by decide +kernel
theorem dX12_law_2 : decode cX12_law 2 = .ok (.sipush 240, 3) := by decide +kernel
theorem dX12_law_5 : decode cX12_law 5 = .ok (.invokestatic 90, 3) := by decide +kernel
theorem dX12_law_8 : decode cX12_law 8 = .ok (.ifCond .eq 11, 3) := by decide +kernel
theorem dX12_law_11 : decode cX12_law 11 = .ok (.iload_n 1, 1) := by decide +kernel
theorem dX12_law_12 : decode cX12_law 12 = .ok (.aload_n 0, 1) := by decide +kernel
theorem dX12_law_13 : decode cX12_law 13 = .ok (.getfield 115, 3) := by decide +kernel
theorem dX12_law_16 : decode cX12_law 16 = .ok (.if_icmp .le 5, 3) := by decide +kernel
theorem dX12_law_19 : decode cX12_law 19 = .ok (.iconst (-1), 1) := by decide +kernel
theorem dX12_law_20 : decode cX12_law 20 = .ok (.ireturn, 1) := by decide +kernel
theorem dX12_law_21 : decode cX12_law 21 = .ok (.aload_n 0, 1) := by decide +kernel
theorem dX12_law_22 : decode cX12_law 22 = .ok (.iload_n 1, 1) := by decide +kernel
theorem dX12_law_23 : decode cX12_law 23 = .ok (.invokevirtual 208, 3) := by decide +kernel
theorem dX12_law_26 : decode cX12_law 26 = .ok (.aload_n 0, 1) := by decide +kernel
theorem dX12_law_27 : decode cX12_law 27 = .ok (.invokevirtual 211, 3) := by decide +kernel
theorem dX12_law_30 : decode cX12_law 30 = .ok (.istore_n 2, 1) := by decide +kernel
theorem dX12_law_31 : decode cX12_law 31 = .ok (.iload_n 2, 1) := by decide +kernel
theorem dX12_law_32 : decode cX12_law 32 = .ok (.ifCond .eq 39, 3) := by decide +kernel
theorem dX12_law_35 : decode cX12_law 35 = .ok (.aload_n 0, 1) := by decide +kernel
theorem dX12_law_36 : decode cX12_law 36 = .ok (.getfield 123, 3) := by decide +kernel
theorem dX12_law_39 : decode cX12_law 39 = .ok (.aload_n 0, 1) := by decide +kernel
theorem dX12_law_40 : decode cX12_law 40 = .ok (.getfield 126, 3) := by decide +kernel
theorem dX12_law_43 : decode cX12_law 43 = .ok (.if_icmp .ge 28, 3) := by decide +kernel
theorem dX12_law_46 : decode cX12_law 46 = .ok (.aload_n 0, 1) := by decide +kernel
theorem dX12_law_47 : decode cX12_law 47 = .ok (.bipush 59, 2) := by decide +kernel
theorem dX12_law_49 : decode cX12_law 49 = .ok (.invokevirtual 214, 3) := by decide +kernel
theorem dX12_law_52 : decode cX12_law 52 = .ok (.ifCond .eq 14, 3) := by decide +kernel
theorem dX12_law_55 : decode cX12_law 55 = .ok (.aload_n 0, 1) := by decide +kernel
theorem dX12_law_56 : decode cX12_law 56 = .ok (.invokevirtual 211, 3) := by decide +kernel
theorem dX12_law_59 : decode cX12_law 59 = .ok (.ifCond .eq 7, 3) := by decide +kernel
theorem dX12_law_62 : decode cX12_law 62 = .ok (.iconst 1, 1) := by decide +kernel
theorem dX12_law_63 : decode cX12_law 63 = .ok (.goto 4, 3) := by decide +kernel
theorem dX12_law_66 : decode cX12_law 66 = .ok (.iconst 0, 1) := by decide +kernel
theorem dX12_law_67 : decode cX12_law 67 = .ok (.istore_n 2, 1) := by decide +kernel
theorem dX12_law_68 : decode cX12_law 68 = .ok (.goto (-37), 3) := by decide +kernel
theorem dX12_law_71 : decode cX12_law 71 = .ok (.aload_n 0, 1) := by decide +kernel
theorem dX12_law_72 : decode cX12_law 72 = .ok (.iconst 0, 1) := by decide +kernel
theorem dX12_law_73 : decode cX12_law 73 = .ok (.putfield 115, 3) := by decide +kernel
theorem dX12_law_76 : decode cX12_law 76 = .ok (.iload_n 2, 1) := by decide +kernel
theorem dX12_law_77 : decode cX12_law 77 = .ok (.ifCond .ne 8, 3) := by decide +kernel
theorem dX12_law_80 : decode cX12_law 80 = .ok (.aload_n 0, 1) := by decide +kernel
theorem dX12_law_81 : decode cX12_law 81 = .ok (.getfield 133, 3) := by decide +kernel
theorem dX12_law_84 : decode cX12_law 84 = .ok (.ireturn, 1) := by decide +kernel
theorem dX12_law_85 : decode cX12_law 85 = .ok (.aload_n 0, 1) := by decide +kernel
theorem dX12_law_86 : decode cX12_law 86 = .ok (.aload_n 0, 1) := by decide +kernel
theorem dX12_law_87 : decode cX12_law 87 = .ok (.getfield 202, 3) := by decide +kernel
theorem dX12_law_90 : decode cX12_law 90 = .ok (.putfield 217, 3) := by decide +kernel
theorem dX12_law_93 : decode cX12_law 93 = .ok (.iconst 0, 1) := by decide +kernel
theorem dX12_law_94 : decode cX12_law 94 = .ok (.istore_n 3, 1) := by decide +kernel
theorem dX12_law_95 : decode cX12_law 95 = .ok (.iload_n 3, 1) := by decide +kernel
theorem dX12_law_96 : decode cX12_law 96 = .ok (.aload_n 0, 1) := by decide +kernel
theorem dX12_law_97 : decode cX12_law 97 = .ok (.getfield 147, 3) := by decide +kernel
theorem dX12_law_100 : decode cX12_law 100 = .ok (.if_icmp .ge 21, 3) := by decide +kernel
theorem dX12_law_103 : decode cX12_law 103 = .ok (.aload_n 0, 1) := by decide +kernel
theorem dX12_law_104 : decode cX12_law 104 = .ok (.getfield 41, 3) := by decide +kernel
theorem dX12_law_107 : decode cX12_law 107 = .ok (.iload_n 3, 1) := by decide +kernel
theorem dX12_law_108 : decode cX12_law 108 = .ok (.aload_n 0, 1) := by decide +kernel
theorem dX12_law_109 : decode cX12_law 109 = .ok (.getfield 23, 3) := by decide +kernel
theorem dX12_law_112 : decode cX12_law 112 = .ok (.iload_n 3, 1) := by decide +kernel
theorem dX12_law_113 : decode cX12_law 113 = .ok (.iaload, 1) := by decide +kernel
theorem dX12_law_114 : decode cX12_law 114 = .ok (.iastore, 1) := by decide +kernel
theorem dX12_law_115 : decode cX12_law 115 = .ok (.iinc 3 1, 3) := by decide +kernel
theorem dX12_law_118 : decode cX12_law 118 = .ok (.goto (-23), 3) := by decide +kernel
theorem dX12_law_121 : decode cX12_law 121 = .ok (.iconst 0, 1) := by decide +kernel
theorem dX12_law_122 : decode cX12_law 122 = .ok (.istore_n 3, 1) := by decide +kernel
theorem dX12_law_123 : decode cX12_law 123 = .ok (.iload_n 3, 1) := by decide +kernel
theorem dX12_law_124 : decode cX12_law 124 = .ok (.aload_n 0, 1) := by decide +kernel
theorem dX12_law_125 : decode cX12_law 125 = .ok (.getfield 202, 3) := by decide +kernel
theorem dX12_law_128 : decode cX12_law 128 = .ok (.if_icmp .ge 57, 3) := by decide +kernel
theorem dX12_law_131 : decode cX12_law 131 = .ok (.aload_n 0, 1) := by decide +kernel
theorem dX12_law_132 : decode cX12_law 132 = .ok (.getfield 44, 3) := by decide +kernel
theorem dX12_law_135 : decode cX12_law 135 = .ok (.iload_n 3, 1) := by decide +kernel
theorem dX12_law_136 : decode cX12_law 136 = .ok (.aload_n 0, 1) := by decide +kernel
theorem dX12_law_137 : decode cX12_law 137 = .ok (.getfield 29, 3) := by decide +kernel
theorem dX12_law_140 : decode cX12_law 140 = .ok (.iload_n 3, 1) := by decide +kernel
theorem dX12_law_141 : decode cX12_law 141 = .ok (.iaload, 1) := by decide +kernel
theorem dX12_law_142 : decode cX12_law 142 = .ok (.iastore, 1) := by decide +kernel
theorem dX12_law_143 : decode cX12_law 143 = .ok (.aload_n 0, 1) := by decide +kernel
theorem dX12_law_144 : decode cX12_law 144 = .ok (.getfield 47, 3) := by decide +kernel
theorem dX12_law_147 : decode cX12_law 147 = .ok (.iload_n 3, 1) := by decide +kernel
theorem dX12_law_148 : decode cX12_law 148 = .ok (.aload_n 0, 1) := by decide +kernel
theorem dX12_law_149 : decode cX12_law 149 = .ok (.getfield 32, 3) := by decide +kernel
theorem dX12_law_152 : decode cX12_law 152 = .ok (.iload_n 3, 1) := by decide +kernel
theorem dX12_law_153 : decode cX12_law 153 = .ok (.iaload, 1) := by decide +kernel
theorem dX12_law_154 : decode cX12_law 154 = .ok (.iastore, 1) := by decide +kernel
theorem dX12_law_155 : decode cX12_law 155 = .ok (.aload_n 0, 1) := by decide +kernel
theorem dX12_law_156 : decode cX12_law 156 = .ok (.getfield 50, 3) := by decide +kernel
theorem dX12_law_159 : decode cX12_law 159 = .ok (.iload_n 3, 1) := by decide +kernel
theorem dX12_law_160 : decode cX12_law 160 = .ok (.aload_n 0, 1) := by decide +kernel
theorem dX12_law_161 : decode cX12_law 161 = .ok (.getfield 35, 3) := by decide +kernel
theorem dX12_law_164 : decode cX12_law 164 = .ok (.iload_n 3, 1) := by decide +kernel
theorem dX12_law_165 : decode cX12_law 165 = .ok (.iaload, 1) := by decide +kernel
theorem dX12_law_166 : decode cX12_law 166 = .ok (.iastore, 1) := by decide +kernel
theorem dX12_law_167 : decode cX12_law 167 = .ok (.aload_n 0, 1) := by decide +kernel
theorem dX12_law_168 : decode cX12_law 168 = .ok (.getfield 53, 3) := by decide +kernel
theorem dX12_law_171 : decode cX12_law 171 = .ok (.iload_n 3, 1) := by decide +kernel
theorem dX12_law_172 : decode cX12_law 172 = .ok (.aload_n 0, 1) := by decide +kernel
theorem dX12_law_173 : decode cX12_law 173 = .ok (.getfield 38, 3) := by decide +kernel
theorem dX12_law_176 : decode cX12_law 176 = .ok (.iload_n 3, 1) := by decide +kernel
theorem dX12_law_177 : decode cX12_law 177 = .ok (.iaload, 1) := by decide +kernel
theorem dX12_law_178 : decode cX12_law 178 = .ok (.iastore, 1) := by decide +kernel
theorem dX12_law_179 : decode cX12_law 179 = .ok (.iinc 3 1, 3) := by decide +kernel
theorem dX12_law_182 : decode cX12_law 182 = .ok (.goto (-59), 3) := by decide +kernel
theorem dX12_law_185 : decode cX12_law 185 = .ok (.aload_n 0, 1) := by decide +kernel
theorem dX12_law_186 : decode cX12_law 186 = .ok (.getfield 202, 3) := by decide +kernel
theorem dX12_law_189 : decode cX12_law 189 = .ok (.ireturn, 1) := by decide +kernel
theorem dX12_reckon_0 : decode cX12_reckon 0 = .ok (.iload_n 0, 1) := by decide +kernel
theorem dX12_reckon_1 : decode cX12_reckon 1 = .ok (.tableswitch 85 2 8 #[43, 47, 51, 55, 59, 63, 74], 43) := by decide +kernel
theorem dX12_reckon_44 : decode cX12_reckon 44 = .ok (.iload_n 1, 1) := by decide +kernel
theorem dX12_reckon_45 : decode cX12_reckon 45 = .ok (.iload_n 2, 1) := by decide +kernel
theorem dX12_reckon_46 : decode cX12_reckon 46 = .ok (.iadd, 1) := by decide +kernel
theorem dX12_reckon_47 : decode cX12_reckon 47 = .ok (.ireturn, 1) := by decide +kernel
theorem dX12_reckon_48 : decode cX12_reckon 48 = .ok (.iload_n 1, 1) := by decide +kernel
theorem dX12_reckon_49 : decode cX12_reckon 49 = .ok (.iload_n 2, 1) := by decide +kernel
theorem dX12_reckon_50 : decode cX12_reckon 50 = .ok (.isub, 1) := by decide +kernel
theorem dX12_reckon_51 : decode cX12_reckon 51 = .ok (.ireturn, 1) := by decide +kernel
theorem dX12_reckon_52 : decode cX12_reckon 52 = .ok (.iload_n 1, 1) := by decide +kernel
theorem dX12_reckon_53 : decode cX12_reckon 53 = .ok (.iload_n 2, 1) := by decide +kernel
theorem dX12_reckon_54 : decode cX12_reckon 54 = .ok (.imul, 1) := by decide +kernel
theorem dX12_reckon_55 : decode cX12_reckon 55 = .ok (.ireturn, 1) := by decide +kernel
theorem dX12_reckon_56 : decode cX12_reckon 56 = .ok (.iload_n 1, 1) := by decide +kernel
theorem dX12_reckon_57 : decode cX12_reckon 57 = .ok (.iload_n 2, 1) := by decide +kernel
theorem dX12_reckon_58 : decode cX12_reckon 58 = .ok (.idiv, 1) := by decide +kernel
theorem dX12_reckon_59 : decode cX12_reckon 59 = .ok (.ireturn, 1) := by decide +kernel
theorem dX12_reckon_60 : decode cX12_reckon 60 = .ok (.iload_n 1, 1) := by decide +kernel
theorem dX12_reckon_61 : decode cX12_reckon 61 = .ok (.iload_n 2, 1) := by decide +kernel
theorem dX12_reckon_62 : decode cX12_reckon 62 = .ok (.irem, 1) := by decide +kernel
theorem dX12_reckon_63 : decode cX12_reckon 63 = .ok (.ireturn, 1) := by decide +kernel
theorem dX12_reckon_64 : decode cX12_reckon 64 = .ok (.iload_n 1, 1) := by decide +kernel
theorem dX12_reckon_65 : decode cX12_reckon 65 = .ok (.iload_n 2, 1) := by decide +kernel
theorem dX12_reckon_66 : decode cX12_reckon 66 = .ok (.if_icmp .ge 7, 3) := by decide +kernel
theorem dX12_reckon_69 : decode cX12_reckon 69 = .ok (.iconst 1, 1) := by decide +kernel
theorem dX12_reckon_70 : decode cX12_reckon 70 = .ok (.goto 4, 3) := by decide +kernel
theorem dX12_reckon_73 : decode cX12_reckon 73 = .ok (.iconst 0, 1) := by decide +kernel
theorem dX12_reckon_74 : decode cX12_reckon 74 = .ok (.ireturn, 1) := by decide +kernel
theorem dX12_reckon_75 : decode cX12_reckon 75 = .ok (.iload_n 1, 1) := by decide +kernel
theorem dX12_reckon_76 : decode cX12_reckon 76 = .ok (.iload_n 2, 1) := by decide +kernel
theorem dX12_reckon_77 : decode cX12_reckon 77 = .ok (.if_icmp .le 7, 3) := by decide +kernel
theorem dX12_reckon_80 : decode cX12_reckon 80 = .ok (.iconst 1, 1) := by decide +kernel
theorem dX12_reckon_81 : decode cX12_reckon 81 = .ok (.goto 4, 3) := by decide +kernel
theorem dX12_reckon_84 : decode cX12_reckon 84 = .ok (.iconst 0, 1) := by decide +kernel
theorem dX12_reckon_85 : decode cX12_reckon 85 = .ok (.ireturn, 1) := by decide +kernel
theorem dX12_reckon_86 : decode cX12_reckon 86 = .ok (.iload_n 1, 1) := by decide +kernel
theorem dX12_reckon_87 : decode cX12_reckon 87 = .ok (.iload_n 2, 1) := by decide +kernel
theorem dX12_reckon_88 : decode cX12_reckon 88 = .ok (.if_icmp .ne 7, 3) := by decide +kernel
theorem dX12_reckon_91 : decode cX12_reckon 91 = .ok (.iconst 1, 1) := by decide +kernel
theorem dX12_reckon_92 : decode cX12_reckon 92 = .ok (.goto 4, 3) := by decide +kernel
theorem dX12_reckon_95 : decode cX12_reckon 95 = .ok (.iconst 0, 1) := by decide +kernel
theorem dX12_reckon_96 : decode cX12_reckon 96 = .ok (.ireturn, 1) := by decide +kernel
theorem dX12_comesTo_0 : decode cX12_comesTo 0 = .ok (.iconst 0, 1) := by decide +kernel
theorem dX12_comesTo_1 : decode cX12_comesTo 1 = .ok (.istore_n 3, 1) := by decide +kernel
theorem dX12_comesTo_2 : decode cX12_comesTo 2 = .ok (.sipush 260, 3) := by decide +kernel
theorem dX12_comesTo_5 : decode cX12_comesTo 5 = .ok (.iload_n 1, 1) := by decide +kernel
theorem dX12_comesTo_6 : decode cX12_comesTo 6 = .ok (.sipush 260, 3) := by decide +kernel
theorem dX12_comesTo_9 : decode cX12_comesTo 9 = .ok (.idiv, 1) := by decide +kernel
theorem dX12_comesTo_10 : decode cX12_comesTo 10 = .ok (.imul, 1) := by decide +kernel
theorem dX12_comesTo_11 : decode cX12_comesTo 11 = .ok (.istore 4, 2) := by decide +kernel
theorem dX12_comesTo_13 : decode cX12_comesTo 13 = .ok (.iload_n 1, 1) := by decide +kernel
theorem dX12_comesTo_14 : decode cX12_comesTo 14 = .ok (.istore 5, 2) := by decide +kernel
theorem dX12_comesTo_16 : decode cX12_comesTo 16 = .ok (.iload 5, 2) := by decide +kernel
theorem dX12_comesTo_18 : decode cX12_comesTo 18 = .ok (.iload_n 2, 1) := by decide +kernel
theorem dX12_comesTo_19 : decode cX12_comesTo 19 = .ok (.if_icmp .ge 214, 3) := by decide +kernel
theorem dX12_comesTo_22 : decode cX12_comesTo 22 = .ok (.aload_n 0, 1) := by decide +kernel
theorem dX12_comesTo_23 : decode cX12_comesTo 23 = .ok (.getfield 41, 3) := by decide +kernel
theorem dX12_comesTo_26 : decode cX12_comesTo 26 = .ok (.iload 5, 2) := by decide +kernel
theorem dX12_comesTo_28 : decode cX12_comesTo 28 = .ok (.iaload, 1) := by decide +kernel
theorem dX12_comesTo_29 : decode cX12_comesTo 29 = .ok (.ldc 150, 2) := by decide +kernel
theorem dX12_comesTo_31 : decode cX12_comesTo 31 = .ok (.idiv, 1) := by decide +kernel
theorem dX12_comesTo_32 : decode cX12_comesTo 32 = .ok (.istore 6, 2) := by decide +kernel
theorem dX12_comesTo_34 : decode cX12_comesTo 34 = .ok (.aload_n 0, 1) := by decide +kernel
theorem dX12_comesTo_35 : decode cX12_comesTo 35 = .ok (.getfield 41, 3) := by decide +kernel
theorem dX12_comesTo_38 : decode cX12_comesTo 38 = .ok (.iload 5, 2) := by decide +kernel
theorem dX12_comesTo_40 : decode cX12_comesTo 40 = .ok (.iaload, 1) := by decide +kernel
theorem dX12_comesTo_41 : decode cX12_comesTo 41 = .ok (.ldc 150, 2) := by decide +kernel
theorem dX12_comesTo_43 : decode cX12_comesTo 43 = .ok (.irem, 1) := by decide +kernel
theorem dX12_comesTo_44 : decode cX12_comesTo 44 = .ok (.istore 7, 2) := by decide +kernel
theorem dX12_comesTo_46 : decode cX12_comesTo 46 = .ok (.iload 5, 2) := by decide +kernel
theorem dX12_comesTo_48 : decode cX12_comesTo 48 = .ok (.iconst 1, 1) := by decide +kernel
theorem dX12_comesTo_49 : decode cX12_comesTo 49 = .ok (.iadd, 1) := by decide +kernel
theorem dX12_comesTo_50 : decode cX12_comesTo 50 = .ok (.istore 5, 2) := by decide +kernel
theorem dX12_comesTo_52 : decode cX12_comesTo 52 = .ok (.iload 6, 2) := by decide +kernel
theorem dX12_comesTo_54 : decode cX12_comesTo 54 = .ok (.ifCond .eq 9, 3) := by decide +kernel
theorem dX12_comesTo_57 : decode cX12_comesTo 57 = .ok (.iload 6, 2) := by decide +kernel
theorem dX12_comesTo_59 : decode cX12_comesTo 59 = .ok (.iconst 1, 1) := by decide +kernel
theorem dX12_comesTo_60 : decode cX12_comesTo 60 = .ok (.if_icmp .ne 33, 3) := by decide +kernel
theorem dX12_comesTo_63 : decode cX12_comesTo 63 = .ok (.aload_n 0, 1) := by decide +kernel
theorem dX12_comesTo_64 : decode cX12_comesTo 64 = .ok (.getfield 56, 3) := by decide +kernel
theorem dX12_comesTo_67 : decode cX12_comesTo 67 = .ok (.iload_n 3, 1) := by decide +kernel
theorem dX12_comesTo_68 : decode cX12_comesTo 68 = .ok (.iload 6, 2) := by decide +kernel
theorem dX12_comesTo_70 : decode cX12_comesTo 70 = .ok (.ifCond .ne 8, 3) := by decide +kernel
theorem dX12_comesTo_73 : decode cX12_comesTo 73 = .ok (.iload 7, 2) := by decide +kernel
theorem dX12_comesTo_75 : decode cX12_comesTo 75 = .ok (.goto 10, 3) := by decide +kernel
theorem dX12_comesTo_78 : decode cX12_comesTo 78 = .ok (.aload_n 0, 1) := by decide +kernel
theorem dX12_comesTo_79 : decode cX12_comesTo 79 = .ok (.getfield 59, 3) := by decide +kernel
theorem dX12_comesTo_82 : decode cX12_comesTo 82 = .ok (.iload 7, 2) := by decide +kernel
theorem dX12_comesTo_84 : decode cX12_comesTo 84 = .ok (.iaload, 1) := by decide +kernel
theorem dX12_comesTo_85 : decode cX12_comesTo 85 = .ok (.iastore, 1) := by decide +kernel
theorem dX12_comesTo_86 : decode cX12_comesTo 86 = .ok (.iload_n 3, 1) := by decide +kernel
theorem dX12_comesTo_87 : decode cX12_comesTo 87 = .ok (.iconst 1, 1) := by decide +kernel
theorem dX12_comesTo_88 : decode cX12_comesTo 88 = .ok (.iadd, 1) := by decide +kernel
theorem dX12_comesTo_89 : decode cX12_comesTo 89 = .ok (.istore_n 3, 1) := by decide +kernel
theorem dX12_comesTo_90 : decode cX12_comesTo 90 = .ok (.goto 140, 3) := by decide +kernel
theorem dX12_comesTo_93 : decode cX12_comesTo 93 = .ok (.iload 6, 2) := by decide +kernel
theorem dX12_comesTo_95 : decode cX12_comesTo 95 = .ok (.bipush 10, 2) := by decide +kernel
theorem dX12_comesTo_97 : decode cX12_comesTo 97 = .ok (.if_icmp .ne 24, 3) := by decide +kernel
theorem dX12_comesTo_100 : decode cX12_comesTo 100 = .ok (.aload_n 0, 1) := by decide +kernel
theorem dX12_comesTo_101 : decode cX12_comesTo 101 = .ok (.getfield 56, 3) := by decide +kernel
theorem dX12_comesTo_104 : decode cX12_comesTo 104 = .ok (.iload_n 3, 1) := by decide +kernel
theorem dX12_comesTo_105 : decode cX12_comesTo 105 = .ok (.iconst 1, 1) := by decide +kernel
theorem dX12_comesTo_106 : decode cX12_comesTo 106 = .ok (.isub, 1) := by decide +kernel
theorem dX12_comesTo_107 : decode cX12_comesTo 107 = .ok (.iconst 1, 1) := by decide +kernel
theorem dX12_comesTo_108 : decode cX12_comesTo 108 = .ok (.aload_n 0, 1) := by decide +kernel
theorem dX12_comesTo_109 : decode cX12_comesTo 109 = .ok (.getfield 56, 3) := by decide +kernel
theorem dX12_comesTo_112 : decode cX12_comesTo 112 = .ok (.iload_n 3, 1) := by decide +kernel
theorem dX12_comesTo_113 : decode cX12_comesTo 113 = .ok (.iconst 1, 1) := by decide +kernel
theorem dX12_comesTo_114 : decode cX12_comesTo 114 = .ok (.isub, 1) := by decide +kernel
theorem dX12_comesTo_115 : decode cX12_comesTo 115 = .ok (.iaload, 1) := by decide +kernel
theorem dX12_comesTo_116 : decode cX12_comesTo 116 = .ok (.isub, 1) := by decide +kernel
theorem dX12_comesTo_117 : decode cX12_comesTo 117 = .ok (.iastore, 1) := by decide +kernel
theorem dX12_comesTo_118 : decode cX12_comesTo 118 = .ok (.goto 112, 3) := by decide +kernel
theorem dX12_comesTo_121 : decode cX12_comesTo 121 = .ok (.iload 6, 2) := by decide +kernel
theorem dX12_comesTo_123 : decode cX12_comesTo 123 = .ok (.bipush 11, 2) := by decide +kernel
theorem dX12_comesTo_125 : decode cX12_comesTo 125 = .ok (.if_icmp .eq 10, 3) := by decide +kernel
theorem dX12_comesTo_128 : decode cX12_comesTo 128 = .ok (.iload 6, 2) := by decide +kernel
theorem dX12_comesTo_130 : decode cX12_comesTo 130 = .ok (.bipush 12, 2) := by decide +kernel
theorem dX12_comesTo_132 : decode cX12_comesTo 132 = .ok (.if_icmp .ne 43, 3) := by decide +kernel
theorem dX12_comesTo_135 : decode cX12_comesTo 135 = .ok (.aload_n 0, 1) := by decide +kernel
theorem dX12_comesTo_136 : decode cX12_comesTo 136 = .ok (.getfield 56, 3) := by decide +kernel
theorem dX12_comesTo_139 : decode cX12_comesTo 139 = .ok (.iload_n 3, 1) := by decide +kernel
theorem dX12_comesTo_140 : decode cX12_comesTo 140 = .ok (.iconst 1, 1) := by decide +kernel
theorem dX12_comesTo_141 : decode cX12_comesTo 141 = .ok (.isub, 1) := by decide +kernel
theorem dX12_comesTo_142 : decode cX12_comesTo 142 = .ok (.iaload, 1) := by decide +kernel
theorem dX12_comesTo_143 : decode cX12_comesTo 143 = .ok (.iload 6, 2) := by decide +kernel
theorem dX12_comesTo_145 : decode cX12_comesTo 145 = .ok (.bipush 12, 2) := by decide +kernel
theorem dX12_comesTo_147 : decode cX12_comesTo 147 = .ok (.if_icmp .ne 7, 3) := by decide +kernel
theorem dX12_comesTo_150 : decode cX12_comesTo 150 = .ok (.iconst 1, 1) := by decide +kernel
theorem dX12_comesTo_151 : decode cX12_comesTo 151 = .ok (.goto 4, 3) := by decide +kernel
theorem dX12_comesTo_154 : decode cX12_comesTo 154 = .ok (.iconst 0, 1) := by decide +kernel
theorem dX12_comesTo_155 : decode cX12_comesTo 155 = .ok (.if_icmp .ne 13, 3) := by decide +kernel
theorem dX12_comesTo_158 : decode cX12_comesTo 158 = .ok (.iload 4, 2) := by decide +kernel
theorem dX12_comesTo_160 : decode cX12_comesTo 160 = .ok (.iload 7, 2) := by decide +kernel
theorem dX12_comesTo_162 : decode cX12_comesTo 162 = .ok (.iadd, 1) := by decide +kernel
theorem dX12_comesTo_163 : decode cX12_comesTo 163 = .ok (.istore 5, 2) := by decide +kernel
theorem dX12_comesTo_165 : decode cX12_comesTo 165 = .ok (.goto 65, 3) := by decide +kernel
theorem dX12_comesTo_168 : decode cX12_comesTo 168 = .ok (.iload_n 3, 1) := by decide +kernel
theorem dX12_comesTo_169 : decode cX12_comesTo 169 = .ok (.iconst 1, 1) := by decide +kernel
theorem dX12_comesTo_170 : decode cX12_comesTo 170 = .ok (.isub, 1) := by decide +kernel
theorem dX12_comesTo_171 : decode cX12_comesTo 171 = .ok (.istore_n 3, 1) := by decide +kernel
theorem dX12_comesTo_172 : decode cX12_comesTo 172 = .ok (.goto 58, 3) := by decide +kernel
theorem dX12_comesTo_175 : decode cX12_comesTo 175 = .ok (.iload_n 3, 1) := by decide +kernel
theorem dX12_comesTo_176 : decode cX12_comesTo 176 = .ok (.iconst 1, 1) := by decide +kernel
theorem dX12_comesTo_177 : decode cX12_comesTo 177 = .ok (.isub, 1) := by decide +kernel
theorem dX12_comesTo_178 : decode cX12_comesTo 178 = .ok (.istore_n 3, 1) := by decide +kernel
theorem dX12_comesTo_179 : decode cX12_comesTo 179 = .ok (.iload 6, 2) := by decide +kernel
theorem dX12_comesTo_181 : decode cX12_comesTo 181 = .ok (.iconst 5, 1) := by decide +kernel
theorem dX12_comesTo_182 : decode cX12_comesTo 182 = .ok (.if_icmp .eq 10, 3) := by decide +kernel
theorem dX12_comesTo_185 : decode cX12_comesTo 185 = .ok (.iload 6, 2) := by decide +kernel
theorem dX12_comesTo_187 : decode cX12_comesTo 187 = .ok (.bipush 6, 2) := by decide +kernel
theorem dX12_comesTo_189 : decode cX12_comesTo 189 = .ok (.if_icmp .ne 14, 3) := by decide +kernel
theorem dX12_comesTo_192 : decode cX12_comesTo 192 = .ok (.aload_n 0, 1) := by decide +kernel
theorem dX12_comesTo_193 : decode cX12_comesTo 193 = .ok (.getfield 56, 3) := by decide +kernel
theorem dX12_comesTo_196 : decode cX12_comesTo 196 = .ok (.iload_n 3, 1) := by decide +kernel
theorem dX12_comesTo_197 : decode cX12_comesTo 197 = .ok (.iaload, 1) := by decide +kernel
theorem dX12_comesTo_198 : decode cX12_comesTo 198 = .ok (.ifCond .ne 5, 3) := by decide +kernel
theorem dX12_comesTo_201 : decode cX12_comesTo 201 = .ok (.iconst 0, 1) := by decide +kernel
theorem dX12_comesTo_202 : decode cX12_comesTo 202 = .ok (.ireturn, 1) := by decide +kernel
theorem dX12_comesTo_203 : decode cX12_comesTo 203 = .ok (.aload_n 0, 1) := by decide +kernel
theorem dX12_comesTo_204 : decode cX12_comesTo 204 = .ok (.getfield 56, 3) := by decide +kernel
theorem dX12_comesTo_207 : decode cX12_comesTo 207 = .ok (.iload_n 3, 1) := by decide +kernel
theorem dX12_comesTo_208 : decode cX12_comesTo 208 = .ok (.iconst 1, 1) := by decide +kernel
theorem dX12_comesTo_209 : decode cX12_comesTo 209 = .ok (.isub, 1) := by decide +kernel
theorem dX12_comesTo_210 : decode cX12_comesTo 210 = .ok (.iload 6, 2) := by decide +kernel
theorem dX12_comesTo_212 : decode cX12_comesTo 212 = .ok (.aload_n 0, 1) := by decide +kernel
theorem dX12_comesTo_213 : decode cX12_comesTo 213 = .ok (.getfield 56, 3) := by decide +kernel
theorem dX12_comesTo_216 : decode cX12_comesTo 216 = .ok (.iload_n 3, 1) := by decide +kernel
theorem dX12_comesTo_217 : decode cX12_comesTo 217 = .ok (.iconst 1, 1) := by decide +kernel
theorem dX12_comesTo_218 : decode cX12_comesTo 218 = .ok (.isub, 1) := by decide +kernel
theorem dX12_comesTo_219 : decode cX12_comesTo 219 = .ok (.iaload, 1) := by decide +kernel
theorem dX12_comesTo_220 : decode cX12_comesTo 220 = .ok (.aload_n 0, 1) := by decide +kernel
theorem dX12_comesTo_221 : decode cX12_comesTo 221 = .ok (.getfield 56, 3) := by decide +kernel
theorem dX12_comesTo_224 : decode cX12_comesTo 224 = .ok (.iload_n 3, 1) := by decide +kernel
theorem dX12_comesTo_225 : decode cX12_comesTo 225 = .ok (.iaload, 1) := by decide +kernel
theorem dX12_comesTo_226 : decode cX12_comesTo 226 = .ok (.invokestatic 220, 3) := by decide +kernel
theorem dX12_comesTo_229 : decode cX12_comesTo 229 = .ok (.iastore, 1) := by decide +kernel
theorem dX12_comesTo_230 : decode cX12_comesTo 230 = .ok (.goto (-214), 3) := by decide +kernel
theorem dX12_comesTo_233 : decode cX12_comesTo 233 = .ok (.aload_n 0, 1) := by decide +kernel
theorem dX12_comesTo_234 : decode cX12_comesTo 234 = .ok (.getfield 56, 3) := by decide +kernel
theorem dX12_comesTo_237 : decode cX12_comesTo 237 = .ok (.iconst 0, 1) := by decide +kernel
theorem dX12_comesTo_238 : decode cX12_comesTo 238 = .ok (.iaload, 1) := by decide +kernel
theorem dX12_comesTo_239 : decode cX12_comesTo 239 = .ok (.ireturn, 1) := by decide +kernel
theorem dX12_byLaw_0 : decode cX12_byLaw 0 = .ok (.iconst 0, 1) := by decide +kernel
theorem dX12_byLaw_1 : decode cX12_byLaw 1 = .ok (.istore_n 3, 1) := by decide +kernel
theorem dX12_byLaw_2 : decode cX12_byLaw 2 = .ok (.iload_n 3, 1) := by decide +kernel
theorem dX12_byLaw_3 : decode cX12_byLaw 3 = .ok (.aload_n 0, 1) := by decide +kernel
theorem dX12_byLaw_4 : decode cX12_byLaw 4 = .ok (.getfield 217, 3) := by decide +kernel
theorem dX12_byLaw_7 : decode cX12_byLaw 7 = .ok (.if_icmp .ge 82, 3) := by decide +kernel
theorem dX12_byLaw_10 : decode cX12_byLaw 10 = .ok (.aload_n 0, 1) := by decide +kernel
theorem dX12_byLaw_11 : decode cX12_byLaw 11 = .ok (.getfield 44, 3) := by decide +kernel
theorem dX12_byLaw_14 : decode cX12_byLaw 14 = .ok (.iload_n 3, 1) := by decide +kernel
theorem dX12_byLaw_15 : decode cX12_byLaw 15 = .ok (.iaload, 1) := by decide +kernel
theorem dX12_byLaw_16 : decode cX12_byLaw 16 = .ok (.iload_n 1, 1) := by decide +kernel
theorem dX12_byLaw_17 : decode cX12_byLaw 17 = .ok (.if_icmp .ne 66, 3) := by decide +kernel
theorem dX12_byLaw_20 : decode cX12_byLaw 20 = .ok (.aload_n 0, 1) := by decide +kernel
theorem dX12_byLaw_21 : decode cX12_byLaw 21 = .ok (.aload_n 0, 1) := by decide +kernel
theorem dX12_byLaw_22 : decode cX12_byLaw 22 = .ok (.getfield 50, 3) := by decide +kernel
theorem dX12_byLaw_25 : decode cX12_byLaw 25 = .ok (.iload_n 3, 1) := by decide +kernel
theorem dX12_byLaw_26 : decode cX12_byLaw 26 = .ok (.iaload, 1) := by decide +kernel
theorem dX12_byLaw_27 : decode cX12_byLaw 27 = .ok (.aload_n 0, 1) := by decide +kernel
theorem dX12_byLaw_28 : decode cX12_byLaw 28 = .ok (.getfield 53, 3) := by decide +kernel
theorem dX12_byLaw_31 : decode cX12_byLaw 31 = .ok (.iload_n 3, 1) := by decide +kernel
theorem dX12_byLaw_32 : decode cX12_byLaw 32 = .ok (.iaload, 1) := by decide +kernel
theorem dX12_byLaw_33 : decode cX12_byLaw 33 = .ok (.invokevirtual 224, 3) := by decide +kernel
theorem dX12_byLaw_36 : decode cX12_byLaw 36 = .ok (.iconst 1, 1) := by decide +kernel
theorem dX12_byLaw_37 : decode cX12_byLaw 37 = .ok (.if_icmp .eq 6, 3) := by decide +kernel
theorem dX12_byLaw_40 : decode cX12_byLaw 40 = .ok (.goto 43, 3) := by decide +kernel
theorem dX12_byLaw_43 : decode cX12_byLaw 43 = .ok (.aload_n 0, 1) := by decide +kernel
theorem dX12_byLaw_44 : decode cX12_byLaw 44 = .ok (.aload_n 0, 1) := by decide +kernel
theorem dX12_byLaw_45 : decode cX12_byLaw 45 = .ok (.getfield 47, 3) := by decide +kernel
theorem dX12_byLaw_48 : decode cX12_byLaw 48 = .ok (.iload_n 3, 1) := by decide +kernel
theorem dX12_byLaw_49 : decode cX12_byLaw 49 = .ok (.iaload, 1) := by decide +kernel
theorem dX12_byLaw_50 : decode cX12_byLaw 50 = .ok (.aload_n 0, 1) := by decide +kernel
theorem dX12_byLaw_51 : decode cX12_byLaw 51 = .ok (.getfield 50, 3) := by decide +kernel
theorem dX12_byLaw_54 : decode cX12_byLaw 54 = .ok (.iload_n 3, 1) := by decide +kernel
theorem dX12_byLaw_55 : decode cX12_byLaw 55 = .ok (.iaload, 1) := by decide +kernel
theorem dX12_byLaw_56 : decode cX12_byLaw 56 = .ok (.invokevirtual 224, 3) := by decide +kernel
theorem dX12_byLaw_59 : decode cX12_byLaw 59 = .ok (.istore 4, 2) := by decide +kernel
theorem dX12_byLaw_61 : decode cX12_byLaw 61 = .ok (.iload 4, 2) := by decide +kernel
theorem dX12_byLaw_63 : decode cX12_byLaw 63 = .ok (.ifCond .ge 7, 3) := by decide +kernel
theorem dX12_byLaw_66 : decode cX12_byLaw 66 = .ok (.iconst 0, 1) := by decide +kernel
theorem dX12_byLaw_67 : decode cX12_byLaw 67 = .ok (.goto 15, 3) := by decide +kernel
theorem dX12_byLaw_70 : decode cX12_byLaw 70 = .ok (.iload 4, 2) := by decide +kernel
theorem dX12_byLaw_72 : decode cX12_byLaw 72 = .ok (.iload_n 2, 1) := by decide +kernel
theorem dX12_byLaw_73 : decode cX12_byLaw 73 = .ok (.if_icmp .le 7, 3) := by decide +kernel
theorem dX12_byLaw_76 : decode cX12_byLaw 76 = .ok (.iload_n 2, 1) := by decide +kernel
theorem dX12_byLaw_77 : decode cX12_byLaw 77 = .ok (.goto 5, 3) := by decide +kernel
theorem dX12_byLaw_80 : decode cX12_byLaw 80 = .ok (.iload 4, 2) := by decide +kernel
theorem dX12_byLaw_82 : decode cX12_byLaw 82 = .ok (.ireturn, 1) := by decide +kernel
theorem dX12_byLaw_83 : decode cX12_byLaw 83 = .ok (.iinc 3 1, 3) := by decide +kernel
theorem dX12_byLaw_86 : decode cX12_byLaw 86 = .ok (.goto (-84), 3) := by decide +kernel
theorem dX12_byLaw_89 : decode cX12_byLaw 89 = .ok (.iconst 0, 1) := by decide +kernel
theorem dX12_byLaw_90 : decode cX12_byLaw 90 = .ok (.ireturn, 1) := by decide +kernel
theorem dX12_holdsAny_0 : decode cX12_holdsAny 0 = .ok (.iconst 0, 1) := by decide +kernel
theorem dX12_holdsAny_1 : decode cX12_holdsAny 1 = .ok (.istore_n 2, 1) := by decide +kernel
theorem dX12_holdsAny_2 : decode cX12_holdsAny 2 = .ok (.iload_n 2, 1) := by decide +kernel
theorem dX12_holdsAny_3 : decode cX12_holdsAny 3 = .ok (.aload_n 0, 1) := by decide +kernel
theorem dX12_holdsAny_4 : decode cX12_holdsAny 4 = .ok (.getfield 217, 3) := by decide +kernel
theorem dX12_holdsAny_7 : decode cX12_holdsAny 7 = .ok (.if_icmp .ge 41, 3) := by decide +kernel
theorem dX12_holdsAny_10 : decode cX12_holdsAny 10 = .ok (.aload_n 0, 1) := by decide +kernel
theorem dX12_holdsAny_11 : decode cX12_holdsAny 11 = .ok (.getfield 44, 3) := by decide +kernel
theorem dX12_holdsAny_14 : decode cX12_holdsAny 14 = .ok (.iload_n 2, 1) := by decide +kernel
theorem dX12_holdsAny_15 : decode cX12_holdsAny 15 = .ok (.iaload, 1) := by decide +kernel
theorem dX12_holdsAny_16 : decode cX12_holdsAny 16 = .ok (.iload_n 1, 1) := by decide +kernel
theorem dX12_holdsAny_17 : decode cX12_holdsAny 17 = .ok (.if_icmp .ne 25, 3) := by decide +kernel
theorem dX12_holdsAny_20 : decode cX12_holdsAny 20 = .ok (.aload_n 0, 1) := by decide +kernel
theorem dX12_holdsAny_21 : decode cX12_holdsAny 21 = .ok (.aload_n 0, 1) := by decide +kernel
theorem dX12_holdsAny_22 : decode cX12_holdsAny 22 = .ok (.getfield 50, 3) := by decide +kernel
theorem dX12_holdsAny_25 : decode cX12_holdsAny 25 = .ok (.iload_n 2, 1) := by decide +kernel
theorem dX12_holdsAny_26 : decode cX12_holdsAny 26 = .ok (.iaload, 1) := by decide +kernel
theorem dX12_holdsAny_27 : decode cX12_holdsAny 27 = .ok (.aload_n 0, 1) := by decide +kernel
theorem dX12_holdsAny_28 : decode cX12_holdsAny 28 = .ok (.getfield 53, 3) := by decide +kernel
theorem dX12_holdsAny_31 : decode cX12_holdsAny 31 = .ok (.iload_n 2, 1) := by decide +kernel
theorem dX12_holdsAny_32 : decode cX12_holdsAny 32 = .ok (.iaload, 1) := by decide +kernel
theorem dX12_holdsAny_33 : decode cX12_holdsAny 33 = .ok (.invokevirtual 224, 3) := by decide +kernel
theorem dX12_holdsAny_36 : decode cX12_holdsAny 36 = .ok (.iconst 1, 1) := by decide +kernel
theorem dX12_holdsAny_37 : decode cX12_holdsAny 37 = .ok (.if_icmp .ne 5, 3) := by decide +kernel
theorem dX12_holdsAny_40 : decode cX12_holdsAny 40 = .ok (.iconst 1, 1) := by decide +kernel
theorem dX12_holdsAny_41 : decode cX12_holdsAny 41 = .ok (.ireturn, 1) := by decide +kernel
theorem dX12_holdsAny_42 : decode cX12_holdsAny 42 = .ok (.iinc 2 1, 3) := by decide +kernel
theorem dX12_holdsAny_45 : decode cX12_holdsAny 45 = .ok (.goto (-43), 3) := by decide +kernel
theorem dX12_holdsAny_48 : decode cX12_holdsAny 48 = .ok (.iconst 0, 1) := by decide +kernel
theorem dX12_holdsAny_49 : decode cX12_holdsAny 49 = .ok (.ireturn, 1) := by decide +kernel
theorem dX12_asks_0 : decode cX12_asks 0 = .ok (.aload_n 0, 1) := by decide +kernel
theorem dX12_asks_1 : decode cX12_asks 1 = .ok (.getfield 59, 3) := by decide +kernel
theorem dX12_asks_4 : decode cX12_asks 4 = .ok (.iconst 0, 1) := by decide +kernel
theorem dX12_asks_5 : decode cX12_asks 5 = .ok (.iload_n 1, 1) := by decide +kernel
theorem dX12_asks_6 : decode cX12_asks 6 = .ok (.iastore, 1) := by decide +kernel
theorem dX12_asks_7 : decode cX12_asks 7 = .ok (.aload_n 0, 1) := by decide +kernel
theorem dX12_asks_8 : decode cX12_asks 8 = .ok (.getfield 59, 3) := by decide +kernel
theorem dX12_asks_11 : decode cX12_asks 11 = .ok (.iconst 1, 1) := by decide +kernel
theorem dX12_asks_12 : decode cX12_asks 12 = .ok (.aload_n 0, 1) := by decide +kernel
theorem dX12_asks_13 : decode cX12_asks 13 = .ok (.getfield 7, 3) := by decide +kernel
theorem dX12_asks_16 : decode cX12_asks 16 = .ok (.bipush 24, 2) := by decide +kernel
theorem dX12_asks_18 : decode cX12_asks 18 = .ok (.iload_n 1, 1) := by decide +kernel
theorem dX12_asks_19 : decode cX12_asks 19 = .ok (.iadd, 1) := by decide +kernel
theorem dX12_asks_20 : decode cX12_asks 20 = .ok (.iaload, 1) := by decide +kernel
theorem dX12_asks_21 : decode cX12_asks 21 = .ok (.iastore, 1) := by decide +kernel
theorem dX12_asks_22 : decode cX12_asks 22 = .ok (.aload_n 0, 1) := by decide +kernel
theorem dX12_asks_23 : decode cX12_asks 23 = .ok (.getfield 59, 3) := by decide +kernel
theorem dX12_asks_26 : decode cX12_asks 26 = .ok (.iconst 2, 1) := by decide +kernel
theorem dX12_asks_27 : decode cX12_asks 27 = .ok (.iload_n 2, 1) := by decide +kernel
theorem dX12_asks_28 : decode cX12_asks 28 = .ok (.iastore, 1) := by decide +kernel
theorem dX12_asks_29 : decode cX12_asks 29 = .ok (.aload_n 0, 1) := by decide +kernel
theorem dX12_asks_30 : decode cX12_asks 30 = .ok (.getfield 59, 3) := by decide +kernel
theorem dX12_asks_33 : decode cX12_asks 33 = .ok (.iconst 3, 1) := by decide +kernel
theorem dX12_asks_34 : decode cX12_asks 34 = .ok (.iload_n 2, 1) := by decide +kernel
theorem dX12_asks_35 : decode cX12_asks 35 = .ok (.iconst 4, 1) := by decide +kernel
theorem dX12_asks_36 : decode cX12_asks 36 = .ok (.idiv, 1) := by decide +kernel
theorem dX12_asks_37 : decode cX12_asks 37 = .ok (.iastore, 1) := by decide +kernel
theorem dX12_asks_38 : decode cX12_asks 38 = .ok (.aload_n 0, 1) := by decide +kernel
theorem dX12_asks_39 : decode cX12_asks 39 = .ok (.getfield 59, 3) := by decide +kernel
theorem dX12_asks_42 : decode cX12_asks 42 = .ok (.iconst 4, 1) := by decide +kernel
theorem dX12_asks_43 : decode cX12_asks 43 = .ok (.aload_n 0, 1) := by decide +kernel
theorem dX12_asks_44 : decode cX12_asks 44 = .ok (.iload_n 2, 1) := by decide +kernel
theorem dX12_asks_45 : decode cX12_asks 45 = .ok (.invokevirtual 227, 3) := by decide +kernel
theorem dX12_asks_48 : decode cX12_asks 48 = .ok (.iastore, 1) := by decide +kernel
theorem dX12_asks_49 : decode cX12_asks 49 = .ok (.aload_n 0, 1) := by decide +kernel
theorem dX12_asks_50 : decode cX12_asks 50 = .ok (.getfield 59, 3) := by decide +kernel
theorem dX12_asks_53 : decode cX12_asks 53 = .ok (.iconst 5, 1) := by decide +kernel
theorem dX12_asks_54 : decode cX12_asks 54 = .ok (.aload_n 0, 1) := by decide +kernel
theorem dX12_asks_55 : decode cX12_asks 55 = .ok (.getfield 7, 3) := by decide +kernel
theorem dX12_asks_58 : decode cX12_asks 58 = .ok (.bipush 96, 2) := by decide +kernel
theorem dX12_asks_60 : decode cX12_asks 60 = .ok (.iload_n 2, 1) := by decide +kernel
theorem dX12_asks_61 : decode cX12_asks 61 = .ok (.iadd, 1) := by decide +kernel
theorem dX12_asks_62 : decode cX12_asks 62 = .ok (.iaload, 1) := by decide +kernel
theorem dX12_asks_63 : decode cX12_asks 63 = .ok (.iastore, 1) := by decide +kernel
theorem dX12_asks_64 : decode cX12_asks 64 = .ok (.aload_n 0, 1) := by decide +kernel
theorem dX12_asks_65 : decode cX12_asks 65 = .ok (.getfield 59, 3) := by decide +kernel
theorem dX12_asks_68 : decode cX12_asks 68 = .ok (.bipush 6, 2) := by decide +kernel
theorem dX12_asks_70 : decode cX12_asks 70 = .ok (.iload_n 3, 1) := by decide +kernel
theorem dX12_asks_71 : decode cX12_asks 71 = .ok (.iastore, 1) := by decide +kernel
theorem dX12_asks_72 : decode cX12_asks 72 = .ok (.aload_n 0, 1) := by decide +kernel
theorem dX12_asks_73 : decode cX12_asks 73 = .ok (.getfield 59, 3) := by decide +kernel
theorem dX12_asks_76 : decode cX12_asks 76 = .ok (.bipush 7, 2) := by decide +kernel
theorem dX12_asks_78 : decode cX12_asks 78 = .ok (.aload_n 0, 1) := by decide +kernel
theorem dX12_asks_79 : decode cX12_asks 79 = .ok (.getfield 7, 3) := by decide +kernel
theorem dX12_asks_82 : decode cX12_asks 82 = .ok (.sipush 697, 3) := by decide +kernel
theorem dX12_asks_85 : decode cX12_asks 85 = .ok (.iaload, 1) := by decide +kernel
theorem dX12_asks_86 : decode cX12_asks 86 = .ok (.bipush 24, 2) := by decide +kernel
theorem dX12_asks_88 : decode cX12_asks 88 = .ok (.irem, 1) := by decide +kernel
theorem dX12_asks_89 : decode cX12_asks 89 = .ok (.iastore, 1) := by decide +kernel
theorem dX12_asks_90 : decode cX12_asks 90 = .ok (.return_, 1) := by decide +kernel
theorem dX12_readsAmount_0 : decode cX12_readsAmount 0 = .ok (.aload_n 0, 1) := by decide +kernel
theorem dX12_readsAmount_1 : decode cX12_readsAmount 1 = .ok (.getfield 123, 3) := by decide +kernel
theorem dX12_readsAmount_4 : decode cX12_readsAmount 4 = .ok (.istore_n 2, 1) := by decide +kernel
theorem dX12_readsAmount_5 : decode cX12_readsAmount 5 = .ok (.aload_n 0, 1) := by decide +kernel
theorem dX12_readsAmount_6 : decode cX12_readsAmount 6 = .ok (.invokevirtual 143, 3) := by decide +kernel
theorem dX12_readsAmount_9 : decode cX12_readsAmount 9 = .ok (.ifCond .ne 13, 3) := by decide +kernel
theorem dX12_readsAmount_12 : decode cX12_readsAmount 12 = .ok (.aload_n 0, 1) := by decide +kernel
theorem dX12_readsAmount_13 : decode cX12_readsAmount 13 = .ok (.iconst 1, 1) := by decide +kernel
theorem dX12_readsAmount_14 : decode cX12_readsAmount 14 = .ok (.aload_n 0, 1) := by decide +kernel
theorem dX12_readsAmount_15 : decode cX12_readsAmount 15 = .ok (.getfield 123, 3) := by decide +kernel
theorem dX12_readsAmount_18 : decode cX12_readsAmount 18 = .ok (.invokevirtual 136, 3) := by decide +kernel
theorem dX12_readsAmount_21 : decode cX12_readsAmount 21 = .ok (.ireturn, 1) := by decide +kernel
theorem dX12_readsAmount_22 : decode cX12_readsAmount 22 = .ok (.aload_n 0, 1) := by decide +kernel
theorem dX12_readsAmount_23 : decode cX12_readsAmount 23 = .ok (.iconst 0, 1) := by decide +kernel
theorem dX12_readsAmount_24 : decode cX12_readsAmount 24 = .ok (.putfield 140, 3) := by decide +kernel
theorem dX12_readsAmount_27 : decode cX12_readsAmount 27 = .ok (.aload_n 0, 1) := by decide +kernel
theorem dX12_readsAmount_28 : decode cX12_readsAmount 28 = .ok (.invokevirtual 143, 3) := by decide +kernel
theorem dX12_readsAmount_31 : decode cX12_readsAmount 31 = .ok (.ifCond .eq 55, 3) := by decide +kernel
theorem dX12_readsAmount_34 : decode cX12_readsAmount 34 = .ok (.aload_n 0, 1) := by decide +kernel
theorem dX12_readsAmount_35 : decode cX12_readsAmount 35 = .ok (.getfield 123, 3) := by decide +kernel
theorem dX12_readsAmount_38 : decode cX12_readsAmount 38 = .ok (.iload_n 2, 1) := by decide +kernel
theorem dX12_readsAmount_39 : decode cX12_readsAmount 39 = .ok (.iload_n 1, 1) := by decide +kernel
theorem dX12_readsAmount_40 : decode cX12_readsAmount 40 = .ok (.iadd, 1) := by decide +kernel
theorem dX12_readsAmount_41 : decode cX12_readsAmount 41 = .ok (.if_icmp .ne 13, 3) := by decide +kernel
theorem dX12_readsAmount_44 : decode cX12_readsAmount 44 = .ok (.aload_n 0, 1) := by decide +kernel
theorem dX12_readsAmount_45 : decode cX12_readsAmount 45 = .ok (.iconst 2, 1) := by decide +kernel
theorem dX12_readsAmount_46 : decode cX12_readsAmount 46 = .ok (.aload_n 0, 1) := by decide +kernel
theorem dX12_readsAmount_47 : decode cX12_readsAmount 47 = .ok (.getfield 123, 3) := by decide +kernel
theorem dX12_readsAmount_50 : decode cX12_readsAmount 50 = .ok (.invokevirtual 136, 3) := by decide +kernel
theorem dX12_readsAmount_53 : decode cX12_readsAmount 53 = .ok (.ireturn, 1) := by decide +kernel
theorem dX12_readsAmount_54 : decode cX12_readsAmount 54 = .ok (.aload_n 0, 1) := by decide +kernel
theorem dX12_readsAmount_55 : decode cX12_readsAmount 55 = .ok (.bipush 10, 2) := by decide +kernel
theorem dX12_readsAmount_57 : decode cX12_readsAmount 57 = .ok (.aload_n 0, 1) := by decide +kernel
theorem dX12_readsAmount_58 : decode cX12_readsAmount 58 = .ok (.getfield 140, 3) := by decide +kernel
theorem dX12_readsAmount_61 : decode cX12_readsAmount 61 = .ok (.imul, 1) := by decide +kernel
theorem dX12_readsAmount_62 : decode cX12_readsAmount 62 = .ok (.aload_n 0, 1) := by decide +kernel
theorem dX12_readsAmount_63 : decode cX12_readsAmount 63 = .ok (.invokevirtual 129, 3) := by decide +kernel
theorem dX12_readsAmount_66 : decode cX12_readsAmount 66 = .ok (.iadd, 1) := by decide +kernel
theorem dX12_readsAmount_67 : decode cX12_readsAmount 67 = .ok (.bipush 48, 2) := by decide +kernel
theorem dX12_readsAmount_69 : decode cX12_readsAmount 69 = .ok (.isub, 1) := by decide +kernel
theorem dX12_readsAmount_70 : decode cX12_readsAmount 70 = .ok (.putfield 140, 3) := by decide +kernel
theorem dX12_readsAmount_73 : decode cX12_readsAmount 73 = .ok (.aload_n 0, 1) := by decide +kernel
theorem dX12_readsAmount_74 : decode cX12_readsAmount 74 = .ok (.aload_n 0, 1) := by decide +kernel
theorem dX12_readsAmount_75 : decode cX12_readsAmount 75 = .ok (.getfield 123, 3) := by decide +kernel
theorem dX12_readsAmount_78 : decode cX12_readsAmount 78 = .ok (.iconst 1, 1) := by decide +kernel
theorem dX12_readsAmount_79 : decode cX12_readsAmount 79 = .ok (.iadd, 1) := by decide +kernel
theorem dX12_readsAmount_80 : decode cX12_readsAmount 80 = .ok (.putfield 123, 3) := by decide +kernel
theorem dX12_readsAmount_83 : decode cX12_readsAmount 83 = .ok (.goto (-56), 3) := by decide +kernel
theorem dX12_readsAmount_86 : decode cX12_readsAmount 86 = .ok (.iconst 1, 1) := by decide +kernel
theorem dX12_readsAmount_87 : decode cX12_readsAmount 87 = .ok (.ireturn, 1) := by decide +kernel
theorem dX12_readsRoom_0 : decode cX12_readsRoom 0 = .ok (.aload_n 0, 1) := by decide +kernel
theorem dX12_readsRoom_1 : decode cX12_readsRoom 1 = .ok (.getfield 123, 3) := by decide +kernel
theorem dX12_readsRoom_4 : decode cX12_readsRoom 4 = .ok (.istore_n 1, 1) := by decide +kernel
theorem dX12_readsRoom_5 : decode cX12_readsRoom 5 = .ok (.aload_n 0, 1) := by decide +kernel
theorem dX12_readsRoom_6 : decode cX12_readsRoom 6 = .ok (.iconst 2, 1) := by decide +kernel
theorem dX12_readsRoom_7 : decode cX12_readsRoom 7 = .ok (.invokevirtual 230, 3) := by decide +kernel
theorem dX12_readsRoom_10 : decode cX12_readsRoom 10 = .ok (.ifCond .eq 26, 3) := by decide +kernel
theorem dX12_readsRoom_13 : decode cX12_readsRoom 13 = .ok (.aload_n 0, 1) := by decide +kernel
theorem dX12_readsRoom_14 : decode cX12_readsRoom 14 = .ok (.getfield 140, 3) := by decide +kernel
theorem dX12_readsRoom_17 : decode cX12_readsRoom 17 = .ok (.invokestatic 107, 3) := by decide +kernel
theorem dX12_readsRoom_20 : decode cX12_readsRoom 20 = .ok (.ifCond .ne 12, 3) := by decide +kernel
theorem dX12_readsRoom_23 : decode cX12_readsRoom 23 = .ok (.aload_n 0, 1) := by decide +kernel
theorem dX12_readsRoom_24 : decode cX12_readsRoom 24 = .ok (.iconst 3, 1) := by decide +kernel
theorem dX12_readsRoom_25 : decode cX12_readsRoom 25 = .ok (.iload_n 1, 1) := by decide +kernel
theorem dX12_readsRoom_26 : decode cX12_readsRoom 26 = .ok (.invokevirtual 136, 3) := by decide +kernel
theorem dX12_readsRoom_29 : decode cX12_readsRoom 29 = .ok (.ifCond .eq 7, 3) := by decide +kernel
theorem dX12_readsRoom_32 : decode cX12_readsRoom 32 = .ok (.iconst 1, 1) := by decide +kernel
theorem dX12_readsRoom_33 : decode cX12_readsRoom 33 = .ok (.goto 4, 3) := by decide +kernel
theorem dX12_readsRoom_36 : decode cX12_readsRoom 36 = .ok (.iconst 0, 1) := by decide +kernel
theorem dX12_readsRoom_37 : decode cX12_readsRoom 37 = .ok (.ireturn, 1) := by decide +kernel
theorem dX12_swaps_0 : decode cX12_swaps 0 = .ok (.aload_n 0, 1) := by decide +kernel
theorem dX12_swaps_1 : decode cX12_swaps 1 = .ok (.getfield 7, 3) := by decide +kernel
theorem dX12_swaps_4 : decode cX12_swaps 4 = .ok (.iload_n 1, 1) := by decide +kernel
theorem dX12_swaps_5 : decode cX12_swaps 5 = .ok (.iaload, 1) := by decide +kernel
theorem dX12_swaps_6 : decode cX12_swaps 6 = .ok (.istore_n 3, 1) := by decide +kernel
theorem dX12_swaps_7 : decode cX12_swaps 7 = .ok (.aload_n 0, 1) := by decide +kernel
theorem dX12_swaps_8 : decode cX12_swaps 8 = .ok (.getfield 7, 3) := by decide +kernel
theorem dX12_swaps_11 : decode cX12_swaps 11 = .ok (.iload_n 1, 1) := by decide +kernel
theorem dX12_swaps_12 : decode cX12_swaps 12 = .ok (.aload_n 0, 1) := by decide +kernel
theorem dX12_swaps_13 : decode cX12_swaps 13 = .ok (.getfield 7, 3) := by decide +kernel
theorem dX12_swaps_16 : decode cX12_swaps 16 = .ok (.iload_n 2, 1) := by decide +kernel
theorem dX12_swaps_17 : decode cX12_swaps 17 = .ok (.iaload, 1) := by decide +kernel
theorem dX12_swaps_18 : decode cX12_swaps 18 = .ok (.iastore, 1) := by decide +kernel
theorem dX12_swaps_19 : decode cX12_swaps 19 = .ok (.aload_n 0, 1) := by decide +kernel
theorem dX12_swaps_20 : decode cX12_swaps 20 = .ok (.getfield 7, 3) := by decide +kernel
theorem dX12_swaps_23 : decode cX12_swaps 23 = .ok (.iload_n 2, 1) := by decide +kernel
theorem dX12_swaps_24 : decode cX12_swaps 24 = .ok (.iload_n 3, 1) := by decide +kernel
theorem dX12_swaps_25 : decode cX12_swaps 25 = .ok (.iastore, 1) := by decide +kernel
theorem dX12_swaps_26 : decode cX12_swaps 26 = .ok (.return_, 1) := by decide +kernel
theorem dX12_changes_0 : decode cX12_changes 0 = .ok (.aload_n 0, 1) := by decide +kernel
theorem dX12_changes_1 : decode cX12_changes 1 = .ok (.iconst 0, 1) := by decide +kernel
theorem dX12_changes_2 : decode cX12_changes 2 = .ok (.iload_n 1, 1) := by decide +kernel
theorem dX12_changes_3 : decode cX12_changes 3 = .ok (.iadd, 1) := by decide +kernel
theorem dX12_changes_4 : decode cX12_changes 4 = .ok (.iconst 0, 1) := by decide +kernel
theorem dX12_changes_5 : decode cX12_changes 5 = .ok (.iload_n 2, 1) := by decide +kernel
theorem dX12_changes_6 : decode cX12_changes 6 = .ok (.iadd, 1) := by decide +kernel
theorem dX12_changes_7 : decode cX12_changes 7 = .ok (.invokevirtual 233, 3) := by decide +kernel
theorem dX12_changes_10 : decode cX12_changes 10 = .ok (.aload_n 0, 1) := by decide +kernel
theorem dX12_changes_11 : decode cX12_changes 11 = .ok (.bipush 24, 2) := by decide +kernel
theorem dX12_changes_13 : decode cX12_changes 13 = .ok (.iload_n 1, 1) := by decide +kernel
theorem dX12_changes_14 : decode cX12_changes 14 = .ok (.iadd, 1) := by decide +kernel
theorem dX12_changes_15 : decode cX12_changes 15 = .ok (.bipush 24, 2) := by decide +kernel
theorem dX12_changes_17 : decode cX12_changes 17 = .ok (.iload_n 2, 1) := by decide +kernel
theorem dX12_changes_18 : decode cX12_changes 18 = .ok (.iadd, 1) := by decide +kernel
theorem dX12_changes_19 : decode cX12_changes 19 = .ok (.invokevirtual 233, 3) := by decide +kernel
theorem dX12_changes_22 : decode cX12_changes 22 = .ok (.iconst 0, 1) := by decide +kernel
theorem dX12_changes_23 : decode cX12_changes 23 = .ok (.istore_n 3, 1) := by decide +kernel
theorem dX12_changes_24 : decode cX12_changes 24 = .ok (.iload_n 3, 1) := by decide +kernel
theorem dX12_changes_25 : decode cX12_changes 25 = .ok (.bipush 24, 2) := by decide +kernel
theorem dX12_changes_27 : decode cX12_changes 27 = .ok (.if_icmp .ge 23, 3) := by decide +kernel
theorem dX12_changes_30 : decode cX12_changes 30 = .ok (.aload_n 0, 1) := by decide +kernel
theorem dX12_changes_31 : decode cX12_changes 31 = .ok (.iload_n 1, 1) := by decide +kernel
theorem dX12_changes_32 : decode cX12_changes 32 = .ok (.iload_n 3, 1) := by decide +kernel
theorem dX12_changes_33 : decode cX12_changes 33 = .ok (.invokestatic 94, 3) := by decide +kernel
theorem dX12_changes_36 : decode cX12_changes 36 = .ok (.iload_n 2, 1) := by decide +kernel
theorem dX12_changes_37 : decode cX12_changes 37 = .ok (.iload_n 3, 1) := by decide +kernel
theorem dX12_changes_38 : decode cX12_changes 38 = .ok (.invokestatic 94, 3) := by decide +kernel
theorem dX12_changes_41 : decode cX12_changes 41 = .ok (.invokevirtual 233, 3) := by decide +kernel
theorem dX12_changes_44 : decode cX12_changes 44 = .ok (.iinc 3 1, 3) := by decide +kernel
theorem dX12_changes_47 : decode cX12_changes 47 = .ok (.goto (-23), 3) := by decide +kernel
theorem dX12_changes_50 : decode cX12_changes 50 = .ok (.return_, 1) := by decide +kernel
theorem dX12_readsMove_0 : decode cX12_readsMove 0 = .ok (.aload_n 0, 1) := by decide +kernel
theorem dX12_readsMove_1 : decode cX12_readsMove 1 = .ok (.getfield 123, 3) := by decide +kernel
theorem dX12_readsMove_4 : decode cX12_readsMove 4 = .ok (.iconst 1, 1) := by decide +kernel
theorem dX12_readsMove_5 : decode cX12_readsMove 5 = .ok (.isub, 1) := by decide +kernel
theorem dX12_readsMove_6 : decode cX12_readsMove 6 = .ok (.istore_n 2, 1) := by decide +kernel
theorem dX12_readsMove_7 : decode cX12_readsMove 7 = .ok (.aload_n 0, 1) := by decide +kernel
theorem dX12_readsMove_8 : decode cX12_readsMove 8 = .ok (.invokevirtual 236, 3) := by decide +kernel
theorem dX12_readsMove_11 : decode cX12_readsMove 11 = .ok (.ifCond .ne 5, 3) := by decide +kernel
theorem dX12_readsMove_14 : decode cX12_readsMove 14 = .ok (.iconst 0, 1) := by decide +kernel
theorem dX12_readsMove_15 : decode cX12_readsMove 15 = .ok (.ireturn, 1) := by decide +kernel
theorem dX12_readsMove_16 : decode cX12_readsMove 16 = .ok (.aload_n 0, 1) := by decide +kernel
theorem dX12_readsMove_17 : decode cX12_readsMove 17 = .ok (.getfield 7, 3) := by decide +kernel
theorem dX12_readsMove_20 : decode cX12_readsMove 20 = .ok (.iconst 0, 1) := by decide +kernel
theorem dX12_readsMove_21 : decode cX12_readsMove 21 = .ok (.iload_n 1, 1) := by decide +kernel
theorem dX12_readsMove_22 : decode cX12_readsMove 22 = .ok (.iadd, 1) := by decide +kernel
theorem dX12_readsMove_23 : decode cX12_readsMove 23 = .ok (.iaload, 1) := by decide +kernel
theorem dX12_readsMove_24 : decode cX12_readsMove 24 = .ok (.aload_n 0, 1) := by decide +kernel
theorem dX12_readsMove_25 : decode cX12_readsMove 25 = .ok (.getfield 7, 3) := by decide +kernel
theorem dX12_readsMove_28 : decode cX12_readsMove 28 = .ok (.iconst 0, 1) := by decide +kernel
theorem dX12_readsMove_29 : decode cX12_readsMove 29 = .ok (.aload_n 0, 1) := by decide +kernel
theorem dX12_readsMove_30 : decode cX12_readsMove 30 = .ok (.getfield 140, 3) := by decide +kernel
theorem dX12_readsMove_33 : decode cX12_readsMove 33 = .ok (.iadd, 1) := by decide +kernel
theorem dX12_readsMove_34 : decode cX12_readsMove 34 = .ok (.iaload, 1) := by decide +kernel
theorem dX12_readsMove_35 : decode cX12_readsMove 35 = .ok (.iadd, 1) := by decide +kernel
theorem dX12_readsMove_36 : decode cX12_readsMove 36 = .ok (.ifCond .ne 11, 3) := by decide +kernel
theorem dX12_readsMove_39 : decode cX12_readsMove 39 = .ok (.aload_n 0, 1) := by decide +kernel
theorem dX12_readsMove_40 : decode cX12_readsMove 40 = .ok (.bipush 7, 2) := by decide +kernel
theorem dX12_readsMove_42 : decode cX12_readsMove 42 = .ok (.iload_n 2, 1) := by decide +kernel
theorem dX12_readsMove_43 : decode cX12_readsMove 43 = .ok (.invokevirtual 136, 3) := by decide +kernel
theorem dX12_readsMove_46 : decode cX12_readsMove 46 = .ok (.ireturn, 1) := by decide +kernel
theorem dX12_readsMove_47 : decode cX12_readsMove 47 = .ok (.aload_n 0, 1) := by decide +kernel
theorem dX12_readsMove_48 : decode cX12_readsMove 48 = .ok (.iload_n 1, 1) := by decide +kernel
theorem dX12_readsMove_49 : decode cX12_readsMove 49 = .ok (.aload_n 0, 1) := by decide +kernel
theorem dX12_readsMove_50 : decode cX12_readsMove 50 = .ok (.getfield 140, 3) := by decide +kernel
theorem dX12_readsMove_53 : decode cX12_readsMove 53 = .ok (.invokevirtual 239, 3) := by decide +kernel
theorem dX12_readsMove_56 : decode cX12_readsMove 56 = .ok (.iconst 1, 1) := by decide +kernel
theorem dX12_readsMove_57 : decode cX12_readsMove 57 = .ok (.ireturn, 1) := by decide +kernel
theorem dX12_readsLine_0 : decode cX12_readsLine 0 = .ok (.aload_n 0, 1) := by decide +kernel
theorem dX12_readsLine_1 : decode cX12_readsLine 1 = .ok (.invokevirtual 143, 3) := by decide +kernel
theorem dX12_readsLine_4 : decode cX12_readsLine 4 = .ok (.ifCond .ne 13, 3) := by decide +kernel
theorem dX12_readsLine_7 : decode cX12_readsLine 7 = .ok (.aload_n 0, 1) := by decide +kernel
theorem dX12_readsLine_8 : decode cX12_readsLine 8 = .ok (.iconst 1, 1) := by decide +kernel
theorem dX12_readsLine_9 : decode cX12_readsLine 9 = .ok (.aload_n 0, 1) := by decide +kernel
theorem dX12_readsLine_10 : decode cX12_readsLine 10 = .ok (.getfield 123, 3) := by decide +kernel
theorem dX12_readsLine_13 : decode cX12_readsLine 13 = .ok (.invokevirtual 136, 3) := by decide +kernel
theorem dX12_readsLine_16 : decode cX12_readsLine 16 = .ok (.ireturn, 1) := by decide +kernel
theorem dX12_readsLine_17 : decode cX12_readsLine 17 = .ok (.aload_n 0, 1) := by decide +kernel
theorem dX12_readsLine_18 : decode cX12_readsLine 18 = .ok (.getfield 242, 3) := by decide +kernel
theorem dX12_readsLine_21 : decode cX12_readsLine 21 = .ok (.bipush 20, 2) := by decide +kernel
theorem dX12_readsLine_23 : decode cX12_readsLine 23 = .ok (.if_icmp .ne 13, 3) := by decide +kernel
theorem dX12_readsLine_26 : decode cX12_readsLine 26 = .ok (.aload_n 0, 1) := by decide +kernel
theorem dX12_readsLine_27 : decode cX12_readsLine 27 = .ok (.iconst 4, 1) := by decide +kernel
theorem dX12_readsLine_28 : decode cX12_readsLine 28 = .ok (.aload_n 0, 1) := by decide +kernel
theorem dX12_readsLine_29 : decode cX12_readsLine 29 = .ok (.getfield 123, 3) := by decide +kernel
theorem dX12_readsLine_32 : decode cX12_readsLine 32 = .ok (.invokevirtual 136, 3) := by decide +kernel
theorem dX12_readsLine_35 : decode cX12_readsLine 35 = .ok (.ireturn, 1) := by decide +kernel
theorem dX12_readsLine_36 : decode cX12_readsLine 36 = .ok (.aload_n 0, 1) := by decide +kernel
theorem dX12_readsLine_37 : decode cX12_readsLine 37 = .ok (.aload_n 0, 1) := by decide +kernel
theorem dX12_readsLine_38 : decode cX12_readsLine 38 = .ok (.getfield 242, 3) := by decide +kernel
theorem dX12_readsLine_41 : decode cX12_readsLine 41 = .ok (.iconst 1, 1) := by decide +kernel
theorem dX12_readsLine_42 : decode cX12_readsLine 42 = .ok (.iadd, 1) := by decide +kernel
theorem dX12_readsLine_43 : decode cX12_readsLine 43 = .ok (.putfield 242, 3) := by decide +kernel
theorem dX12_readsLine_46 : decode cX12_readsLine 46 = .ok (.aload_n 0, 1) := by decide +kernel
theorem dX12_readsLine_47 : decode cX12_readsLine 47 = .ok (.invokevirtual 236, 3) := by decide +kernel
theorem dX12_readsLine_50 : decode cX12_readsLine 50 = .ok (.ifCond .ne 5, 3) := by decide +kernel
theorem dX12_readsLine_53 : decode cX12_readsLine 53 = .ok (.iconst 0, 1) := by decide +kernel
theorem dX12_readsLine_54 : decode cX12_readsLine 54 = .ok (.ireturn, 1) := by decide +kernel
theorem dX12_readsLine_55 : decode cX12_readsLine 55 = .ok (.aload_n 0, 1) := by decide +kernel
theorem dX12_readsLine_56 : decode cX12_readsLine 56 = .ok (.getfield 140, 3) := by decide +kernel
theorem dX12_readsLine_59 : decode cX12_readsLine 59 = .ok (.istore_n 1, 1) := by decide +kernel
theorem dX12_readsLine_60 : decode cX12_readsLine 60 = .ok (.aload_n 0, 1) := by decide +kernel
theorem dX12_readsLine_61 : decode cX12_readsLine 61 = .ok (.invokevirtual 129, 3) := by decide +kernel
theorem dX12_readsLine_64 : decode cX12_readsLine 64 = .ok (.istore_n 2, 1) := by decide +kernel
theorem dX12_readsLine_65 : decode cX12_readsLine 65 = .ok (.iload_n 2, 1) := by decide +kernel
theorem dX12_readsLine_66 : decode cX12_readsLine 66 = .ok (.bipush 33, 2) := by decide +kernel
theorem dX12_readsLine_68 : decode cX12_readsLine 68 = .ok (.if_icmp .ne 25, 3) := by decide +kernel
theorem dX12_readsLine_71 : decode cX12_readsLine 71 = .ok (.aload_n 0, 1) := by decide +kernel
theorem dX12_readsLine_72 : decode cX12_readsLine 72 = .ok (.getfield 7, 3) := by decide +kernel
theorem dX12_readsLine_75 : decode cX12_readsLine 75 = .ok (.iconst 0, 1) := by decide +kernel
theorem dX12_readsLine_76 : decode cX12_readsLine 76 = .ok (.iload_n 1, 1) := by decide +kernel
theorem dX12_readsLine_77 : decode cX12_readsLine 77 = .ok (.iadd, 1) := by decide +kernel
theorem dX12_readsLine_78 : decode cX12_readsLine 78 = .ok (.iaload, 1) := by decide +kernel
theorem dX12_readsLine_79 : decode cX12_readsLine 79 = .ok (.ifCond .ne 14, 3) := by decide +kernel
theorem dX12_readsLine_82 : decode cX12_readsLine 82 = .ok (.aload_n 0, 1) := by decide +kernel
theorem dX12_readsLine_83 : decode cX12_readsLine 83 = .ok (.bipush 7, 2) := by decide +kernel
theorem dX12_readsLine_85 : decode cX12_readsLine 85 = .ok (.aload_n 0, 1) := by decide +kernel
theorem dX12_readsLine_86 : decode cX12_readsLine 86 = .ok (.getfield 123, 3) := by decide +kernel
theorem dX12_readsLine_89 : decode cX12_readsLine 89 = .ok (.invokevirtual 136, 3) := by decide +kernel
theorem dX12_readsLine_92 : decode cX12_readsLine 92 = .ok (.ireturn, 1) := by decide +kernel
theorem dX12_readsLine_93 : decode cX12_readsLine 93 = .ok (.aload_n 0, 1) := by decide +kernel
theorem dX12_readsLine_94 : decode cX12_readsLine 94 = .ok (.aload_n 0, 1) := by decide +kernel
theorem dX12_readsLine_95 : decode cX12_readsLine 95 = .ok (.getfield 123, 3) := by decide +kernel
theorem dX12_readsLine_98 : decode cX12_readsLine 98 = .ok (.iconst 1, 1) := by decide +kernel
theorem dX12_readsLine_99 : decode cX12_readsLine 99 = .ok (.iadd, 1) := by decide +kernel
theorem dX12_readsLine_100 : decode cX12_readsLine 100 = .ok (.putfield 123, 3) := by decide +kernel
theorem dX12_readsLine_103 : decode cX12_readsLine 103 = .ok (.iload_n 2, 1) := by decide +kernel
theorem dX12_readsLine_104 : decode cX12_readsLine 104 = .ok (.lookupswitch 173 #[(33, 98), (60, 131), (61, 76), (62, 155), (64, 167), (111, 107), (115, 119), (124, 143)], 76) := by decide +kernel
theorem dX12_readsLine_180 : decode cX12_readsLine 180 = .ok (.aload_n 0, 1) := by decide +kernel
theorem dX12_readsLine_181 : decode cX12_readsLine 181 = .ok (.iconst 4, 1) := by decide +kernel
theorem dX12_readsLine_182 : decode cX12_readsLine 182 = .ok (.invokevirtual 230, 3) := by decide +kernel
theorem dX12_readsLine_185 : decode cX12_readsLine 185 = .ok (.ifCond .ne 5, 3) := by decide +kernel
theorem dX12_readsLine_188 : decode cX12_readsLine 188 = .ok (.iconst 0, 1) := by decide +kernel
theorem dX12_readsLine_189 : decode cX12_readsLine 189 = .ok (.ireturn, 1) := by decide +kernel
theorem dX12_readsLine_190 : decode cX12_readsLine 190 = .ok (.aload_n 0, 1) := by decide +kernel
theorem dX12_readsLine_191 : decode cX12_readsLine 191 = .ok (.iload_n 1, 1) := by decide +kernel
theorem dX12_readsLine_192 : decode cX12_readsLine 192 = .ok (.iconst 1, 1) := by decide +kernel
theorem dX12_readsLine_193 : decode cX12_readsLine 193 = .ok (.aload_n 0, 1) := by decide +kernel
theorem dX12_readsLine_194 : decode cX12_readsLine 194 = .ok (.getfield 140, 3) := by decide +kernel
theorem dX12_readsLine_197 : decode cX12_readsLine 197 = .ok (.invokevirtual 111, 3) := by decide +kernel
theorem dX12_readsLine_200 : decode cX12_readsLine 200 = .ok (.iconst 1, 1) := by decide +kernel
theorem dX12_readsLine_201 : decode cX12_readsLine 201 = .ok (.ireturn, 1) := by decide +kernel
theorem dX12_readsLine_202 : decode cX12_readsLine 202 = .ok (.aload_n 0, 1) := by decide +kernel
theorem dX12_readsLine_203 : decode cX12_readsLine 203 = .ok (.iload_n 1, 1) := by decide +kernel
theorem dX12_readsLine_204 : decode cX12_readsLine 204 = .ok (.iconst 0, 1) := by decide +kernel
theorem dX12_readsLine_205 : decode cX12_readsLine 205 = .ok (.iconst 0, 1) := by decide +kernel
theorem dX12_readsLine_206 : decode cX12_readsLine 206 = .ok (.invokevirtual 111, 3) := by decide +kernel
theorem dX12_readsLine_209 : decode cX12_readsLine 209 = .ok (.iconst 1, 1) := by decide +kernel
theorem dX12_readsLine_210 : decode cX12_readsLine 210 = .ok (.ireturn, 1) := by decide +kernel
theorem dX12_readsLine_211 : decode cX12_readsLine 211 = .ok (.aload_n 0, 1) := by decide +kernel
theorem dX12_readsLine_212 : decode cX12_readsLine 212 = .ok (.getfield 7, 3) := by decide +kernel
theorem dX12_readsLine_215 : decode cX12_readsLine 215 = .ok (.bipush 48, 2) := by decide +kernel
theorem dX12_readsLine_217 : decode cX12_readsLine 217 = .ok (.iload_n 1, 1) := by decide +kernel
theorem dX12_readsLine_218 : decode cX12_readsLine 218 = .ok (.iadd, 1) := by decide +kernel
theorem dX12_readsLine_219 : decode cX12_readsLine 219 = .ok (.iconst 1, 1) := by decide +kernel
theorem dX12_readsLine_220 : decode cX12_readsLine 220 = .ok (.iastore, 1) := by decide +kernel
theorem dX12_readsLine_221 : decode cX12_readsLine 221 = .ok (.iconst 1, 1) := by decide +kernel
theorem dX12_readsLine_222 : decode cX12_readsLine 222 = .ok (.ireturn, 1) := by decide +kernel
theorem dX12_readsLine_223 : decode cX12_readsLine 223 = .ok (.aload_n 0, 1) := by decide +kernel
theorem dX12_readsLine_224 : decode cX12_readsLine 224 = .ok (.getfield 7, 3) := by decide +kernel
theorem dX12_readsLine_227 : decode cX12_readsLine 227 = .ok (.bipush 48, 2) := by decide +kernel
theorem dX12_readsLine_229 : decode cX12_readsLine 229 = .ok (.iload_n 1, 1) := by decide +kernel
theorem dX12_readsLine_230 : decode cX12_readsLine 230 = .ok (.iadd, 1) := by decide +kernel
theorem dX12_readsLine_231 : decode cX12_readsLine 231 = .ok (.iconst 0, 1) := by decide +kernel
theorem dX12_readsLine_232 : decode cX12_readsLine 232 = .ok (.iastore, 1) := by decide +kernel
theorem dX12_readsLine_233 : decode cX12_readsLine 233 = .ok (.iconst 1, 1) := by decide +kernel
theorem dX12_readsLine_234 : decode cX12_readsLine 234 = .ok (.ireturn, 1) := by decide +kernel
theorem dX12_readsLine_235 : decode cX12_readsLine 235 = .ok (.aload_n 0, 1) := by decide +kernel
theorem dX12_readsLine_236 : decode cX12_readsLine 236 = .ok (.getfield 7, 3) := by decide +kernel
theorem dX12_readsLine_239 : decode cX12_readsLine 239 = .ok (.bipush 72, 2) := by decide +kernel
theorem dX12_readsLine_241 : decode cX12_readsLine 241 = .ok (.iload_n 1, 1) := by decide +kernel
theorem dX12_readsLine_242 : decode cX12_readsLine 242 = .ok (.iadd, 1) := by decide +kernel
theorem dX12_readsLine_243 : decode cX12_readsLine 243 = .ok (.iconst 0, 1) := by decide +kernel
theorem dX12_readsLine_244 : decode cX12_readsLine 244 = .ok (.iastore, 1) := by decide +kernel
theorem dX12_readsLine_245 : decode cX12_readsLine 245 = .ok (.iconst 1, 1) := by decide +kernel
theorem dX12_readsLine_246 : decode cX12_readsLine 246 = .ok (.ireturn, 1) := by decide +kernel
theorem dX12_readsLine_247 : decode cX12_readsLine 247 = .ok (.aload_n 0, 1) := by decide +kernel
theorem dX12_readsLine_248 : decode cX12_readsLine 248 = .ok (.getfield 7, 3) := by decide +kernel
theorem dX12_readsLine_251 : decode cX12_readsLine 251 = .ok (.bipush 72, 2) := by decide +kernel
theorem dX12_readsLine_253 : decode cX12_readsLine 253 = .ok (.iload_n 1, 1) := by decide +kernel
theorem dX12_readsLine_254 : decode cX12_readsLine 254 = .ok (.iadd, 1) := by decide +kernel
theorem dX12_readsLine_255 : decode cX12_readsLine 255 = .ok (.iconst 1, 1) := by decide +kernel
theorem dX12_readsLine_256 : decode cX12_readsLine 256 = .ok (.iastore, 1) := by decide +kernel
theorem dX12_readsLine_257 : decode cX12_readsLine 257 = .ok (.iconst 1, 1) := by decide +kernel
theorem dX12_readsLine_258 : decode cX12_readsLine 258 = .ok (.ireturn, 1) := by decide +kernel
theorem dX12_readsLine_259 : decode cX12_readsLine 259 = .ok (.aload_n 0, 1) := by decide +kernel
theorem dX12_readsLine_260 : decode cX12_readsLine 260 = .ok (.getfield 7, 3) := by decide +kernel
theorem dX12_readsLine_263 : decode cX12_readsLine 263 = .ok (.bipush 72, 2) := by decide +kernel
theorem dX12_readsLine_265 : decode cX12_readsLine 265 = .ok (.iload_n 1, 1) := by decide +kernel
theorem dX12_readsLine_266 : decode cX12_readsLine 266 = .ok (.iadd, 1) := by decide +kernel
theorem dX12_readsLine_267 : decode cX12_readsLine 267 = .ok (.iconst 2, 1) := by decide +kernel
theorem dX12_readsLine_268 : decode cX12_readsLine 268 = .ok (.iastore, 1) := by decide +kernel
theorem dX12_readsLine_269 : decode cX12_readsLine 269 = .ok (.iconst 1, 1) := by decide +kernel
theorem dX12_readsLine_270 : decode cX12_readsLine 270 = .ok (.ireturn, 1) := by decide +kernel
theorem dX12_readsLine_271 : decode cX12_readsLine 271 = .ok (.aload_n 0, 1) := by decide +kernel
theorem dX12_readsLine_272 : decode cX12_readsLine 272 = .ok (.iload_n 1, 1) := by decide +kernel
theorem dX12_readsLine_273 : decode cX12_readsLine 273 = .ok (.invokevirtual 245, 3) := by decide +kernel
theorem dX12_readsLine_276 : decode cX12_readsLine 276 = .ok (.ireturn, 1) := by decide +kernel
theorem dX12_readsLine_277 : decode cX12_readsLine 277 = .ok (.aload_n 0, 1) := by decide +kernel
theorem dX12_readsLine_278 : decode cX12_readsLine 278 = .ok (.iconst 1, 1) := by decide +kernel
theorem dX12_readsLine_279 : decode cX12_readsLine 279 = .ok (.aload_n 0, 1) := by decide +kernel
theorem dX12_readsLine_280 : decode cX12_readsLine 280 = .ok (.getfield 123, 3) := by decide +kernel
theorem dX12_readsLine_283 : decode cX12_readsLine 283 = .ok (.iconst 1, 1) := by decide +kernel
theorem dX12_readsLine_284 : decode cX12_readsLine 284 = .ok (.isub, 1) := by decide +kernel
theorem dX12_readsLine_285 : decode cX12_readsLine 285 = .ok (.invokevirtual 136, 3) := by decide +kernel
theorem dX12_readsLine_288 : decode cX12_readsLine 288 = .ok (.ireturn, 1) := by decide +kernel
theorem dX12_register_0 : decode cX12_register 0 = .ok (.iload_n 1, 1) := by decide +kernel
theorem dX12_register_1 : decode cX12_register 1 = .ok (.iconst 1, 1) := by decide +kernel
theorem dX12_register_2 : decode cX12_register 2 = .ok (.bipush 120, 2) := by decide +kernel
theorem dX12_register_4 : decode cX12_register 4 = .ok (.invokestatic 90, 3) := by decide +kernel
theorem dX12_register_7 : decode cX12_register 7 = .ok (.ifCond .eq 11, 3) := by decide +kernel
theorem dX12_register_10 : decode cX12_register 10 = .ok (.iload_n 1, 1) := by decide +kernel
theorem dX12_register_11 : decode cX12_register 11 = .ok (.aload_n 0, 1) := by decide +kernel
theorem dX12_register_12 : decode cX12_register 12 = .ok (.getfield 115, 3) := by decide +kernel
theorem dX12_register_15 : decode cX12_register 15 = .ok (.if_icmp .le 5, 3) := by decide +kernel
theorem dX12_register_18 : decode cX12_register 18 = .ok (.iconst (-1), 1) := by decide +kernel
theorem dX12_register_19 : decode cX12_register 19 = .ok (.ireturn, 1) := by decide +kernel
theorem dX12_register_20 : decode cX12_register 20 = .ok (.aload_n 0, 1) := by decide +kernel
theorem dX12_register_21 : decode cX12_register 21 = .ok (.iload_n 1, 1) := by decide +kernel
theorem dX12_register_22 : decode cX12_register 22 = .ok (.invokevirtual 208, 3) := by decide +kernel
theorem dX12_register_25 : decode cX12_register 25 = .ok (.aload_n 0, 1) := by decide +kernel
theorem dX12_register_26 : decode cX12_register 26 = .ok (.iconst 0, 1) := by decide +kernel
theorem dX12_register_27 : decode cX12_register 27 = .ok (.putfield 242, 3) := by decide +kernel
theorem dX12_register_30 : decode cX12_register 30 = .ok (.aload_n 0, 1) := by decide +kernel
theorem dX12_register_31 : decode cX12_register 31 = .ok (.getfield 7, 3) := by decide +kernel
theorem dX12_register_34 : decode cX12_register 34 = .ok (.aload_n 0, 1) := by decide +kernel
theorem dX12_register_35 : decode cX12_register 35 = .ok (.getfield 13, 3) := by decide +kernel
theorem dX12_register_38 : decode cX12_register 38 = .ok (.invokestatic 248, 3) := by decide +kernel
theorem dX12_register_41 : decode cX12_register 41 = .ok (.aload_n 0, 1) := by decide +kernel
theorem dX12_register_42 : decode cX12_register 42 = .ok (.invokevirtual 252, 3) := by decide +kernel
theorem dX12_register_45 : decode cX12_register 45 = .ok (.istore_n 2, 1) := by decide +kernel
theorem dX12_register_46 : decode cX12_register 46 = .ok (.iload_n 2, 1) := by decide +kernel
theorem dX12_register_47 : decode cX12_register 47 = .ok (.ifCond .eq 39, 3) := by decide +kernel
theorem dX12_register_50 : decode cX12_register 50 = .ok (.aload_n 0, 1) := by decide +kernel
theorem dX12_register_51 : decode cX12_register 51 = .ok (.getfield 123, 3) := by decide +kernel
theorem dX12_register_54 : decode cX12_register 54 = .ok (.aload_n 0, 1) := by decide +kernel
theorem dX12_register_55 : decode cX12_register 55 = .ok (.getfield 126, 3) := by decide +kernel
theorem dX12_register_58 : decode cX12_register 58 = .ok (.if_icmp .ge 28, 3) := by decide +kernel
theorem dX12_register_61 : decode cX12_register 61 = .ok (.aload_n 0, 1) := by decide +kernel
theorem dX12_register_62 : decode cX12_register 62 = .ok (.bipush 59, 2) := by decide +kernel
theorem dX12_register_64 : decode cX12_register 64 = .ok (.invokevirtual 214, 3) := by decide +kernel
theorem dX12_register_67 : decode cX12_register 67 = .ok (.ifCond .eq 14, 3) := by decide +kernel
theorem dX12_register_70 : decode cX12_register 70 = .ok (.aload_n 0, 1) := by decide +kernel
theorem dX12_register_71 : decode cX12_register 71 = .ok (.invokevirtual 252, 3) := by decide +kernel
theorem dX12_register_74 : decode cX12_register 74 = .ok (.ifCond .eq 7, 3) := by decide +kernel
theorem dX12_register_77 : decode cX12_register 77 = .ok (.iconst 1, 1) := by decide +kernel
theorem dX12_register_78 : decode cX12_register 78 = .ok (.goto 4, 3) := by decide +kernel
theorem dX12_register_81 : decode cX12_register 81 = .ok (.iconst 0, 1) := by decide +kernel
theorem dX12_register_82 : decode cX12_register 82 = .ok (.istore_n 2, 1) := by decide +kernel
theorem dX12_register_83 : decode cX12_register 83 = .ok (.goto (-37), 3) := by decide +kernel
theorem dX12_register_86 : decode cX12_register 86 = .ok (.aload_n 0, 1) := by decide +kernel
theorem dX12_register_87 : decode cX12_register 87 = .ok (.iconst 0, 1) := by decide +kernel
theorem dX12_register_88 : decode cX12_register 88 = .ok (.putfield 115, 3) := by decide +kernel
theorem dX12_register_91 : decode cX12_register 91 = .ok (.iload_n 2, 1) := by decide +kernel
theorem dX12_register_92 : decode cX12_register 92 = .ok (.ifCond .eq 8, 3) := by decide +kernel
theorem dX12_register_95 : decode cX12_register 95 = .ok (.aload_n 0, 1) := by decide +kernel
theorem dX12_register_96 : decode cX12_register 96 = .ok (.getfield 242, 3) := by decide +kernel
theorem dX12_register_99 : decode cX12_register 99 = .ok (.ireturn, 1) := by decide +kernel
theorem dX12_register_100 : decode cX12_register 100 = .ok (.aload_n 0, 1) := by decide +kernel
theorem dX12_register_101 : decode cX12_register 101 = .ok (.getfield 13, 3) := by decide +kernel
theorem dX12_register_104 : decode cX12_register 104 = .ok (.aload_n 0, 1) := by decide +kernel
theorem dX12_register_105 : decode cX12_register 105 = .ok (.getfield 7, 3) := by decide +kernel
theorem dX12_register_108 : decode cX12_register 108 = .ok (.invokestatic 248, 3) := by decide +kernel
theorem dX12_register_111 : decode cX12_register 111 = .ok (.aload_n 0, 1) := by decide +kernel
theorem dX12_register_112 : decode cX12_register 112 = .ok (.getfield 133, 3) := by decide +kernel
theorem dX12_register_115 : decode cX12_register 115 = .ok (.ireturn, 1) := by decide +kernel
theorem dX12_rises_0 : decode cX12_rises 0 = .ok (.iload_n 2, 1) := by decide +kernel
theorem dX12_rises_1 : decode cX12_rises 1 = .ok (.istore_n 3, 1) := by decide +kernel
theorem dX12_rises_2 : decode cX12_rises 2 = .ok (.aload_n 0, 1) := by decide +kernel
theorem dX12_rises_3 : decode cX12_rises 3 = .ok (.iload_n 1, 1) := by decide +kernel
theorem dX12_rises_4 : decode cX12_rises 4 = .ok (.invokevirtual 255, 3) := by decide +kernel
theorem dX12_rises_7 : decode cX12_rises 7 = .ok (.istore 4, 2) := by decide +kernel
theorem dX12_rises_9 : decode cX12_rises 9 = .ok (.iload 4, 2) := by decide +kernel
theorem dX12_rises_11 : decode cX12_rises 11 = .ok (.bipush 24, 2) := by decide +kernel
theorem dX12_rises_13 : decode cX12_rises 13 = .ok (.if_icmp .eq 198, 3) := by decide +kernel
theorem dX12_rises_16 : decode cX12_rises 16 = .ok (.aload_n 0, 1) := by decide +kernel
theorem dX12_rises_17 : decode cX12_rises 17 = .ok (.iload_n 1, 1) := by decide +kernel
theorem dX12_rises_18 : decode cX12_rises 18 = .ok (.iload 4, 2) := by decide +kernel
theorem dX12_rises_20 : decode cX12_rises 20 = .ok (.iload_n 3, 1) := by decide +kernel
theorem dX12_rises_21 : decode cX12_rises 21 = .ok (.invokevirtual 258, 3) := by decide +kernel
theorem dX12_rises_24 : decode cX12_rises 24 = .ok (.iload_n 3, 1) := by decide +kernel
theorem dX12_rises_25 : decode cX12_rises 25 = .ok (.aload_n 0, 1) := by decide +kernel
theorem dX12_rises_26 : decode cX12_rises 26 = .ok (.bipush 107, 2) := by decide +kernel
theorem dX12_rises_28 : decode cX12_rises 28 = .ok (.bipush 99, 2) := by decide +kernel
theorem dX12_rises_30 : decode cX12_rises 30 = .ok (.invokevirtual 261, 3) := by decide +kernel
theorem dX12_rises_33 : decode cX12_rises 33 = .ok (.invokestatic 98, 3) := by decide +kernel
theorem dX12_rises_36 : decode cX12_rises 36 = .ok (.istore 5, 2) := by decide +kernel
theorem dX12_rises_38 : decode cX12_rises 38 = .ok (.aload_n 0, 1) := by decide +kernel
theorem dX12_rises_39 : decode cX12_rises 39 = .ok (.getfield 7, 3) := by decide +kernel
theorem dX12_rises_42 : decode cX12_rises 42 = .ok (.bipush 96, 2) := by decide +kernel
theorem dX12_rises_44 : decode cX12_rises 44 = .ok (.iload 4, 2) := by decide +kernel
theorem dX12_rises_46 : decode cX12_rises 46 = .ok (.iadd, 1) := by decide +kernel
theorem dX12_rises_47 : decode cX12_rises 47 = .ok (.ldc_w 264, 3) := by decide +kernel
theorem dX12_rises_50 : decode cX12_rises 50 = .ok (.aload_n 0, 1) := by decide +kernel
theorem dX12_rises_51 : decode cX12_rises 51 = .ok (.getfield 7, 3) := by decide +kernel
theorem dX12_rises_54 : decode cX12_rises 54 = .ok (.bipush 96, 2) := by decide +kernel
theorem dX12_rises_56 : decode cX12_rises 56 = .ok (.iload 4, 2) := by decide +kernel
theorem dX12_rises_58 : decode cX12_rises 58 = .ok (.iadd, 1) := by decide +kernel
theorem dX12_rises_59 : decode cX12_rises 59 = .ok (.iaload, 1) := by decide +kernel
theorem dX12_rises_60 : decode cX12_rises 60 = .ok (.iload 5, 2) := by decide +kernel
theorem dX12_rises_62 : decode cX12_rises 62 = .ok (.iadd, 1) := by decide +kernel
theorem dX12_rises_63 : decode cX12_rises 63 = .ok (.invokestatic 98, 3) := by decide +kernel
theorem dX12_rises_66 : decode cX12_rises 66 = .ok (.iastore, 1) := by decide +kernel
theorem dX12_rises_67 : decode cX12_rises 67 = .ok (.aload_n 0, 1) := by decide +kernel
theorem dX12_rises_68 : decode cX12_rises 68 = .ok (.aload_n 0, 1) := by decide +kernel
theorem dX12_rises_69 : decode cX12_rises 69 = .ok (.getfield 265, 3) := by decide +kernel
theorem dX12_rises_72 : decode cX12_rises 72 = .ok (.iload 5, 2) := by decide +kernel
theorem dX12_rises_74 : decode cX12_rises 74 = .ok (.iadd, 1) := by decide +kernel
theorem dX12_rises_75 : decode cX12_rises 75 = .ok (.putfield 265, 3) := by decide +kernel
theorem dX12_rises_78 : decode cX12_rises 78 = .ok (.iload_n 3, 1) := by decide +kernel
theorem dX12_rises_79 : decode cX12_rises 79 = .ok (.iload 5, 2) := by decide +kernel
theorem dX12_rises_81 : decode cX12_rises 81 = .ok (.isub, 1) := by decide +kernel
theorem dX12_rises_82 : decode cX12_rises 82 = .ok (.istore_n 3, 1) := by decide +kernel
theorem dX12_rises_83 : decode cX12_rises 83 = .ok (.iload_n 3, 1) := by decide +kernel
theorem dX12_rises_84 : decode cX12_rises 84 = .ok (.ifCond .ne 4, 3) := by decide +kernel
theorem dX12_rises_87 : decode cX12_rises 87 = .ok (.return_, 1) := by decide +kernel
theorem dX12_rises_88 : decode cX12_rises 88 = .ok (.aload_n 0, 1) := by decide +kernel
theorem dX12_rises_89 : decode cX12_rises 89 = .ok (.iload 4, 2) := by decide +kernel
theorem dX12_rises_91 : decode cX12_rises 91 = .ok (.invokevirtual 268, 3) := by decide +kernel
theorem dX12_rises_94 : decode cX12_rises 94 = .ok (.ifCond .eq 106, 3) := by decide +kernel
theorem dX12_rises_97 : decode cX12_rises 97 = .ok (.aload_n 0, 1) := by decide +kernel
theorem dX12_rises_98 : decode cX12_rises 98 = .ok (.iload_n 1, 1) := by decide +kernel
theorem dX12_rises_99 : decode cX12_rises 99 = .ok (.iload 4, 2) := by decide +kernel
theorem dX12_rises_101 : decode cX12_rises 101 = .ok (.iload_n 3, 1) := by decide +kernel
theorem dX12_rises_102 : decode cX12_rises 102 = .ok (.invokevirtual 258, 3) := by decide +kernel
theorem dX12_rises_105 : decode cX12_rises 105 = .ok (.aload_n 0, 1) := by decide +kernel
theorem dX12_rises_106 : decode cX12_rises 106 = .ok (.bipush 100, 2) := by decide +kernel
theorem dX12_rises_108 : decode cX12_rises 108 = .ok (.bipush 10, 2) := by decide +kernel
theorem dX12_rises_110 : decode cX12_rises 110 = .ok (.invokevirtual 261, 3) := by decide +kernel
theorem dX12_rises_113 : decode cX12_rises 113 = .ok (.istore 6, 2) := by decide +kernel
theorem dX12_rises_115 : decode cX12_rises 115 = .ok (.aload_n 0, 1) := by decide +kernel
theorem dX12_rises_116 : decode cX12_rises 116 = .ok (.getfield 7, 3) := by decide +kernel
theorem dX12_rises_119 : decode cX12_rises 119 = .ok (.sipush 698, 3) := by decide +kernel
theorem dX12_rises_122 : decode cX12_rises 122 = .ok (.sipush 25173, 3) := by decide +kernel
theorem dX12_rises_125 : decode cX12_rises 125 = .ok (.aload_n 0, 1) := by decide +kernel
theorem dX12_rises_126 : decode cX12_rises 126 = .ok (.getfield 7, 3) := by decide +kernel
theorem dX12_rises_129 : decode cX12_rises 129 = .ok (.sipush 698, 3) := by decide +kernel
theorem dX12_rises_132 : decode cX12_rises 132 = .ok (.iaload, 1) := by decide +kernel
theorem dX12_rises_133 : decode cX12_rises 133 = .ok (.imul, 1) := by decide +kernel
theorem dX12_rises_134 : decode cX12_rises 134 = .ok (.sipush 13849, 3) := by decide +kernel
theorem dX12_rises_137 : decode cX12_rises 137 = .ok (.iadd, 1) := by decide +kernel
theorem dX12_rises_138 : decode cX12_rises 138 = .ok (.ldc_w 271, 3) := by decide +kernel
theorem dX12_rises_141 : decode cX12_rises 141 = .ok (.irem, 1) := by decide +kernel
theorem dX12_rises_142 : decode cX12_rises 142 = .ok (.iastore, 1) := by decide +kernel
theorem dX12_rises_143 : decode cX12_rises 143 = .ok (.aload_n 0, 1) := by decide +kernel
theorem dX12_rises_144 : decode cX12_rises 144 = .ok (.getfield 7, 3) := by decide +kernel
theorem dX12_rises_147 : decode cX12_rises 147 = .ok (.sipush 698, 3) := by decide +kernel
theorem dX12_rises_150 : decode cX12_rises 150 = .ok (.iaload, 1) := by decide +kernel
theorem dX12_rises_151 : decode cX12_rises 151 = .ok (.bipush 10, 2) := by decide +kernel
theorem dX12_rises_153 : decode cX12_rises 153 = .ok (.irem, 1) := by decide +kernel
theorem dX12_rises_154 : decode cX12_rises 154 = .ok (.iload 6, 2) := by decide +kernel
theorem dX12_rises_156 : decode cX12_rises 156 = .ok (.if_icmp .ge 44, 3) := by decide +kernel
theorem dX12_rises_159 : decode cX12_rises 159 = .ok (.aload_n 0, 1) := by decide +kernel
theorem dX12_rises_160 : decode cX12_rises 160 = .ok (.getfield 7, 3) := by decide +kernel
theorem dX12_rises_163 : decode cX12_rises 163 = .ok (.iload 4, 2) := by decide +kernel
theorem dX12_rises_165 : decode cX12_rises 165 = .ok (.iload_n 1, 1) := by decide +kernel
theorem dX12_rises_166 : decode cX12_rises 166 = .ok (.invokestatic 94, 3) := by decide +kernel
theorem dX12_rises_169 : decode cX12_rises 169 = .ok (.ldc_w 264, 3) := by decide +kernel
theorem dX12_rises_172 : decode cX12_rises 172 = .ok (.aload_n 0, 1) := by decide +kernel
theorem dX12_rises_173 : decode cX12_rises 173 = .ok (.getfield 7, 3) := by decide +kernel
theorem dX12_rises_176 : decode cX12_rises 176 = .ok (.iload 4, 2) := by decide +kernel
theorem dX12_rises_178 : decode cX12_rises 178 = .ok (.iload_n 1, 1) := by decide +kernel
theorem dX12_rises_179 : decode cX12_rises 179 = .ok (.invokestatic 94, 3) := by decide +kernel
theorem dX12_rises_182 : decode cX12_rises 182 = .ok (.iaload, 1) := by decide +kernel
theorem dX12_rises_183 : decode cX12_rises 183 = .ok (.iload_n 3, 1) := by decide +kernel
theorem dX12_rises_184 : decode cX12_rises 184 = .ok (.iadd, 1) := by decide +kernel
theorem dX12_rises_185 : decode cX12_rises 185 = .ok (.invokestatic 98, 3) := by decide +kernel
theorem dX12_rises_188 : decode cX12_rises 188 = .ok (.iastore, 1) := by decide +kernel
theorem dX12_rises_189 : decode cX12_rises 189 = .ok (.aload_n 0, 1) := by decide +kernel
theorem dX12_rises_190 : decode cX12_rises 190 = .ok (.aload_n 0, 1) := by decide +kernel
theorem dX12_rises_191 : decode cX12_rises 191 = .ok (.getfield 272, 3) := by decide +kernel
theorem dX12_rises_194 : decode cX12_rises 194 = .ok (.iload_n 3, 1) := by decide +kernel
theorem dX12_rises_195 : decode cX12_rises 195 = .ok (.iadd, 1) := by decide +kernel
theorem dX12_rises_196 : decode cX12_rises 196 = .ok (.putfield 272, 3) := by decide +kernel
theorem dX12_rises_199 : decode cX12_rises 199 = .ok (.return_, 1) := by decide +kernel
theorem dX12_rises_200 : decode cX12_rises 200 = .ok (.aload_n 0, 1) := by decide +kernel
theorem dX12_rises_201 : decode cX12_rises 201 = .ok (.iload 4, 2) := by decide +kernel
theorem dX12_rises_203 : decode cX12_rises 203 = .ok (.invokevirtual 255, 3) := by decide +kernel
theorem dX12_rises_206 : decode cX12_rises 206 = .ok (.istore 4, 2) := by decide +kernel
theorem dX12_rises_208 : decode cX12_rises 208 = .ok (.goto (-199), 3) := by decide +kernel
theorem dX12_rises_211 : decode cX12_rises 211 = .ok (.aload_n 0, 1) := by decide +kernel
theorem dX12_rises_212 : decode cX12_rises 212 = .ok (.aload_n 0, 1) := by decide +kernel
theorem dX12_rises_213 : decode cX12_rises 213 = .ok (.getfield 275, 3) := by decide +kernel
theorem dX12_rises_216 : decode cX12_rises 216 = .ok (.iload_n 3, 1) := by decide +kernel
theorem dX12_rises_217 : decode cX12_rises 217 = .ok (.iadd, 1) := by decide +kernel
theorem dX12_rises_218 : decode cX12_rises 218 = .ok (.putfield 275, 3) := by decide +kernel
theorem dX12_rises_221 : decode cX12_rises 221 = .ok (.aload_n 0, 1) := by decide +kernel
theorem dX12_rises_222 : decode cX12_rises 222 = .ok (.getfield 7, 3) := by decide +kernel
theorem dX12_rises_225 : decode cX12_rises 225 = .ok (.sipush 696, 3) := by decide +kernel
theorem dX12_rises_228 : decode cX12_rises 228 = .ok (.ldc_w 278, 3) := by decide +kernel
theorem dX12_rises_231 : decode cX12_rises 231 = .ok (.aload_n 0, 1) := by decide +kernel
theorem dX12_rises_232 : decode cX12_rises 232 = .ok (.getfield 7, 3) := by decide +kernel
theorem dX12_rises_235 : decode cX12_rises 235 = .ok (.sipush 696, 3) := by decide +kernel
theorem dX12_rises_238 : decode cX12_rises 238 = .ok (.iaload, 1) := by decide +kernel
theorem dX12_rises_239 : decode cX12_rises 239 = .ok (.iload_n 3, 1) := by decide +kernel
theorem dX12_rises_240 : decode cX12_rises 240 = .ok (.iadd, 1) := by decide +kernel
theorem dX12_rises_241 : decode cX12_rises 241 = .ok (.invokestatic 98, 3) := by decide +kernel
theorem dX12_rises_244 : decode cX12_rises 244 = .ok (.iastore, 1) := by decide +kernel
theorem dX12_rises_245 : decode cX12_rises 245 = .ok (.return_, 1) := by decide +kernel
theorem dX12_hourGoes_0 : decode cX12_hourGoes 0 = .ok (.iconst 0, 1) := by decide +kernel
theorem dX12_hourGoes_1 : decode cX12_hourGoes 1 = .ok (.istore_n 1, 1) := by decide +kernel
theorem dX12_hourGoes_2 : decode cX12_hourGoes 2 = .ok (.iload_n 1, 1) := by decide +kernel
theorem dX12_hourGoes_3 : decode cX12_hourGoes 3 = .ok (.bipush 24, 2) := by decide +kernel
theorem dX12_hourGoes_5 : decode cX12_hourGoes 5 = .ok (.if_icmp .ge 102, 3) := by decide +kernel
theorem dX12_hourGoes_8 : decode cX12_hourGoes 8 = .ok (.aload_n 0, 1) := by decide +kernel
theorem dX12_hourGoes_9 : decode cX12_hourGoes 9 = .ok (.iload_n 1, 1) := by decide +kernel
theorem dX12_hourGoes_10 : decode cX12_hourGoes 10 = .ok (.invokevirtual 268, 3) := by decide +kernel
theorem dX12_hourGoes_13 : decode cX12_hourGoes 13 = .ok (.ifCond .eq 88, 3) := by decide +kernel
theorem dX12_hourGoes_16 : decode cX12_hourGoes 16 = .ok (.aload_n 0, 1) := by decide +kernel
theorem dX12_hourGoes_17 : decode cX12_hourGoes 17 = .ok (.getfield 7, 3) := by decide +kernel
theorem dX12_hourGoes_20 : decode cX12_hourGoes 20 = .ok (.bipush 24, 2) := by decide +kernel
theorem dX12_hourGoes_22 : decode cX12_hourGoes 22 = .ok (.iload_n 1, 1) := by decide +kernel
theorem dX12_hourGoes_23 : decode cX12_hourGoes 23 = .ok (.iadd, 1) := by decide +kernel
theorem dX12_hourGoes_24 : decode cX12_hourGoes 24 = .ok (.iaload, 1) := by decide +kernel
theorem dX12_hourGoes_25 : decode cX12_hourGoes 25 = .ok (.ifCond .ne 6, 3) := by decide +kernel
theorem dX12_hourGoes_28 : decode cX12_hourGoes 28 = .ok (.goto 73, 3) := by decide +kernel
theorem dX12_hourGoes_31 : decode cX12_hourGoes 31 = .ok (.aload_n 0, 1) := by decide +kernel
theorem dX12_hourGoes_32 : decode cX12_hourGoes 32 = .ok (.iload_n 1, 1) := by decide +kernel
theorem dX12_hourGoes_33 : decode cX12_hourGoes 33 = .ok (.iload_n 1, 1) := by decide +kernel
theorem dX12_hourGoes_34 : decode cX12_hourGoes 34 = .ok (.iconst 0, 1) := by decide +kernel
theorem dX12_hourGoes_35 : decode cX12_hourGoes 35 = .ok (.invokevirtual 258, 3) := by decide +kernel
theorem dX12_hourGoes_38 : decode cX12_hourGoes 38 = .ok (.aload_n 0, 1) := by decide +kernel
theorem dX12_hourGoes_39 : decode cX12_hourGoes 39 = .ok (.bipush 120, 2) := by decide +kernel
theorem dX12_hourGoes_41 : decode cX12_hourGoes 41 = .ok (.invokevirtual 279, 3) := by decide +kernel
theorem dX12_hourGoes_44 : decode cX12_hourGoes 44 = .ok (.ifCond .eq 6, 3) := by decide +kernel
theorem dX12_hourGoes_47 : decode cX12_hourGoes 47 = .ok (.goto 54, 3) := by decide +kernel
theorem dX12_hourGoes_50 : decode cX12_hourGoes 50 = .ok (.aload_n 0, 1) := by decide +kernel
theorem dX12_hourGoes_51 : decode cX12_hourGoes 51 = .ok (.getfield 7, 3) := by decide +kernel
theorem dX12_hourGoes_54 : decode cX12_hourGoes 54 = .ok (.bipush 24, 2) := by decide +kernel
theorem dX12_hourGoes_56 : decode cX12_hourGoes 56 = .ok (.iload_n 1, 1) := by decide +kernel
theorem dX12_hourGoes_57 : decode cX12_hourGoes 57 = .ok (.iadd, 1) := by decide +kernel
theorem dX12_hourGoes_58 : decode cX12_hourGoes 58 = .ok (.iaload, 1) := by decide +kernel
theorem dX12_hourGoes_59 : decode cX12_hourGoes 59 = .ok (.aload_n 0, 1) := by decide +kernel
theorem dX12_hourGoes_60 : decode cX12_hourGoes 60 = .ok (.bipush 99, 2) := by decide +kernel
theorem dX12_hourGoes_62 : decode cX12_hourGoes 62 = .ok (.bipush 99, 2) := by decide +kernel
theorem dX12_hourGoes_64 : decode cX12_hourGoes 64 = .ok (.invokevirtual 261, 3) := by decide +kernel
theorem dX12_hourGoes_67 : decode cX12_hourGoes 67 = .ok (.invokestatic 98, 3) := by decide +kernel
theorem dX12_hourGoes_70 : decode cX12_hourGoes 70 = .ok (.istore_n 2, 1) := by decide +kernel
theorem dX12_hourGoes_71 : decode cX12_hourGoes 71 = .ok (.aload_n 0, 1) := by decide +kernel
theorem dX12_hourGoes_72 : decode cX12_hourGoes 72 = .ok (.getfield 7, 3) := by decide +kernel
theorem dX12_hourGoes_75 : decode cX12_hourGoes 75 = .ok (.bipush 24, 2) := by decide +kernel
theorem dX12_hourGoes_77 : decode cX12_hourGoes 77 = .ok (.iload_n 1, 1) := by decide +kernel
theorem dX12_hourGoes_78 : decode cX12_hourGoes 78 = .ok (.iadd, 1) := by decide +kernel
theorem dX12_hourGoes_79 : decode cX12_hourGoes 79 = .ok (.aload_n 0, 1) := by decide +kernel
theorem dX12_hourGoes_80 : decode cX12_hourGoes 80 = .ok (.getfield 7, 3) := by decide +kernel
theorem dX12_hourGoes_83 : decode cX12_hourGoes 83 = .ok (.bipush 24, 2) := by decide +kernel
theorem dX12_hourGoes_85 : decode cX12_hourGoes 85 = .ok (.iload_n 1, 1) := by decide +kernel
theorem dX12_hourGoes_86 : decode cX12_hourGoes 86 = .ok (.iadd, 1) := by decide +kernel
theorem dX12_hourGoes_87 : decode cX12_hourGoes 87 = .ok (.iaload, 1) := by decide +kernel
theorem dX12_hourGoes_88 : decode cX12_hourGoes 88 = .ok (.iload_n 2, 1) := by decide +kernel
theorem dX12_hourGoes_89 : decode cX12_hourGoes 89 = .ok (.isub, 1) := by decide +kernel
theorem dX12_hourGoes_90 : decode cX12_hourGoes 90 = .ok (.iastore, 1) := by decide +kernel
theorem dX12_hourGoes_91 : decode cX12_hourGoes 91 = .ok (.iload_n 2, 1) := by decide +kernel
theorem dX12_hourGoes_92 : decode cX12_hourGoes 92 = .ok (.ifCond .le 9, 3) := by decide +kernel
theorem dX12_hourGoes_95 : decode cX12_hourGoes 95 = .ok (.aload_n 0, 1) := by decide +kernel
theorem dX12_hourGoes_96 : decode cX12_hourGoes 96 = .ok (.iload_n 1, 1) := by decide +kernel
theorem dX12_hourGoes_97 : decode cX12_hourGoes 97 = .ok (.iload_n 2, 1) := by decide +kernel
theorem dX12_hourGoes_98 : decode cX12_hourGoes 98 = .ok (.invokevirtual 282, 3) := by decide +kernel
theorem dX12_hourGoes_101 : decode cX12_hourGoes 101 = .ok (.iinc 1 1, 3) := by decide +kernel
theorem dX12_hourGoes_104 : decode cX12_hourGoes 104 = .ok (.goto (-102), 3) := by decide +kernel
theorem dX12_hourGoes_107 : decode cX12_hourGoes 107 = .ok (.aload_n 0, 1) := by decide +kernel
theorem dX12_hourGoes_108 : decode cX12_hourGoes 108 = .ok (.getfield 7, 3) := by decide +kernel
theorem dX12_hourGoes_111 : decode cX12_hourGoes 111 = .ok (.sipush 697, 3) := by decide +kernel
theorem dX12_hourGoes_114 : decode cX12_hourGoes 114 = .ok (.aload_n 0, 1) := by decide +kernel
theorem dX12_hourGoes_115 : decode cX12_hourGoes 115 = .ok (.getfield 7, 3) := by decide +kernel
theorem dX12_hourGoes_118 : decode cX12_hourGoes 118 = .ok (.sipush 697, 3) := by decide +kernel
theorem dX12_hourGoes_121 : decode cX12_hourGoes 121 = .ok (.iaload, 1) := by decide +kernel
theorem dX12_hourGoes_122 : decode cX12_hourGoes 122 = .ok (.iconst 1, 1) := by decide +kernel
theorem dX12_hourGoes_123 : decode cX12_hourGoes 123 = .ok (.iadd, 1) := by decide +kernel
theorem dX12_hourGoes_124 : decode cX12_hourGoes 124 = .ok (.iastore, 1) := by decide +kernel
theorem dX12_hourGoes_125 : decode cX12_hourGoes 125 = .ok (.return_, 1) := by decide +kernel
theorem dX12_hoursGo_0 : decode cX12_hoursGo 0 = .ok (.aload_n 0, 1) := by decide +kernel
theorem dX12_hoursGo_1 : decode cX12_hoursGo 1 = .ok (.iconst 0, 1) := by decide +kernel
theorem dX12_hoursGo_2 : decode cX12_hoursGo 2 = .ok (.putfield 272, 3) := by decide +kernel
theorem dX12_hoursGo_5 : decode cX12_hoursGo 5 = .ok (.aload_n 0, 1) := by decide +kernel
theorem dX12_hoursGo_6 : decode cX12_hoursGo 6 = .ok (.iconst 0, 1) := by decide +kernel
theorem dX12_hoursGo_7 : decode cX12_hoursGo 7 = .ok (.putfield 265, 3) := by decide +kernel
theorem dX12_hoursGo_10 : decode cX12_hoursGo 10 = .ok (.aload_n 0, 1) := by decide +kernel
theorem dX12_hoursGo_11 : decode cX12_hoursGo 11 = .ok (.iconst 0, 1) := by decide +kernel
theorem dX12_hoursGo_12 : decode cX12_hoursGo 12 = .ok (.putfield 275, 3) := by decide +kernel
theorem dX12_hoursGo_15 : decode cX12_hoursGo 15 = .ok (.iconst 0, 1) := by decide +kernel
theorem dX12_hoursGo_16 : decode cX12_hoursGo 16 = .ok (.istore_n 2, 1) := by decide +kernel
theorem dX12_hoursGo_17 : decode cX12_hoursGo 17 = .ok (.iload_n 2, 1) := by decide +kernel
theorem dX12_hoursGo_18 : decode cX12_hoursGo 18 = .ok (.iload_n 1, 1) := by decide +kernel
theorem dX12_hoursGo_19 : decode cX12_hoursGo 19 = .ok (.if_icmp .ge 27, 3) := by decide +kernel
theorem dX12_hoursGo_22 : decode cX12_hoursGo 22 = .ok (.aload_n 0, 1) := by decide +kernel
theorem dX12_hoursGo_23 : decode cX12_hoursGo 23 = .ok (.getfield 7, 3) := by decide +kernel
theorem dX12_hoursGo_26 : decode cX12_hoursGo 26 = .ok (.sipush 697, 3) := by decide +kernel
theorem dX12_hoursGo_29 : decode cX12_hoursGo 29 = .ok (.iaload, 1) := by decide +kernel
theorem dX12_hoursGo_30 : decode cX12_hoursGo 30 = .ok (.ldc_w 264, 3) := by decide +kernel
theorem dX12_hoursGo_33 : decode cX12_hoursGo 33 = .ok (.if_icmp .ge 13, 3) := by decide +kernel
theorem dX12_hoursGo_36 : decode cX12_hoursGo 36 = .ok (.aload_n 0, 1) := by decide +kernel
theorem dX12_hoursGo_37 : decode cX12_hoursGo 37 = .ok (.invokevirtual 285, 3) := by decide +kernel
theorem dX12_hoursGo_40 : decode cX12_hoursGo 40 = .ok (.iinc 2 1, 3) := by decide +kernel
theorem dX12_hoursGo_43 : decode cX12_hoursGo 43 = .ok (.goto (-26), 3) := by decide +kernel
theorem dX12_hoursGo_46 : decode cX12_hoursGo 46 = .ok (.return_, 1) := by decide +kernel
theorem dX12_hours_0 : decode cX12_hours 0 = .ok (.iload_n 1, 1) := by decide +kernel
theorem dX12_hours_1 : decode cX12_hours 1 = .ok (.iconst 1, 1) := by decide +kernel
theorem dX12_hours_2 : decode cX12_hours 2 = .ok (.sipush 240, 3) := by decide +kernel
theorem dX12_hours_5 : decode cX12_hours 5 = .ok (.invokestatic 90, 3) := by decide +kernel
theorem dX12_hours_8 : decode cX12_hours 8 = .ok (.ifCond .ne 5, 3) := by decide +kernel
theorem dX12_hours_11 : decode cX12_hours 11 = .ok (.iconst (-1), 1) := by decide +kernel
theorem dX12_hours_12 : decode cX12_hours 12 = .ok (.ireturn, 1) := by decide +kernel
theorem dX12_hours_13 : decode cX12_hours 13 = .ok (.aload_n 0, 1) := by decide +kernel
theorem dX12_hours_14 : decode cX12_hours 14 = .ok (.iload_n 1, 1) := by decide +kernel
theorem dX12_hours_15 : decode cX12_hours 15 = .ok (.invokevirtual 288, 3) := by decide +kernel
theorem dX12_hours_18 : decode cX12_hours 18 = .ok (.aload_n 0, 1) := by decide +kernel
theorem dX12_hours_19 : decode cX12_hours 19 = .ok (.getfield 272, 3) := by decide +kernel
theorem dX12_hours_22 : decode cX12_hours 22 = .ok (.ireturn, 1) := by decide +kernel
theorem dX12_sumOf_0 : decode cX12_sumOf 0 = .ok (.iconst 0, 1) := by decide +kernel
theorem dX12_sumOf_1 : decode cX12_sumOf 1 = .ok (.istore_n 2, 1) := by decide +kernel
theorem dX12_sumOf_2 : decode cX12_sumOf 2 = .ok (.iconst 0, 1) := by decide +kernel
theorem dX12_sumOf_3 : decode cX12_sumOf 3 = .ok (.istore_n 3, 1) := by decide +kernel
theorem dX12_sumOf_4 : decode cX12_sumOf 4 = .ok (.iload_n 3, 1) := by decide +kernel
theorem dX12_sumOf_5 : decode cX12_sumOf 5 = .ok (.bipush 24, 2) := by decide +kernel
theorem dX12_sumOf_7 : decode cX12_sumOf 7 = .ok (.if_icmp .ge 20, 3) := by decide +kernel
theorem dX12_sumOf_10 : decode cX12_sumOf 10 = .ok (.iload_n 2, 1) := by decide +kernel
theorem dX12_sumOf_11 : decode cX12_sumOf 11 = .ok (.aload_n 0, 1) := by decide +kernel
theorem dX12_sumOf_12 : decode cX12_sumOf 12 = .ok (.getfield 7, 3) := by decide +kernel
theorem dX12_sumOf_15 : decode cX12_sumOf 15 = .ok (.iload_n 1, 1) := by decide +kernel
theorem dX12_sumOf_16 : decode cX12_sumOf 16 = .ok (.iload_n 3, 1) := by decide +kernel
theorem dX12_sumOf_17 : decode cX12_sumOf 17 = .ok (.iadd, 1) := by decide +kernel
theorem dX12_sumOf_18 : decode cX12_sumOf 18 = .ok (.iaload, 1) := by decide +kernel
theorem dX12_sumOf_19 : decode cX12_sumOf 19 = .ok (.iadd, 1) := by decide +kernel
theorem dX12_sumOf_20 : decode cX12_sumOf 20 = .ok (.istore_n 2, 1) := by decide +kernel
theorem dX12_sumOf_21 : decode cX12_sumOf 21 = .ok (.iinc 3 1, 3) := by decide +kernel
theorem dX12_sumOf_24 : decode cX12_sumOf 24 = .ok (.goto (-20), 3) := by decide +kernel
theorem dX12_sumOf_27 : decode cX12_sumOf 27 = .ok (.iload_n 2, 1) := by decide +kernel
theorem dX12_sumOf_28 : decode cX12_sumOf 28 = .ok (.ireturn, 1) := by decide +kernel
theorem dX12_tried_0 : decode cX12_tried 0 = .ok (.iload_n 1, 1) := by decide +kernel
theorem dX12_tried_1 : decode cX12_tried 1 = .ok (.iconst 1, 1) := by decide +kernel
theorem dX12_tried_2 : decode cX12_tried 2 = .ok (.sipush 240, 3) := by decide +kernel
theorem dX12_tried_5 : decode cX12_tried 5 = .ok (.invokestatic 90, 3) := by decide +kernel
theorem dX12_tried_8 : decode cX12_tried 8 = .ok (.ifCond .eq 22, 3) := by decide +kernel
theorem dX12_tried_11 : decode cX12_tried 11 = .ok (.iload_n 2, 1) := by decide +kernel
theorem dX12_tried_12 : decode cX12_tried 12 = .ok (.iconst 0, 1) := by decide +kernel
theorem dX12_tried_13 : decode cX12_tried 13 = .ok (.iconst 3, 1) := by decide +kernel
theorem dX12_tried_14 : decode cX12_tried 14 = .ok (.invokestatic 90, 3) := by decide +kernel
theorem dX12_tried_17 : decode cX12_tried 17 = .ok (.ifCond .ne 15, 3) := by decide +kernel
theorem dX12_tried_20 : decode cX12_tried 20 = .ok (.iload_n 2, 1) := by decide +kernel
theorem dX12_tried_21 : decode cX12_tried 21 = .ok (.bipush 100, 2) := by decide +kernel
theorem dX12_tried_23 : decode cX12_tried 23 = .ok (.isub, 1) := by decide +kernel
theorem dX12_tried_24 : decode cX12_tried 24 = .ok (.invokestatic 107, 3) := by decide +kernel
theorem dX12_tried_27 : decode cX12_tried 27 = .ok (.ifCond .ne 5, 3) := by decide +kernel
theorem dX12_tried_30 : decode cX12_tried 30 = .ok (.iconst (-1), 1) := by decide +kernel
theorem dX12_tried_31 : decode cX12_tried 31 = .ok (.ireturn, 1) := by decide +kernel
theorem dX12_tried_32 : decode cX12_tried 32 = .ok (.aload_n 0, 1) := by decide +kernel
theorem dX12_tried_33 : decode cX12_tried 33 = .ok (.getfield 7, 3) := by decide +kernel
theorem dX12_tried_36 : decode cX12_tried 36 = .ok (.aload_n 0, 1) := by decide +kernel
theorem dX12_tried_37 : decode cX12_tried 37 = .ok (.getfield 13, 3) := by decide +kernel
theorem dX12_tried_40 : decode cX12_tried 40 = .ok (.invokestatic 248, 3) := by decide +kernel
theorem dX12_tried_43 : decode cX12_tried 43 = .ok (.aload_n 0, 1) := by decide +kernel
theorem dX12_tried_44 : decode cX12_tried 44 = .ok (.iload_n 1, 1) := by decide +kernel
theorem dX12_tried_45 : decode cX12_tried 45 = .ok (.invokevirtual 288, 3) := by decide +kernel
theorem dX12_tried_48 : decode cX12_tried 48 = .ok (.iload_n 2, 1) := by decide +kernel
theorem dX12_tried_49 : decode cX12_tried 49 = .ok (.tableswitch 65 0 3 #[31, 39, 47, 55], 31) := by decide +kernel
theorem dX12_tried_80 : decode cX12_tried 80 = .ok (.aload_n 0, 1) := by decide +kernel
theorem dX12_tried_81 : decode cX12_tried 81 = .ok (.getfield 272, 3) := by decide +kernel
theorem dX12_tried_84 : decode cX12_tried 84 = .ok (.istore_n 3, 1) := by decide +kernel
theorem dX12_tried_85 : decode cX12_tried 85 = .ok (.goto 38, 3) := by decide +kernel
theorem dX12_tried_88 : decode cX12_tried 88 = .ok (.aload_n 0, 1) := by decide +kernel
theorem dX12_tried_89 : decode cX12_tried 89 = .ok (.getfield 265, 3) := by decide +kernel
theorem dX12_tried_92 : decode cX12_tried 92 = .ok (.istore_n 3, 1) := by decide +kernel
theorem dX12_tried_93 : decode cX12_tried 93 = .ok (.goto 30, 3) := by decide +kernel
theorem dX12_tried_96 : decode cX12_tried 96 = .ok (.aload_n 0, 1) := by decide +kernel
theorem dX12_tried_97 : decode cX12_tried 97 = .ok (.getfield 275, 3) := by decide +kernel
theorem dX12_tried_100 : decode cX12_tried 100 = .ok (.istore_n 3, 1) := by decide +kernel
theorem dX12_tried_101 : decode cX12_tried 101 = .ok (.goto 22, 3) := by decide +kernel
theorem dX12_tried_104 : decode cX12_tried 104 = .ok (.aload_n 0, 1) := by decide +kernel
theorem dX12_tried_105 : decode cX12_tried 105 = .ok (.bipush 24, 2) := by decide +kernel
theorem dX12_tried_107 : decode cX12_tried 107 = .ok (.invokevirtual 291, 3) := by decide +kernel
theorem dX12_tried_110 : decode cX12_tried 110 = .ok (.istore_n 3, 1) := by decide +kernel
theorem dX12_tried_111 : decode cX12_tried 111 = .ok (.goto 12, 3) := by decide +kernel
theorem dX12_tried_114 : decode cX12_tried 114 = .ok (.aload_n 0, 1) := by decide +kernel
theorem dX12_tried_115 : decode cX12_tried 115 = .ok (.iload_n 2, 1) := by decide +kernel
theorem dX12_tried_116 : decode cX12_tried 116 = .ok (.bipush 100, 2) := by decide +kernel
theorem dX12_tried_118 : decode cX12_tried 118 = .ok (.isub, 1) := by decide +kernel
theorem dX12_tried_119 : decode cX12_tried 119 = .ok (.invokevirtual 227, 3) := by decide +kernel
theorem dX12_tried_122 : decode cX12_tried 122 = .ok (.istore_n 3, 1) := by decide +kernel
theorem dX12_tried_123 : decode cX12_tried 123 = .ok (.aload_n 0, 1) := by decide +kernel
theorem dX12_tried_124 : decode cX12_tried 124 = .ok (.getfield 13, 3) := by decide +kernel
theorem dX12_tried_127 : decode cX12_tried 127 = .ok (.aload_n 0, 1) := by decide +kernel
theorem dX12_tried_128 : decode cX12_tried 128 = .ok (.getfield 7, 3) := by decide +kernel
theorem dX12_tried_131 : decode cX12_tried 131 = .ok (.invokestatic 248, 3) := by decide +kernel
theorem dX12_tried_134 : decode cX12_tried 134 = .ok (.iload_n 3, 1) := by decide +kernel
theorem dX12_tried_135 : decode cX12_tried 135 = .ok (.ireturn, 1) := by decide +kernel
theorem dX12_feltMost_0 : decode cX12_feltMost 0 = .ok (.bipush (-2), 2) := by decide +kernel
theorem dX12_feltMost_2 : decode cX12_feltMost 2 = .ok (.istore_n 2, 1) := by decide +kernel
theorem dX12_feltMost_3 : decode cX12_feltMost 3 = .ok (.iconst 0, 1) := by decide +kernel
theorem dX12_feltMost_4 : decode cX12_feltMost 4 = .ok (.istore_n 3, 1) := by decide +kernel
theorem dX12_feltMost_5 : decode cX12_feltMost 5 = .ok (.iload_n 3, 1) := by decide +kernel
theorem dX12_feltMost_6 : decode cX12_feltMost 6 = .ok (.bipush 24, 2) := by decide +kernel
theorem dX12_feltMost_8 : decode cX12_feltMost 8 = .ok (.if_icmp .ge 53, 3) := by decide +kernel
theorem dX12_feltMost_11 : decode cX12_feltMost 11 = .ok (.aload_n 0, 1) := by decide +kernel
theorem dX12_feltMost_12 : decode cX12_feltMost 12 = .ok (.getfield 7, 3) := by decide +kernel
theorem dX12_feltMost_15 : decode cX12_feltMost 15 = .ok (.iload_n 1, 1) := by decide +kernel
theorem dX12_feltMost_16 : decode cX12_feltMost 16 = .ok (.iload_n 3, 1) := by decide +kernel
theorem dX12_feltMost_17 : decode cX12_feltMost 17 = .ok (.invokestatic 94, 3) := by decide +kernel
theorem dX12_feltMost_20 : decode cX12_feltMost 20 = .ok (.iaload, 1) := by decide +kernel
theorem dX12_feltMost_21 : decode cX12_feltMost 21 = .ok (.ifCond .le 34, 3) := by decide +kernel
theorem dX12_feltMost_24 : decode cX12_feltMost 24 = .ok (.iload_n 2, 1) := by decide +kernel
theorem dX12_feltMost_25 : decode cX12_feltMost 25 = .ok (.bipush (-2), 2) := by decide +kernel
theorem dX12_feltMost_27 : decode cX12_feltMost 27 = .ok (.if_icmp .eq 26, 3) := by decide +kernel
theorem dX12_feltMost_30 : decode cX12_feltMost 30 = .ok (.aload_n 0, 1) := by decide +kernel
theorem dX12_feltMost_31 : decode cX12_feltMost 31 = .ok (.getfield 7, 3) := by decide +kernel
theorem dX12_feltMost_34 : decode cX12_feltMost 34 = .ok (.iload_n 1, 1) := by decide +kernel
theorem dX12_feltMost_35 : decode cX12_feltMost 35 = .ok (.iload_n 3, 1) := by decide +kernel
theorem dX12_feltMost_36 : decode cX12_feltMost 36 = .ok (.invokestatic 94, 3) := by decide +kernel
theorem dX12_feltMost_39 : decode cX12_feltMost 39 = .ok (.iaload, 1) := by decide +kernel
theorem dX12_feltMost_40 : decode cX12_feltMost 40 = .ok (.aload_n 0, 1) := by decide +kernel
theorem dX12_feltMost_41 : decode cX12_feltMost 41 = .ok (.getfield 7, 3) := by decide +kernel
theorem dX12_feltMost_44 : decode cX12_feltMost 44 = .ok (.iload_n 1, 1) := by decide +kernel
theorem dX12_feltMost_45 : decode cX12_feltMost 45 = .ok (.iload_n 2, 1) := by decide +kernel
theorem dX12_feltMost_46 : decode cX12_feltMost 46 = .ok (.invokestatic 94, 3) := by decide +kernel
theorem dX12_feltMost_49 : decode cX12_feltMost 49 = .ok (.iaload, 1) := by decide +kernel
theorem dX12_feltMost_50 : decode cX12_feltMost 50 = .ok (.if_icmp .le 5, 3) := by decide +kernel
theorem dX12_feltMost_53 : decode cX12_feltMost 53 = .ok (.iload_n 3, 1) := by decide +kernel
theorem dX12_feltMost_54 : decode cX12_feltMost 54 = .ok (.istore_n 2, 1) := by decide +kernel
theorem dX12_feltMost_55 : decode cX12_feltMost 55 = .ok (.iinc 3 1, 3) := by decide +kernel
theorem dX12_feltMost_58 : decode cX12_feltMost 58 = .ok (.goto (-53), 3) := by decide +kernel
theorem dX12_feltMost_61 : decode cX12_feltMost 61 = .ok (.iload_n 2, 1) := by decide +kernel
theorem dX12_feltMost_62 : decode cX12_feltMost 62 = .ok (.ireturn, 1) := by decide +kernel
theorem dX12_roomIs_0 : decode cX12_roomIs 0 = .ok (.iload_n 1, 1) := by decide +kernel
theorem dX12_roomIs_1 : decode cX12_roomIs 1 = .ok (.invokestatic 107, 3) := by decide +kernel
theorem dX12_roomIs_4 : decode cX12_roomIs 4 = .ok (.ifCond .ne 5, 3) := by decide +kernel
theorem dX12_roomIs_7 : decode cX12_roomIs 7 = .ok (.iconst (-1), 1) := by decide +kernel
theorem dX12_roomIs_8 : decode cX12_roomIs 8 = .ok (.ireturn, 1) := by decide +kernel
theorem dX12_roomIs_9 : decode cX12_roomIs 9 = .ok (.aload_n 0, 1) := by decide +kernel
theorem dX12_roomIs_10 : decode cX12_roomIs 10 = .ok (.iload_n 1, 1) := by decide +kernel
theorem dX12_roomIs_11 : decode cX12_roomIs 11 = .ok (.invokevirtual 294, 3) := by decide +kernel
theorem dX12_roomIs_14 : decode cX12_roomIs 14 = .ok (.istore_n 3, 1) := by decide +kernel
theorem dX12_roomIs_15 : decode cX12_roomIs 15 = .ok (.iload_n 2, 1) := by decide +kernel
theorem dX12_roomIs_16 : decode cX12_roomIs 16 = .ok (.tableswitch 143 0 7 #[48, 75, 84, 94, 104, 114, 120, 141], 48) := by decide +kernel
theorem dX12_roomIs_64 : decode cX12_roomIs 64 = .ok (.aload_n 0, 1) := by decide +kernel
theorem dX12_roomIs_65 : decode cX12_roomIs 65 = .ok (.getfield 7, 3) := by decide +kernel
theorem dX12_roomIs_68 : decode cX12_roomIs 68 = .ok (.iconst 0, 1) := by decide +kernel
theorem dX12_roomIs_69 : decode cX12_roomIs 69 = .ok (.iload_n 1, 1) := by decide +kernel
theorem dX12_roomIs_70 : decode cX12_roomIs 70 = .ok (.iadd, 1) := by decide +kernel
theorem dX12_roomIs_71 : decode cX12_roomIs 71 = .ok (.iaload, 1) := by decide +kernel
theorem dX12_roomIs_72 : decode cX12_roomIs 72 = .ok (.iconst 1, 1) := by decide +kernel
theorem dX12_roomIs_73 : decode cX12_roomIs 73 = .ok (.if_icmp .ne 15, 3) := by decide +kernel
theorem dX12_roomIs_76 : decode cX12_roomIs 76 = .ok (.aload_n 0, 1) := by decide +kernel
theorem dX12_roomIs_77 : decode cX12_roomIs 77 = .ok (.getfield 7, 3) := by decide +kernel
theorem dX12_roomIs_80 : decode cX12_roomIs 80 = .ok (.bipush 24, 2) := by decide +kernel
theorem dX12_roomIs_82 : decode cX12_roomIs 82 = .ok (.iload_n 1, 1) := by decide +kernel
theorem dX12_roomIs_83 : decode cX12_roomIs 83 = .ok (.iadd, 1) := by decide +kernel
theorem dX12_roomIs_84 : decode cX12_roomIs 84 = .ok (.iaload, 1) := by decide +kernel
theorem dX12_roomIs_85 : decode cX12_roomIs 85 = .ok (.goto 5, 3) := by decide +kernel
theorem dX12_roomIs_88 : decode cX12_roomIs 88 = .ok (.bipush (-2), 2) := by decide +kernel
theorem dX12_roomIs_90 : decode cX12_roomIs 90 = .ok (.ireturn, 1) := by decide +kernel
theorem dX12_roomIs_91 : decode cX12_roomIs 91 = .ok (.aload_n 0, 1) := by decide +kernel
theorem dX12_roomIs_92 : decode cX12_roomIs 92 = .ok (.getfield 7, 3) := by decide +kernel
theorem dX12_roomIs_95 : decode cX12_roomIs 95 = .ok (.iconst 0, 1) := by decide +kernel
theorem dX12_roomIs_96 : decode cX12_roomIs 96 = .ok (.iload_n 1, 1) := by decide +kernel
theorem dX12_roomIs_97 : decode cX12_roomIs 97 = .ok (.iadd, 1) := by decide +kernel
theorem dX12_roomIs_98 : decode cX12_roomIs 98 = .ok (.iaload, 1) := by decide +kernel
theorem dX12_roomIs_99 : decode cX12_roomIs 99 = .ok (.ireturn, 1) := by decide +kernel
theorem dX12_roomIs_100 : decode cX12_roomIs 100 = .ok (.aload_n 0, 1) := by decide +kernel
theorem dX12_roomIs_101 : decode cX12_roomIs 101 = .ok (.getfield 7, 3) := by decide +kernel
theorem dX12_roomIs_104 : decode cX12_roomIs 104 = .ok (.bipush 48, 2) := by decide +kernel
theorem dX12_roomIs_106 : decode cX12_roomIs 106 = .ok (.iload_n 1, 1) := by decide +kernel
theorem dX12_roomIs_107 : decode cX12_roomIs 107 = .ok (.iadd, 1) := by decide +kernel
theorem dX12_roomIs_108 : decode cX12_roomIs 108 = .ok (.iaload, 1) := by decide +kernel
theorem dX12_roomIs_109 : decode cX12_roomIs 109 = .ok (.ireturn, 1) := by decide +kernel
theorem dX12_roomIs_110 : decode cX12_roomIs 110 = .ok (.aload_n 0, 1) := by decide +kernel
theorem dX12_roomIs_111 : decode cX12_roomIs 111 = .ok (.getfield 7, 3) := by decide +kernel
theorem dX12_roomIs_114 : decode cX12_roomIs 114 = .ok (.bipush 72, 2) := by decide +kernel
theorem dX12_roomIs_116 : decode cX12_roomIs 116 = .ok (.iload_n 1, 1) := by decide +kernel
theorem dX12_roomIs_117 : decode cX12_roomIs 117 = .ok (.iadd, 1) := by decide +kernel
theorem dX12_roomIs_118 : decode cX12_roomIs 118 = .ok (.iaload, 1) := by decide +kernel
theorem dX12_roomIs_119 : decode cX12_roomIs 119 = .ok (.ireturn, 1) := by decide +kernel
theorem dX12_roomIs_120 : decode cX12_roomIs 120 = .ok (.aload_n 0, 1) := by decide +kernel
theorem dX12_roomIs_121 : decode cX12_roomIs 121 = .ok (.getfield 7, 3) := by decide +kernel
theorem dX12_roomIs_124 : decode cX12_roomIs 124 = .ok (.bipush 96, 2) := by decide +kernel
theorem dX12_roomIs_126 : decode cX12_roomIs 126 = .ok (.iload_n 1, 1) := by decide +kernel
theorem dX12_roomIs_127 : decode cX12_roomIs 127 = .ok (.iadd, 1) := by decide +kernel
theorem dX12_roomIs_128 : decode cX12_roomIs 128 = .ok (.iaload, 1) := by decide +kernel
theorem dX12_roomIs_129 : decode cX12_roomIs 129 = .ok (.ireturn, 1) := by decide +kernel
theorem dX12_roomIs_130 : decode cX12_roomIs 130 = .ok (.aload_n 0, 1) := by decide +kernel
theorem dX12_roomIs_131 : decode cX12_roomIs 131 = .ok (.iload_n 1, 1) := by decide +kernel
theorem dX12_roomIs_132 : decode cX12_roomIs 132 = .ok (.invokevirtual 227, 3) := by decide +kernel
theorem dX12_roomIs_135 : decode cX12_roomIs 135 = .ok (.ireturn, 1) := by decide +kernel
theorem dX12_roomIs_136 : decode cX12_roomIs 136 = .ok (.iload_n 3, 1) := by decide +kernel
theorem dX12_roomIs_137 : decode cX12_roomIs 137 = .ok (.bipush (-2), 2) := by decide +kernel
theorem dX12_roomIs_139 : decode cX12_roomIs 139 = .ok (.if_icmp .ne 7, 3) := by decide +kernel
theorem dX12_roomIs_142 : decode cX12_roomIs 142 = .ok (.iconst 0, 1) := by decide +kernel
theorem dX12_roomIs_143 : decode cX12_roomIs 143 = .ok (.goto 13, 3) := by decide +kernel
theorem dX12_roomIs_146 : decode cX12_roomIs 146 = .ok (.aload_n 0, 1) := by decide +kernel
theorem dX12_roomIs_147 : decode cX12_roomIs 147 = .ok (.getfield 7, 3) := by decide +kernel
theorem dX12_roomIs_150 : decode cX12_roomIs 150 = .ok (.iload_n 1, 1) := by decide +kernel
theorem dX12_roomIs_151 : decode cX12_roomIs 151 = .ok (.iload_n 3, 1) := by decide +kernel
theorem dX12_roomIs_152 : decode cX12_roomIs 152 = .ok (.invokestatic 94, 3) := by decide +kernel
theorem dX12_roomIs_155 : decode cX12_roomIs 155 = .ok (.iaload, 1) := by decide +kernel
theorem dX12_roomIs_156 : decode cX12_roomIs 156 = .ok (.ireturn, 1) := by decide +kernel
theorem dX12_roomIs_157 : decode cX12_roomIs 157 = .ok (.iload_n 3, 1) := by decide +kernel
theorem dX12_roomIs_158 : decode cX12_roomIs 158 = .ok (.ireturn, 1) := by decide +kernel
theorem dX12_roomIs_159 : decode cX12_roomIs 159 = .ok (.iconst (-1), 1) := by decide +kernel
theorem dX12_roomIs_160 : decode cX12_roomIs 160 = .ok (.ireturn, 1) := by decide +kernel
theorem dX12_feels_0 : decode cX12_feels 0 = .ok (.iload_n 1, 1) := by decide +kernel
theorem dX12_feels_1 : decode cX12_feels 1 = .ok (.invokestatic 107, 3) := by decide +kernel
theorem dX12_feels_4 : decode cX12_feels 4 = .ok (.ifCond .eq 23, 3) := by decide +kernel
theorem dX12_feels_7 : decode cX12_feels 7 = .ok (.iload_n 2, 1) := by decide +kernel
theorem dX12_feels_8 : decode cX12_feels 8 = .ok (.invokestatic 107, 3) := by decide +kernel
theorem dX12_feels_11 : decode cX12_feels 11 = .ok (.ifCond .eq 16, 3) := by decide +kernel
theorem dX12_feels_14 : decode cX12_feels 14 = .ok (.aload_n 0, 1) := by decide +kernel
theorem dX12_feels_15 : decode cX12_feels 15 = .ok (.getfield 7, 3) := by decide +kernel
theorem dX12_feels_18 : decode cX12_feels 18 = .ok (.iload_n 1, 1) := by decide +kernel
theorem dX12_feels_19 : decode cX12_feels 19 = .ok (.iload_n 2, 1) := by decide +kernel
theorem dX12_feels_20 : decode cX12_feels 20 = .ok (.invokestatic 94, 3) := by decide +kernel
theorem dX12_feels_23 : decode cX12_feels 23 = .ok (.iaload, 1) := by decide +kernel
theorem dX12_feels_24 : decode cX12_feels 24 = .ok (.goto 4, 3) := by decide +kernel
theorem dX12_feels_27 : decode cX12_feels 27 = .ok (.iconst (-1), 1) := by decide +kernel
theorem dX12_feels_28 : decode cX12_feels 28 = .ok (.ireturn, 1) := by decide +kernel
theorem dX12_way_0 : decode cX12_way 0 = .ok (.iload_n 1, 1) := by decide +kernel
theorem dX12_way_1 : decode cX12_way 1 = .ok (.invokestatic 107, 3) := by decide +kernel
theorem dX12_way_4 : decode cX12_way 4 = .ok (.ifCond .ne 5, 3) := by decide +kernel
theorem dX12_way_7 : decode cX12_way 7 = .ok (.iconst (-1), 1) := by decide +kernel
theorem dX12_way_8 : decode cX12_way 8 = .ok (.ireturn, 1) := by decide +kernel
theorem dX12_way_9 : decode cX12_way 9 = .ok (.iload_n 2, 1) := by decide +kernel
theorem dX12_way_10 : decode cX12_way 10 = .ok (.iconst 0, 1) := by decide +kernel
theorem dX12_way_11 : decode cX12_way 11 = .ok (.iconst 5, 1) := by decide +kernel
theorem dX12_way_12 : decode cX12_way 12 = .ok (.iload_n 1, 1) := by decide +kernel
theorem dX12_way_13 : decode cX12_way 13 = .ok (.iconst 4, 1) := by decide +kernel
theorem dX12_way_14 : decode cX12_way 14 = .ok (.idiv, 1) := by decide +kernel
theorem dX12_way_15 : decode cX12_way 15 = .ok (.isub, 1) := by decide +kernel
theorem dX12_way_16 : decode cX12_way 16 = .ok (.invokestatic 90, 3) := by decide +kernel
theorem dX12_way_19 : decode cX12_way 19 = .ok (.ifCond .ne 6, 3) := by decide +kernel
theorem dX12_way_22 : decode cX12_way 22 = .ok (.bipush (-2), 2) := by decide +kernel
theorem dX12_way_24 : decode cX12_way 24 = .ok (.ireturn, 1) := by decide +kernel
theorem dX12_way_25 : decode cX12_way 25 = .ok (.iload_n 1, 1) := by decide +kernel
theorem dX12_way_26 : decode cX12_way 26 = .ok (.istore_n 3, 1) := by decide +kernel
theorem dX12_way_27 : decode cX12_way 27 = .ok (.iconst 0, 1) := by decide +kernel
theorem dX12_way_28 : decode cX12_way 28 = .ok (.istore 4, 2) := by decide +kernel
theorem dX12_way_30 : decode cX12_way 30 = .ok (.iload 4, 2) := by decide +kernel
theorem dX12_way_32 : decode cX12_way 32 = .ok (.iload_n 2, 1) := by decide +kernel
theorem dX12_way_33 : decode cX12_way 33 = .ok (.if_icmp .gt 15, 3) := by decide +kernel
theorem dX12_way_36 : decode cX12_way 36 = .ok (.aload_n 0, 1) := by decide +kernel
theorem dX12_way_37 : decode cX12_way 37 = .ok (.iload_n 3, 1) := by decide +kernel
theorem dX12_way_38 : decode cX12_way 38 = .ok (.invokevirtual 255, 3) := by decide +kernel
theorem dX12_way_41 : decode cX12_way 41 = .ok (.istore_n 3, 1) := by decide +kernel
theorem dX12_way_42 : decode cX12_way 42 = .ok (.iinc 4 1, 3) := by decide +kernel
theorem dX12_way_45 : decode cX12_way 45 = .ok (.goto (-15), 3) := by decide +kernel
theorem dX12_way_48 : decode cX12_way 48 = .ok (.iload_n 3, 1) := by decide +kernel
theorem dX12_way_49 : decode cX12_way 49 = .ok (.ireturn, 1) := by decide +kernel
theorem dX12_gcd_0 : decode cX12_gcd 0 = .ok (.iload_n 0, 1) := by decide +kernel
theorem dX12_gcd_1 : decode cX12_gcd 1 = .ok (.istore_n 2, 1) := by decide +kernel
theorem dX12_gcd_2 : decode cX12_gcd 2 = .ok (.iload_n 1, 1) := by decide +kernel
theorem dX12_gcd_3 : decode cX12_gcd 3 = .ok (.istore_n 3, 1) := by decide +kernel
theorem dX12_gcd_4 : decode cX12_gcd 4 = .ok (.iload_n 3, 1) := by decide +kernel
theorem dX12_gcd_5 : decode cX12_gcd 5 = .ok (.ifCond .eq 16, 3) := by decide +kernel
theorem dX12_gcd_8 : decode cX12_gcd 8 = .ok (.iload_n 2, 1) := by decide +kernel
theorem dX12_gcd_9 : decode cX12_gcd 9 = .ok (.iload_n 3, 1) := by decide +kernel
theorem dX12_gcd_10 : decode cX12_gcd 10 = .ok (.irem, 1) := by decide +kernel
theorem dX12_gcd_11 : decode cX12_gcd 11 = .ok (.istore 4, 2) := by decide +kernel
theorem dX12_gcd_13 : decode cX12_gcd 13 = .ok (.iload_n 3, 1) := by decide +kernel
theorem dX12_gcd_14 : decode cX12_gcd 14 = .ok (.istore_n 2, 1) := by decide +kernel
theorem dX12_gcd_15 : decode cX12_gcd 15 = .ok (.iload 4, 2) := by decide +kernel
theorem dX12_gcd_17 : decode cX12_gcd 17 = .ok (.istore_n 3, 1) := by decide +kernel
theorem dX12_gcd_18 : decode cX12_gcd 18 = .ok (.goto (-14), 3) := by decide +kernel
theorem dX12_gcd_21 : decode cX12_gcd 21 = .ok (.iload_n 2, 1) := by decide +kernel
theorem dX12_gcd_22 : decode cX12_gcd 22 = .ok (.ireturn, 1) := by decide +kernel
theorem dX12_odds_0 : decode cX12_odds 0 = .ok (.iload_n 1, 1) := by decide +kernel
theorem dX12_odds_1 : decode cX12_odds 1 = .ok (.invokestatic 107, 3) := by decide +kernel
theorem dX12_odds_4 : decode cX12_odds 4 = .ok (.ifCond .eq 33, 3) := by decide +kernel
theorem dX12_odds_7 : decode cX12_odds 7 = .ok (.iload_n 2, 1) := by decide +kernel
theorem dX12_odds_8 : decode cX12_odds 8 = .ok (.iconst 0, 1) := by decide +kernel
theorem dX12_odds_9 : decode cX12_odds 9 = .ok (.bipush 24, 2) := by decide +kernel
theorem dX12_odds_11 : decode cX12_odds 11 = .ok (.invokestatic 90, 3) := by decide +kernel
theorem dX12_odds_14 : decode cX12_odds 14 = .ok (.ifCond .eq 23, 3) := by decide +kernel
theorem dX12_odds_17 : decode cX12_odds 17 = .ok (.iload_n 3, 1) := by decide +kernel
theorem dX12_odds_18 : decode cX12_odds 18 = .ok (.iconst 0, 1) := by decide +kernel
theorem dX12_odds_19 : decode cX12_odds 19 = .ok (.bipush 10, 2) := by decide +kernel
theorem dX12_odds_21 : decode cX12_odds 21 = .ok (.invokestatic 90, 3) := by decide +kernel
theorem dX12_odds_24 : decode cX12_odds 24 = .ok (.ifCond .eq 13, 3) := by decide +kernel
theorem dX12_odds_27 : decode cX12_odds 27 = .ok (.iload 4, 2) := by decide +kernel
theorem dX12_odds_29 : decode cX12_odds 29 = .ok (.iconst 0, 1) := by decide +kernel
theorem dX12_odds_30 : decode cX12_odds 30 = .ok (.iconst 1, 1) := by decide +kernel
theorem dX12_odds_31 : decode cX12_odds 31 = .ok (.invokestatic 90, 3) := by decide +kernel
theorem dX12_odds_34 : decode cX12_odds 34 = .ok (.ifCond .ne 5, 3) := by decide +kernel
theorem dX12_odds_37 : decode cX12_odds 37 = .ok (.iconst (-1), 1) := by decide +kernel
theorem dX12_odds_38 : decode cX12_odds 38 = .ok (.ireturn, 1) := by decide +kernel
theorem dX12_odds_39 : decode cX12_odds 39 = .ok (.iconst 1, 1) := by decide +kernel
theorem dX12_odds_40 : decode cX12_odds 40 = .ok (.istore 5, 2) := by decide +kernel
theorem dX12_odds_42 : decode cX12_odds 42 = .ok (.iconst 1, 1) := by decide +kernel
theorem dX12_odds_43 : decode cX12_odds 43 = .ok (.istore 6, 2) := by decide +kernel
theorem dX12_odds_45 : decode cX12_odds 45 = .ok (.aload_n 0, 1) := by decide +kernel
theorem dX12_odds_46 : decode cX12_odds 46 = .ok (.iload_n 1, 1) := by decide +kernel
theorem dX12_odds_47 : decode cX12_odds 47 = .ok (.invokevirtual 255, 3) := by decide +kernel
theorem dX12_odds_50 : decode cX12_odds 50 = .ok (.istore 7, 2) := by decide +kernel
theorem dX12_odds_52 : decode cX12_odds 52 = .ok (.iload 7, 2) := by decide +kernel
theorem dX12_odds_54 : decode cX12_odds 54 = .ok (.bipush 24, 2) := by decide +kernel
theorem dX12_odds_56 : decode cX12_odds 56 = .ok (.if_icmp .eq 45, 3) := by decide +kernel
theorem dX12_odds_59 : decode cX12_odds 59 = .ok (.iload 7, 2) := by decide +kernel
theorem dX12_odds_61 : decode cX12_odds 61 = .ok (.iload_n 2, 1) := by decide +kernel
theorem dX12_odds_62 : decode cX12_odds 62 = .ok (.if_icmp .eq 39, 3) := by decide +kernel
theorem dX12_odds_65 : decode cX12_odds 65 = .ok (.aload_n 0, 1) := by decide +kernel
theorem dX12_odds_66 : decode cX12_odds 66 = .ok (.iload 7, 2) := by decide +kernel
theorem dX12_odds_68 : decode cX12_odds 68 = .ok (.invokevirtual 268, 3) := by decide +kernel
theorem dX12_odds_71 : decode cX12_odds 71 = .ok (.ifCond .eq 19, 3) := by decide +kernel
theorem dX12_odds_74 : decode cX12_odds 74 = .ok (.iload 5, 2) := by decide +kernel
theorem dX12_odds_76 : decode cX12_odds 76 = .ok (.bipush 10, 2) := by decide +kernel
theorem dX12_odds_78 : decode cX12_odds 78 = .ok (.iload_n 3, 1) := by decide +kernel
theorem dX12_odds_79 : decode cX12_odds 79 = .ok (.isub, 1) := by decide +kernel
theorem dX12_odds_80 : decode cX12_odds 80 = .ok (.imul, 1) := by decide +kernel
theorem dX12_odds_81 : decode cX12_odds 81 = .ok (.istore 5, 2) := by decide +kernel
theorem dX12_odds_83 : decode cX12_odds 83 = .ok (.iload 6, 2) := by decide +kernel
theorem dX12_odds_85 : decode cX12_odds 85 = .ok (.bipush 10, 2) := by decide +kernel
theorem dX12_odds_87 : decode cX12_odds 87 = .ok (.imul, 1) := by decide +kernel
theorem dX12_odds_88 : decode cX12_odds 88 = .ok (.istore 6, 2) := by decide +kernel
theorem dX12_odds_90 : decode cX12_odds 90 = .ok (.aload_n 0, 1) := by decide +kernel
theorem dX12_odds_91 : decode cX12_odds 91 = .ok (.iload 7, 2) := by decide +kernel
theorem dX12_odds_93 : decode cX12_odds 93 = .ok (.invokevirtual 255, 3) := by decide +kernel
theorem dX12_odds_96 : decode cX12_odds 96 = .ok (.istore 7, 2) := by decide +kernel
theorem dX12_odds_98 : decode cX12_odds 98 = .ok (.goto (-46), 3) := by decide +kernel
theorem dX12_odds_101 : decode cX12_odds 101 = .ok (.iload 7, 2) := by decide +kernel
theorem dX12_odds_103 : decode cX12_odds 103 = .ok (.iload_n 2, 1) := by decide +kernel
theorem dX12_odds_104 : decode cX12_odds 104 = .ok (.if_icmp .eq 6, 3) := by decide +kernel
theorem dX12_odds_107 : decode cX12_odds 107 = .ok (.iconst 0, 1) := by decide +kernel
theorem dX12_odds_108 : decode cX12_odds 108 = .ok (.istore 5, 2) := by decide +kernel
theorem dX12_odds_110 : decode cX12_odds 110 = .ok (.iload 7, 2) := by decide +kernel
theorem dX12_odds_112 : decode cX12_odds 112 = .ok (.iload_n 2, 1) := by decide +kernel
theorem dX12_odds_113 : decode cX12_odds 113 = .ok (.if_icmp .ne 34, 3) := by decide +kernel
theorem dX12_odds_116 : decode cX12_odds 116 = .ok (.iload_n 2, 1) := by decide +kernel
theorem dX12_odds_117 : decode cX12_odds 117 = .ok (.bipush 24, 2) := by decide +kernel
theorem dX12_odds_119 : decode cX12_odds 119 = .ok (.if_icmp .eq 28, 3) := by decide +kernel
theorem dX12_odds_122 : decode cX12_odds 122 = .ok (.aload_n 0, 1) := by decide +kernel
theorem dX12_odds_123 : decode cX12_odds 123 = .ok (.iload_n 2, 1) := by decide +kernel
theorem dX12_odds_124 : decode cX12_odds 124 = .ok (.invokevirtual 268, 3) := by decide +kernel
theorem dX12_odds_127 : decode cX12_odds 127 = .ok (.ifCond .eq 10, 3) := by decide +kernel
theorem dX12_odds_130 : decode cX12_odds 130 = .ok (.iload 5, 2) := by decide +kernel
theorem dX12_odds_132 : decode cX12_odds 132 = .ok (.iload_n 3, 1) := by decide +kernel
theorem dX12_odds_133 : decode cX12_odds 133 = .ok (.imul, 1) := by decide +kernel
theorem dX12_odds_134 : decode cX12_odds 134 = .ok (.goto 4, 3) := by decide +kernel
theorem dX12_odds_137 : decode cX12_odds 137 = .ok (.iconst 0, 1) := by decide +kernel
theorem dX12_odds_138 : decode cX12_odds 138 = .ok (.istore 5, 2) := by decide +kernel
theorem dX12_odds_140 : decode cX12_odds 140 = .ok (.iload 6, 2) := by decide +kernel
theorem dX12_odds_142 : decode cX12_odds 142 = .ok (.bipush 10, 2) := by decide +kernel
theorem dX12_odds_144 : decode cX12_odds 144 = .ok (.imul, 1) := by decide +kernel
theorem dX12_odds_145 : decode cX12_odds 145 = .ok (.istore 6, 2) := by decide +kernel
theorem dX12_odds_147 : decode cX12_odds 147 = .ok (.iload 6, 2) := by decide +kernel
theorem dX12_odds_149 : decode cX12_odds 149 = .ok (.iload 5, 2) := by decide +kernel
theorem dX12_odds_151 : decode cX12_odds 151 = .ok (.invokestatic 297, 3) := by decide +kernel
theorem dX12_odds_154 : decode cX12_odds 154 = .ok (.istore 8, 2) := by decide +kernel
theorem dX12_odds_156 : decode cX12_odds 156 = .ok (.iload 4, 2) := by decide +kernel
theorem dX12_odds_158 : decode cX12_odds 158 = .ok (.ifCond .ne 11, 3) := by decide +kernel
theorem dX12_odds_161 : decode cX12_odds 161 = .ok (.iload 5, 2) := by decide +kernel
theorem dX12_odds_163 : decode cX12_odds 163 = .ok (.iload 8, 2) := by decide +kernel
theorem dX12_odds_165 : decode cX12_odds 165 = .ok (.idiv, 1) := by decide +kernel
theorem dX12_odds_166 : decode cX12_odds 166 = .ok (.goto 8, 3) := by decide +kernel
theorem dX12_odds_169 : decode cX12_odds 169 = .ok (.iload 6, 2) := by decide +kernel
theorem dX12_odds_171 : decode cX12_odds 171 = .ok (.iload 8, 2) := by decide +kernel
theorem dX12_odds_173 : decode cX12_odds 173 = .ok (.idiv, 1) := by decide +kernel
theorem dX12_odds_174 : decode cX12_odds 174 = .ok (.ireturn, 1) := by decide +kernel
theorem dX12_passes_0 : decode cX12_passes 0 = .ok (.aload_n 0, 1) := by decide +kernel
theorem dX12_passes_1 : decode cX12_passes 1 = .ok (.iload_n 1, 1) := by decide +kernel
theorem dX12_passes_2 : decode cX12_passes 2 = .ok (.invokevirtual 255, 3) := by decide +kernel
theorem dX12_passes_5 : decode cX12_passes 5 = .ok (.istore_n 3, 1) := by decide +kernel
theorem dX12_passes_6 : decode cX12_passes 6 = .ok (.iload_n 3, 1) := by decide +kernel
theorem dX12_passes_7 : decode cX12_passes 7 = .ok (.bipush 24, 2) := by decide +kernel
theorem dX12_passes_9 : decode cX12_passes 9 = .ok (.if_icmp .eq 17, 3) := by decide +kernel
theorem dX12_passes_12 : decode cX12_passes 12 = .ok (.iload_n 3, 1) := by decide +kernel
theorem dX12_passes_13 : decode cX12_passes 13 = .ok (.iload_n 2, 1) := by decide +kernel
theorem dX12_passes_14 : decode cX12_passes 14 = .ok (.if_icmp .eq 12, 3) := by decide +kernel
theorem dX12_passes_17 : decode cX12_passes 17 = .ok (.aload_n 0, 1) := by decide +kernel
theorem dX12_passes_18 : decode cX12_passes 18 = .ok (.iload_n 3, 1) := by decide +kernel
theorem dX12_passes_19 : decode cX12_passes 19 = .ok (.invokevirtual 255, 3) := by decide +kernel
theorem dX12_passes_22 : decode cX12_passes 22 = .ok (.istore_n 3, 1) := by decide +kernel
theorem dX12_passes_23 : decode cX12_passes 23 = .ok (.goto (-17), 3) := by decide +kernel
theorem dX12_passes_26 : decode cX12_passes 26 = .ok (.iload_n 3, 1) := by decide +kernel
theorem dX12_passes_27 : decode cX12_passes 27 = .ok (.iload_n 2, 1) := by decide +kernel
theorem dX12_passes_28 : decode cX12_passes 28 = .ok (.if_icmp .ne 7, 3) := by decide +kernel
theorem dX12_passes_31 : decode cX12_passes 31 = .ok (.iconst 1, 1) := by decide +kernel
theorem dX12_passes_32 : decode cX12_passes 32 = .ok (.goto 4, 3) := by decide +kernel
theorem dX12_passes_35 : decode cX12_passes 35 = .ok (.iconst 0, 1) := by decide +kernel
theorem dX12_passes_36 : decode cX12_passes 36 = .ok (.ireturn, 1) := by decide +kernel
theorem dX12_fromWhere_0 : decode cX12_fromWhere 0 = .ok (.iload_n 1, 1) := by decide +kernel
theorem dX12_fromWhere_1 : decode cX12_fromWhere 1 = .ok (.invokestatic 107, 3) := by decide +kernel
theorem dX12_fromWhere_4 : decode cX12_fromWhere 4 = .ok (.ifCond .ne 5, 3) := by decide +kernel
theorem dX12_fromWhere_7 : decode cX12_fromWhere 7 = .ok (.iconst (-1), 1) := by decide +kernel
theorem dX12_fromWhere_8 : decode cX12_fromWhere 8 = .ok (.ireturn, 1) := by decide +kernel
theorem dX12_fromWhere_9 : decode cX12_fromWhere 9 = .ok (.iconst 0, 1) := by decide +kernel
theorem dX12_fromWhere_10 : decode cX12_fromWhere 10 = .ok (.istore_n 2, 1) := by decide +kernel
theorem dX12_fromWhere_11 : decode cX12_fromWhere 11 = .ok (.iconst 0, 1) := by decide +kernel
theorem dX12_fromWhere_12 : decode cX12_fromWhere 12 = .ok (.istore_n 3, 1) := by decide +kernel
theorem dX12_fromWhere_13 : decode cX12_fromWhere 13 = .ok (.iload_n 3, 1) := by decide +kernel
theorem dX12_fromWhere_14 : decode cX12_fromWhere 14 = .ok (.bipush 24, 2) := by decide +kernel
theorem dX12_fromWhere_16 : decode cX12_fromWhere 16 = .ok (.if_icmp .ge 24, 3) := by decide +kernel
theorem dX12_fromWhere_19 : decode cX12_fromWhere 19 = .ok (.aload_n 0, 1) := by decide +kernel
theorem dX12_fromWhere_20 : decode cX12_fromWhere 20 = .ok (.iload_n 3, 1) := by decide +kernel
theorem dX12_fromWhere_21 : decode cX12_fromWhere 21 = .ok (.iload_n 1, 1) := by decide +kernel
theorem dX12_fromWhere_22 : decode cX12_fromWhere 22 = .ok (.invokevirtual 300, 3) := by decide +kernel
theorem dX12_fromWhere_25 : decode cX12_fromWhere 25 = .ok (.ifCond .eq 9, 3) := by decide +kernel
theorem dX12_fromWhere_28 : decode cX12_fromWhere 28 = .ok (.iload_n 2, 1) := by decide +kernel
theorem dX12_fromWhere_29 : decode cX12_fromWhere 29 = .ok (.iconst 1, 1) := by decide +kernel
theorem dX12_fromWhere_30 : decode cX12_fromWhere 30 = .ok (.iload_n 3, 1) := by decide +kernel
theorem dX12_fromWhere_31 : decode cX12_fromWhere 31 = .ok (.ishl, 1) := by decide +kernel
theorem dX12_fromWhere_32 : decode cX12_fromWhere 32 = .ok (.ior, 1) := by decide +kernel
theorem dX12_fromWhere_33 : decode cX12_fromWhere 33 = .ok (.istore_n 2, 1) := by decide +kernel
theorem dX12_fromWhere_34 : decode cX12_fromWhere 34 = .ok (.iinc 3 1, 3) := by decide +kernel
theorem dX12_fromWhere_37 : decode cX12_fromWhere 37 = .ok (.goto (-24), 3) := by decide +kernel
theorem dX12_fromWhere_40 : decode cX12_fromWhere 40 = .ok (.iload_n 2, 1) := by decide +kernel
theorem dX12_fromWhere_41 : decode cX12_fromWhere 41 = .ok (.ireturn, 1) := by decide +kernel
theorem dX12_meet_0 : decode cX12_meet 0 = .ok (.iload_n 1, 1) := by decide +kernel
theorem dX12_meet_1 : decode cX12_meet 1 = .ok (.invokestatic 107, 3) := by decide +kernel
theorem dX12_meet_4 : decode cX12_meet 4 = .ok (.ifCond .eq 10, 3) := by decide +kernel
theorem dX12_meet_7 : decode cX12_meet 7 = .ok (.iload_n 2, 1) := by decide +kernel
theorem dX12_meet_8 : decode cX12_meet 8 = .ok (.invokestatic 107, 3) := by decide +kernel
theorem dX12_meet_11 : decode cX12_meet 11 = .ok (.ifCond .ne 5, 3) := by decide +kernel
theorem dX12_meet_14 : decode cX12_meet 14 = .ok (.iconst (-1), 1) := by decide +kernel
theorem dX12_meet_15 : decode cX12_meet 15 = .ok (.ireturn, 1) := by decide +kernel
theorem dX12_meet_16 : decode cX12_meet 16 = .ok (.iload_n 1, 1) := by decide +kernel
theorem dX12_meet_17 : decode cX12_meet 17 = .ok (.istore_n 3, 1) := by decide +kernel
theorem dX12_meet_18 : decode cX12_meet 18 = .ok (.iload_n 2, 1) := by decide +kernel
theorem dX12_meet_19 : decode cX12_meet 19 = .ok (.istore 4, 2) := by decide +kernel
theorem dX12_meet_21 : decode cX12_meet 21 = .ok (.iload_n 3, 1) := by decide +kernel
theorem dX12_meet_22 : decode cX12_meet 22 = .ok (.iload 4, 2) := by decide +kernel
theorem dX12_meet_24 : decode cX12_meet 24 = .ok (.if_icmp .eq 33, 3) := by decide +kernel
theorem dX12_meet_27 : decode cX12_meet 27 = .ok (.iload_n 3, 1) := by decide +kernel
theorem dX12_meet_28 : decode cX12_meet 28 = .ok (.iconst 4, 1) := by decide +kernel
theorem dX12_meet_29 : decode cX12_meet 29 = .ok (.idiv, 1) := by decide +kernel
theorem dX12_meet_30 : decode cX12_meet 30 = .ok (.iload 4, 2) := by decide +kernel
theorem dX12_meet_32 : decode cX12_meet 32 = .ok (.iconst 4, 1) := by decide +kernel
theorem dX12_meet_33 : decode cX12_meet 33 = .ok (.idiv, 1) := by decide +kernel
theorem dX12_meet_34 : decode cX12_meet 34 = .ok (.if_icmp .gt 12, 3) := by decide +kernel
theorem dX12_meet_37 : decode cX12_meet 37 = .ok (.aload_n 0, 1) := by decide +kernel
theorem dX12_meet_38 : decode cX12_meet 38 = .ok (.iload_n 3, 1) := by decide +kernel
theorem dX12_meet_39 : decode cX12_meet 39 = .ok (.invokevirtual 255, 3) := by decide +kernel
theorem dX12_meet_42 : decode cX12_meet 42 = .ok (.istore_n 3, 1) := by decide +kernel
theorem dX12_meet_43 : decode cX12_meet 43 = .ok (.goto (-22), 3) := by decide +kernel
theorem dX12_meet_46 : decode cX12_meet 46 = .ok (.aload_n 0, 1) := by decide +kernel
theorem dX12_meet_47 : decode cX12_meet 47 = .ok (.iload 4, 2) := by decide +kernel
theorem dX12_meet_49 : decode cX12_meet 49 = .ok (.invokevirtual 255, 3) := by decide +kernel
theorem dX12_meet_52 : decode cX12_meet 52 = .ok (.istore 4, 2) := by decide +kernel
theorem dX12_meet_54 : decode cX12_meet 54 = .ok (.goto (-33), 3) := by decide +kernel
theorem dX12_meet_57 : decode cX12_meet 57 = .ok (.iload_n 3, 1) := by decide +kernel
theorem dX12_meet_58 : decode cX12_meet 58 = .ok (.bipush 24, 2) := by decide +kernel
theorem dX12_meet_60 : decode cX12_meet 60 = .ok (.if_icmp .ne 8, 3) := by decide +kernel
theorem dX12_meet_63 : decode cX12_meet 63 = .ok (.bipush (-2), 2) := by decide +kernel
theorem dX12_meet_65 : decode cX12_meet 65 = .ok (.goto 4, 3) := by decide +kernel
theorem dX12_meet_68 : decode cX12_meet 68 = .ok (.iload_n 3, 1) := by decide +kernel
theorem dX12_meet_69 : decode cX12_meet 69 = .ok (.ireturn, 1) := by decide +kernel
theorem dX12_cowls_0 : decode cX12_cowls 0 = .ok (.iconst 0, 1) := by decide +kernel
theorem dX12_cowls_1 : decode cX12_cowls 1 = .ok (.istore_n 1, 1) := by decide +kernel
theorem dX12_cowls_2 : decode cX12_cowls 2 = .ok (.iconst 0, 1) := by decide +kernel
theorem dX12_cowls_3 : decode cX12_cowls 3 = .ok (.istore_n 2, 1) := by decide +kernel
theorem dX12_cowls_4 : decode cX12_cowls 4 = .ok (.iload_n 2, 1) := by decide +kernel
theorem dX12_cowls_5 : decode cX12_cowls 5 = .ok (.iconst 4, 1) := by decide +kernel
theorem dX12_cowls_6 : decode cX12_cowls 6 = .ok (.if_icmp .ge 20, 3) := by decide +kernel
theorem dX12_cowls_9 : decode cX12_cowls 9 = .ok (.iload_n 1, 1) := by decide +kernel
theorem dX12_cowls_10 : decode cX12_cowls 10 = .ok (.iconst 1, 1) := by decide +kernel
theorem dX12_cowls_11 : decode cX12_cowls 11 = .ok (.aload_n 0, 1) := by decide +kernel
theorem dX12_cowls_12 : decode cX12_cowls 12 = .ok (.iload_n 2, 1) := by decide +kernel
theorem dX12_cowls_13 : decode cX12_cowls 13 = .ok (.iconst 4, 1) := by decide +kernel
theorem dX12_cowls_14 : decode cX12_cowls 14 = .ok (.invokevirtual 303, 3) := by decide +kernel
theorem dX12_cowls_17 : decode cX12_cowls 17 = .ok (.ishl, 1) := by decide +kernel
theorem dX12_cowls_18 : decode cX12_cowls 18 = .ok (.ior, 1) := by decide +kernel
theorem dX12_cowls_19 : decode cX12_cowls 19 = .ok (.istore_n 1, 1) := by decide +kernel
theorem dX12_cowls_20 : decode cX12_cowls 20 = .ok (.iinc 2 1, 3) := by decide +kernel
theorem dX12_cowls_23 : decode cX12_cowls 23 = .ok (.goto (-19), 3) := by decide +kernel
theorem dX12_cowls_26 : decode cX12_cowls 26 = .ok (.iload_n 1, 1) := by decide +kernel
theorem dX12_cowls_27 : decode cX12_cowls 27 = .ok (.invokestatic 306, 3) := by decide +kernel
theorem dX12_cowls_30 : decode cX12_cowls 30 = .ok (.ireturn, 1) := by decide +kernel
theorem dX12_leads_0 : decode cX12_leads 0 = .ok (.iload_n 0, 1) := by decide +kernel
theorem dX12_leads_1 : decode cX12_leads 1 = .ok (.iload_n 1, 1) := by decide +kernel
theorem dX12_leads_2 : decode cX12_leads 2 = .ok (.invokestatic 104, 3) := by decide +kernel
theorem dX12_leads_5 : decode cX12_leads 5 = .ok (.iload_n 2, 1) := by decide +kernel
theorem dX12_leads_6 : decode cX12_leads 6 = .ok (.if_icmp .ne 7, 3) := by decide +kernel
theorem dX12_leads_9 : decode cX12_leads 9 = .ok (.iconst 1, 1) := by decide +kernel
theorem dX12_leads_10 : decode cX12_leads 10 = .ok (.goto 4, 3) := by decide +kernel
theorem dX12_leads_13 : decode cX12_leads 13 = .ok (.iconst 0, 1) := by decide +kernel
theorem dX12_leads_14 : decode cX12_leads 14 = .ok (.ireturn, 1) := by decide +kernel
theorem dX12_costOf_0 : decode cX12_costOf 0 = .ok (.iload_n 1, 1) := by decide +kernel
theorem dX12_costOf_1 : decode cX12_costOf 1 = .ok (.iconst 4, 1) := by decide +kernel
theorem dX12_costOf_2 : decode cX12_costOf 2 = .ok (.irem, 1) := by decide +kernel
theorem dX12_costOf_3 : decode cX12_costOf 3 = .ok (.aload_n 0, 1) := by decide +kernel
theorem dX12_costOf_4 : decode cX12_costOf 4 = .ok (.getfield 7, 3) := by decide +kernel
theorem dX12_costOf_7 : decode cX12_costOf 7 = .ok (.bipush 72, 2) := by decide +kernel
theorem dX12_costOf_9 : decode cX12_costOf 9 = .ok (.iload_n 1, 1) := by decide +kernel
theorem dX12_costOf_10 : decode cX12_costOf 10 = .ok (.iadd, 1) := by decide +kernel
theorem dX12_costOf_11 : decode cX12_costOf 11 = .ok (.iaload, 1) := by decide +kernel
theorem dX12_costOf_12 : decode cX12_costOf 12 = .ok (.iload_n 2, 1) := by decide +kernel
theorem dX12_costOf_13 : decode cX12_costOf 13 = .ok (.invokestatic 309, 3) := by decide +kernel
theorem dX12_costOf_16 : decode cX12_costOf 16 = .ok (.ifCond .eq 5, 3) := by decide +kernel
theorem dX12_costOf_19 : decode cX12_costOf 19 = .ok (.iconst 0, 1) := by decide +kernel
theorem dX12_costOf_20 : decode cX12_costOf 20 = .ok (.ireturn, 1) := by decide +kernel
theorem dX12_costOf_21 : decode cX12_costOf 21 = .ok (.iload_n 1, 1) := by decide +kernel
theorem dX12_costOf_22 : decode cX12_costOf 22 = .ok (.iconst 4, 1) := by decide +kernel
theorem dX12_costOf_23 : decode cX12_costOf 23 = .ok (.irem, 1) := by decide +kernel
theorem dX12_costOf_24 : decode cX12_costOf 24 = .ok (.iconst 0, 1) := by decide +kernel
theorem dX12_costOf_25 : decode cX12_costOf 25 = .ok (.iload_n 2, 1) := by decide +kernel
theorem dX12_costOf_26 : decode cX12_costOf 26 = .ok (.invokestatic 309, 3) := by decide +kernel
theorem dX12_costOf_29 : decode cX12_costOf 29 = .ok (.ifCond .ne 25, 3) := by decide +kernel
theorem dX12_costOf_32 : decode cX12_costOf 32 = .ok (.iload_n 1, 1) := by decide +kernel
theorem dX12_costOf_33 : decode cX12_costOf 33 = .ok (.iconst 4, 1) := by decide +kernel
theorem dX12_costOf_34 : decode cX12_costOf 34 = .ok (.irem, 1) := by decide +kernel
theorem dX12_costOf_35 : decode cX12_costOf 35 = .ok (.iconst 1, 1) := by decide +kernel
theorem dX12_costOf_36 : decode cX12_costOf 36 = .ok (.iload_n 2, 1) := by decide +kernel
theorem dX12_costOf_37 : decode cX12_costOf 37 = .ok (.invokestatic 309, 3) := by decide +kernel
theorem dX12_costOf_40 : decode cX12_costOf 40 = .ok (.ifCond .ne 14, 3) := by decide +kernel
theorem dX12_costOf_43 : decode cX12_costOf 43 = .ok (.iload_n 1, 1) := by decide +kernel
theorem dX12_costOf_44 : decode cX12_costOf 44 = .ok (.iconst 4, 1) := by decide +kernel
theorem dX12_costOf_45 : decode cX12_costOf 45 = .ok (.irem, 1) := by decide +kernel
theorem dX12_costOf_46 : decode cX12_costOf 46 = .ok (.iconst 2, 1) := by decide +kernel
theorem dX12_costOf_47 : decode cX12_costOf 47 = .ok (.iload_n 2, 1) := by decide +kernel
theorem dX12_costOf_48 : decode cX12_costOf 48 = .ok (.invokestatic 309, 3) := by decide +kernel
theorem dX12_costOf_51 : decode cX12_costOf 51 = .ok (.ifCond .eq 7, 3) := by decide +kernel
theorem dX12_costOf_54 : decode cX12_costOf 54 = .ok (.iconst 1, 1) := by decide +kernel
theorem dX12_costOf_55 : decode cX12_costOf 55 = .ok (.goto 4, 3) := by decide +kernel
theorem dX12_costOf_58 : decode cX12_costOf 58 = .ok (.iconst 0, 1) := by decide +kernel
theorem dX12_costOf_59 : decode cX12_costOf 59 = .ok (.istore_n 3, 1) := by decide +kernel
theorem dX12_costOf_60 : decode cX12_costOf 60 = .ok (.iload_n 3, 1) := by decide +kernel
theorem dX12_costOf_61 : decode cX12_costOf 61 = .ok (.ifCond .eq 7, 3) := by decide +kernel
theorem dX12_costOf_64 : decode cX12_costOf 64 = .ok (.iconst 1, 1) := by decide +kernel
theorem dX12_costOf_65 : decode cX12_costOf 65 = .ok (.goto 6, 3) := by decide +kernel
theorem dX12_costOf_68 : decode cX12_costOf 68 = .ok (.ldc_w 312, 3) := by decide +kernel
theorem dX12_costOf_71 : decode cX12_costOf 71 = .ok (.ireturn, 1) := by decide +kernel
theorem dX12_laysFewest_0 : decode cX12_laysFewest 0 = .ok (.iconst 0, 1) := by decide +kernel
theorem dX12_laysFewest_1 : decode cX12_laysFewest 1 = .ok (.istore_n 2, 1) := by decide +kernel
theorem dX12_laysFewest_2 : decode cX12_laysFewest 2 = .ok (.iload_n 2, 1) := by decide +kernel
theorem dX12_laysFewest_3 : decode cX12_laysFewest 3 = .ok (.bipush 24, 2) := by decide +kernel
theorem dX12_laysFewest_5 : decode cX12_laysFewest 5 = .ok (.if_icmp .ge 25, 3) := by decide +kernel
theorem dX12_laysFewest_8 : decode cX12_laysFewest 8 = .ok (.aload_n 0, 1) := by decide +kernel
theorem dX12_laysFewest_9 : decode cX12_laysFewest 9 = .ok (.getfield 62, 3) := by decide +kernel
theorem dX12_laysFewest_12 : decode cX12_laysFewest 12 = .ok (.iload_n 2, 1) := by decide +kernel
theorem dX12_laysFewest_13 : decode cX12_laysFewest 13 = .ok (.ldc_w 312, 3) := by decide +kernel
theorem dX12_laysFewest_16 : decode cX12_laysFewest 16 = .ok (.iastore, 1) := by decide +kernel
theorem dX12_laysFewest_17 : decode cX12_laysFewest 17 = .ok (.aload_n 0, 1) := by decide +kernel
theorem dX12_laysFewest_18 : decode cX12_laysFewest 18 = .ok (.getfield 65, 3) := by decide +kernel
theorem dX12_laysFewest_21 : decode cX12_laysFewest 21 = .ok (.iload_n 2, 1) := by decide +kernel
theorem dX12_laysFewest_22 : decode cX12_laysFewest 22 = .ok (.iconst 0, 1) := by decide +kernel
theorem dX12_laysFewest_23 : decode cX12_laysFewest 23 = .ok (.iastore, 1) := by decide +kernel
theorem dX12_laysFewest_24 : decode cX12_laysFewest 24 = .ok (.iinc 2 1, 3) := by decide +kernel
theorem dX12_laysFewest_27 : decode cX12_laysFewest 27 = .ok (.goto (-25), 3) := by decide +kernel
theorem dX12_laysFewest_30 : decode cX12_laysFewest 30 = .ok (.aload_n 0, 1) := by decide +kernel
theorem dX12_laysFewest_31 : decode cX12_laysFewest 31 = .ok (.getfield 62, 3) := by decide +kernel
theorem dX12_laysFewest_34 : decode cX12_laysFewest 34 = .ok (.iload_n 1, 1) := by decide +kernel
theorem dX12_laysFewest_35 : decode cX12_laysFewest 35 = .ok (.iconst 0, 1) := by decide +kernel
theorem dX12_laysFewest_36 : decode cX12_laysFewest 36 = .ok (.iastore, 1) := by decide +kernel
theorem dX12_laysFewest_37 : decode cX12_laysFewest 37 = .ok (.aload_n 0, 1) := by decide +kernel
theorem dX12_laysFewest_38 : decode cX12_laysFewest 38 = .ok (.getfield 65, 3) := by decide +kernel
theorem dX12_laysFewest_41 : decode cX12_laysFewest 41 = .ok (.iload_n 1, 1) := by decide +kernel
theorem dX12_laysFewest_42 : decode cX12_laysFewest 42 = .ok (.iconst 1, 1) := by decide +kernel
theorem dX12_laysFewest_43 : decode cX12_laysFewest 43 = .ok (.iastore, 1) := by decide +kernel
theorem dX12_laysFewest_44 : decode cX12_laysFewest 44 = .ok (.iload_n 1, 1) := by decide +kernel
theorem dX12_laysFewest_45 : decode cX12_laysFewest 45 = .ok (.iconst 4, 1) := by decide +kernel
theorem dX12_laysFewest_46 : decode cX12_laysFewest 46 = .ok (.idiv, 1) := by decide +kernel
theorem dX12_laysFewest_47 : decode cX12_laysFewest 47 = .ok (.iconst 4, 1) := by decide +kernel
theorem dX12_laysFewest_48 : decode cX12_laysFewest 48 = .ok (.imul, 1) := by decide +kernel
theorem dX12_laysFewest_49 : decode cX12_laysFewest 49 = .ok (.iconst 1, 1) := by decide +kernel
theorem dX12_laysFewest_50 : decode cX12_laysFewest 50 = .ok (.isub, 1) := by decide +kernel
theorem dX12_laysFewest_51 : decode cX12_laysFewest 51 = .ok (.istore_n 2, 1) := by decide +kernel
theorem dX12_laysFewest_52 : decode cX12_laysFewest 52 = .ok (.iload_n 2, 1) := by decide +kernel
theorem dX12_laysFewest_53 : decode cX12_laysFewest 53 = .ok (.ifCond .lt 94, 3) := by decide +kernel
theorem dX12_laysFewest_56 : decode cX12_laysFewest 56 = .ok (.iconst 0, 1) := by decide +kernel
theorem dX12_laysFewest_57 : decode cX12_laysFewest 57 = .ok (.istore_n 3, 1) := by decide +kernel
theorem dX12_laysFewest_58 : decode cX12_laysFewest 58 = .ok (.iload_n 3, 1) := by decide +kernel
theorem dX12_laysFewest_59 : decode cX12_laysFewest 59 = .ok (.iconst 4, 1) := by decide +kernel
theorem dX12_laysFewest_60 : decode cX12_laysFewest 60 = .ok (.if_icmp .ge 81, 3) := by decide +kernel
theorem dX12_laysFewest_63 : decode cX12_laysFewest 63 = .ok (.iload_n 2, 1) := by decide +kernel
theorem dX12_laysFewest_64 : decode cX12_laysFewest 64 = .ok (.iconst 4, 1) := by decide +kernel
theorem dX12_laysFewest_65 : decode cX12_laysFewest 65 = .ok (.idiv, 1) := by decide +kernel
theorem dX12_laysFewest_66 : decode cX12_laysFewest 66 = .ok (.iconst 4, 1) := by decide +kernel
theorem dX12_laysFewest_67 : decode cX12_laysFewest 67 = .ok (.imul, 1) := by decide +kernel
theorem dX12_laysFewest_68 : decode cX12_laysFewest 68 = .ok (.iconst 4, 1) := by decide +kernel
theorem dX12_laysFewest_69 : decode cX12_laysFewest 69 = .ok (.iadd, 1) := by decide +kernel
theorem dX12_laysFewest_70 : decode cX12_laysFewest 70 = .ok (.iload_n 3, 1) := by decide +kernel
theorem dX12_laysFewest_71 : decode cX12_laysFewest 71 = .ok (.iadd, 1) := by decide +kernel
theorem dX12_laysFewest_72 : decode cX12_laysFewest 72 = .ok (.istore 4, 2) := by decide +kernel
theorem dX12_laysFewest_74 : decode cX12_laysFewest 74 = .ok (.aload_n 0, 1) := by decide +kernel
theorem dX12_laysFewest_75 : decode cX12_laysFewest 75 = .ok (.getfield 62, 3) := by decide +kernel
theorem dX12_laysFewest_78 : decode cX12_laysFewest 78 = .ok (.iload_n 2, 1) := by decide +kernel
theorem dX12_laysFewest_79 : decode cX12_laysFewest 79 = .ok (.aload_n 0, 1) := by decide +kernel
theorem dX12_laysFewest_80 : decode cX12_laysFewest 80 = .ok (.getfield 62, 3) := by decide +kernel
theorem dX12_laysFewest_83 : decode cX12_laysFewest 83 = .ok (.iload_n 2, 1) := by decide +kernel
theorem dX12_laysFewest_84 : decode cX12_laysFewest 84 = .ok (.iaload, 1) := by decide +kernel
theorem dX12_laysFewest_85 : decode cX12_laysFewest 85 = .ok (.aload_n 0, 1) := by decide +kernel
theorem dX12_laysFewest_86 : decode cX12_laysFewest 86 = .ok (.iload_n 2, 1) := by decide +kernel
theorem dX12_laysFewest_87 : decode cX12_laysFewest 87 = .ok (.iload_n 3, 1) := by decide +kernel
theorem dX12_laysFewest_88 : decode cX12_laysFewest 88 = .ok (.invokevirtual 313, 3) := by decide +kernel
theorem dX12_laysFewest_91 : decode cX12_laysFewest 91 = .ok (.aload_n 0, 1) := by decide +kernel
theorem dX12_laysFewest_92 : decode cX12_laysFewest 92 = .ok (.getfield 62, 3) := by decide +kernel
theorem dX12_laysFewest_95 : decode cX12_laysFewest 95 = .ok (.iload 4, 2) := by decide +kernel
theorem dX12_laysFewest_97 : decode cX12_laysFewest 97 = .ok (.iaload, 1) := by decide +kernel
theorem dX12_laysFewest_98 : decode cX12_laysFewest 98 = .ok (.iadd, 1) := by decide +kernel
theorem dX12_laysFewest_99 : decode cX12_laysFewest 99 = .ok (.invokestatic 98, 3) := by decide +kernel
theorem dX12_laysFewest_102 : decode cX12_laysFewest 102 = .ok (.iastore, 1) := by decide +kernel
theorem dX12_laysFewest_103 : decode cX12_laysFewest 103 = .ok (.aload_n 0, 1) := by decide +kernel
theorem dX12_laysFewest_104 : decode cX12_laysFewest 104 = .ok (.iload_n 2, 1) := by decide +kernel
theorem dX12_laysFewest_105 : decode cX12_laysFewest 105 = .ok (.iload_n 3, 1) := by decide +kernel
theorem dX12_laysFewest_106 : decode cX12_laysFewest 106 = .ok (.invokevirtual 313, 3) := by decide +kernel
theorem dX12_laysFewest_109 : decode cX12_laysFewest 109 = .ok (.ldc_w 312, 3) := by decide +kernel
theorem dX12_laysFewest_112 : decode cX12_laysFewest 112 = .ok (.if_icmp .ge 23, 3) := by decide +kernel
theorem dX12_laysFewest_115 : decode cX12_laysFewest 115 = .ok (.aload_n 0, 1) := by decide +kernel
theorem dX12_laysFewest_116 : decode cX12_laysFewest 116 = .ok (.getfield 65, 3) := by decide +kernel
theorem dX12_laysFewest_119 : decode cX12_laysFewest 119 = .ok (.iload_n 2, 1) := by decide +kernel
theorem dX12_laysFewest_120 : decode cX12_laysFewest 120 = .ok (.aload_n 0, 1) := by decide +kernel
theorem dX12_laysFewest_121 : decode cX12_laysFewest 121 = .ok (.getfield 65, 3) := by decide +kernel
theorem dX12_laysFewest_124 : decode cX12_laysFewest 124 = .ok (.iload_n 2, 1) := by decide +kernel
theorem dX12_laysFewest_125 : decode cX12_laysFewest 125 = .ok (.iaload, 1) := by decide +kernel
theorem dX12_laysFewest_126 : decode cX12_laysFewest 126 = .ok (.aload_n 0, 1) := by decide +kernel
theorem dX12_laysFewest_127 : decode cX12_laysFewest 127 = .ok (.getfield 65, 3) := by decide +kernel
theorem dX12_laysFewest_130 : decode cX12_laysFewest 130 = .ok (.iload 4, 2) := by decide +kernel
theorem dX12_laysFewest_132 : decode cX12_laysFewest 132 = .ok (.iaload, 1) := by decide +kernel
theorem dX12_laysFewest_133 : decode cX12_laysFewest 133 = .ok (.iadd, 1) := by decide +kernel
theorem dX12_laysFewest_134 : decode cX12_laysFewest 134 = .ok (.iastore, 1) := by decide +kernel
theorem dX12_laysFewest_135 : decode cX12_laysFewest 135 = .ok (.iinc 3 1, 3) := by decide +kernel
theorem dX12_laysFewest_138 : decode cX12_laysFewest 138 = .ok (.goto (-80), 3) := by decide +kernel
theorem dX12_laysFewest_141 : decode cX12_laysFewest 141 = .ok (.iinc 2 (-1), 3) := by decide +kernel
theorem dX12_laysFewest_144 : decode cX12_laysFewest 144 = .ok (.goto (-92), 3) := by decide +kernel
theorem dX12_laysFewest_147 : decode cX12_laysFewest 147 = .ok (.return_, 1) := by decide +kernel
theorem dX12_turn_0 : decode cX12_turn 0 = .ok (.iload_n 1, 1) := by decide +kernel
theorem dX12_turn_1 : decode cX12_turn 1 = .ok (.invokestatic 107, 3) := by decide +kernel
theorem dX12_turn_4 : decode cX12_turn 4 = .ok (.ifCond .eq 34, 3) := by decide +kernel
theorem dX12_turn_7 : decode cX12_turn 7 = .ok (.iload_n 2, 1) := by decide +kernel
theorem dX12_turn_8 : decode cX12_turn 8 = .ok (.invokestatic 107, 3) := by decide +kernel
theorem dX12_turn_11 : decode cX12_turn 11 = .ok (.ifCond .eq 27, 3) := by decide +kernel
theorem dX12_turn_14 : decode cX12_turn 14 = .ok (.iload_n 2, 1) := by decide +kernel
theorem dX12_turn_15 : decode cX12_turn 15 = .ok (.iconst 4, 1) := by decide +kernel
theorem dX12_turn_16 : decode cX12_turn 16 = .ok (.idiv, 1) := by decide +kernel
theorem dX12_turn_17 : decode cX12_turn 17 = .ok (.iload_n 1, 1) := by decide +kernel
theorem dX12_turn_18 : decode cX12_turn 18 = .ok (.iconst 4, 1) := by decide +kernel
theorem dX12_turn_19 : decode cX12_turn 19 = .ok (.idiv, 1) := by decide +kernel
theorem dX12_turn_20 : decode cX12_turn 20 = .ok (.if_icmp .le 18, 3) := by decide +kernel
theorem dX12_turn_23 : decode cX12_turn 23 = .ok (.iload_n 3, 1) := by decide +kernel
theorem dX12_turn_24 : decode cX12_turn 24 = .ok (.iconst 0, 1) := by decide +kernel
theorem dX12_turn_25 : decode cX12_turn 25 = .ok (.iconst 4, 1) := by decide +kernel
theorem dX12_turn_26 : decode cX12_turn 26 = .ok (.invokestatic 90, 3) := by decide +kernel
theorem dX12_turn_29 : decode cX12_turn 29 = .ok (.ifCond .ne 11, 3) := by decide +kernel
theorem dX12_turn_32 : decode cX12_turn 32 = .ok (.iload_n 3, 1) := by decide +kernel
theorem dX12_turn_33 : decode cX12_turn 33 = .ok (.bipush 100, 2) := by decide +kernel
theorem dX12_turn_35 : decode cX12_turn 35 = .ok (.if_icmp .eq 5, 3) := by decide +kernel
theorem dX12_turn_38 : decode cX12_turn 38 = .ok (.iconst (-1), 1) := by decide +kernel
theorem dX12_turn_39 : decode cX12_turn 39 = .ok (.ireturn, 1) := by decide +kernel
theorem dX12_turn_40 : decode cX12_turn 40 = .ok (.aload_n 0, 1) := by decide +kernel
theorem dX12_turn_41 : decode cX12_turn 41 = .ok (.iload_n 2, 1) := by decide +kernel
theorem dX12_turn_42 : decode cX12_turn 42 = .ok (.invokevirtual 316, 3) := by decide +kernel
theorem dX12_turn_45 : decode cX12_turn 45 = .ok (.aload_n 0, 1) := by decide +kernel
theorem dX12_turn_46 : decode cX12_turn 46 = .ok (.getfield 62, 3) := by decide +kernel
theorem dX12_turn_49 : decode cX12_turn 49 = .ok (.iload_n 1, 1) := by decide +kernel
theorem dX12_turn_50 : decode cX12_turn 50 = .ok (.iaload, 1) := by decide +kernel
theorem dX12_turn_51 : decode cX12_turn 51 = .ok (.ldc_w 312, 3) := by decide +kernel
theorem dX12_turn_54 : decode cX12_turn 54 = .ok (.if_icmp .lt 6, 3) := by decide +kernel
theorem dX12_turn_57 : decode cX12_turn 57 = .ok (.bipush (-2), 2) := by decide +kernel
theorem dX12_turn_59 : decode cX12_turn 59 = .ok (.ireturn, 1) := by decide +kernel
theorem dX12_turn_60 : decode cX12_turn 60 = .ok (.iload_n 3, 1) := by decide +kernel
theorem dX12_turn_61 : decode cX12_turn 61 = .ok (.bipush 100, 2) := by decide +kernel
theorem dX12_turn_63 : decode cX12_turn 63 = .ok (.if_icmp .ne 10, 3) := by decide +kernel
theorem dX12_turn_66 : decode cX12_turn 66 = .ok (.aload_n 0, 1) := by decide +kernel
theorem dX12_turn_67 : decode cX12_turn 67 = .ok (.getfield 62, 3) := by decide +kernel
theorem dX12_turn_70 : decode cX12_turn 70 = .ok (.iload_n 1, 1) := by decide +kernel
theorem dX12_turn_71 : decode cX12_turn 71 = .ok (.iaload, 1) := by decide +kernel
theorem dX12_turn_72 : decode cX12_turn 72 = .ok (.ireturn, 1) := by decide +kernel
theorem dX12_turn_73 : decode cX12_turn 73 = .ok (.iload_n 3, 1) := by decide +kernel
theorem dX12_turn_74 : decode cX12_turn 74 = .ok (.iload_n 2, 1) := by decide +kernel
theorem dX12_turn_75 : decode cX12_turn 75 = .ok (.iconst 4, 1) := by decide +kernel
theorem dX12_turn_76 : decode cX12_turn 76 = .ok (.idiv, 1) := by decide +kernel
theorem dX12_turn_77 : decode cX12_turn 77 = .ok (.iload_n 1, 1) := by decide +kernel
theorem dX12_turn_78 : decode cX12_turn 78 = .ok (.iconst 4, 1) := by decide +kernel
theorem dX12_turn_79 : decode cX12_turn 79 = .ok (.idiv, 1) := by decide +kernel
theorem dX12_turn_80 : decode cX12_turn 80 = .ok (.isub, 1) := by decide +kernel
theorem dX12_turn_81 : decode cX12_turn 81 = .ok (.if_icmp .lt 6, 3) := by decide +kernel
theorem dX12_turn_84 : decode cX12_turn 84 = .ok (.bipush (-4), 2) := by decide +kernel
theorem dX12_turn_86 : decode cX12_turn 86 = .ok (.ireturn, 1) := by decide +kernel
theorem dX12_turn_87 : decode cX12_turn 87 = .ok (.iload_n 1, 1) := by decide +kernel
theorem dX12_turn_88 : decode cX12_turn 88 = .ok (.istore 4, 2) := by decide +kernel
theorem dX12_turn_90 : decode cX12_turn 90 = .ok (.iconst 0, 1) := by decide +kernel
theorem dX12_turn_91 : decode cX12_turn 91 = .ok (.istore 5, 2) := by decide +kernel
theorem dX12_turn_93 : decode cX12_turn 93 = .ok (.iload 5, 2) := by decide +kernel
theorem dX12_turn_95 : decode cX12_turn 95 = .ok (.iload_n 3, 1) := by decide +kernel
theorem dX12_turn_96 : decode cX12_turn 96 = .ok (.if_icmp .gt 69, 3) := by decide +kernel
theorem dX12_turn_99 : decode cX12_turn 99 = .ok (.iconst 0, 1) := by decide +kernel
theorem dX12_turn_100 : decode cX12_turn 100 = .ok (.istore 6, 2) := by decide +kernel
theorem dX12_turn_102 : decode cX12_turn 102 = .ok (.aload_n 0, 1) := by decide +kernel
theorem dX12_turn_103 : decode cX12_turn 103 = .ok (.iload 4, 2) := by decide +kernel
theorem dX12_turn_105 : decode cX12_turn 105 = .ok (.iload 6, 2) := by decide +kernel
theorem dX12_turn_107 : decode cX12_turn 107 = .ok (.invokevirtual 313, 3) := by decide +kernel
theorem dX12_turn_110 : decode cX12_turn 110 = .ok (.aload_n 0, 1) := by decide +kernel
theorem dX12_turn_111 : decode cX12_turn 111 = .ok (.getfield 62, 3) := by decide +kernel
theorem dX12_turn_114 : decode cX12_turn 114 = .ok (.iload 4, 2) := by decide +kernel
theorem dX12_turn_116 : decode cX12_turn 116 = .ok (.iconst 4, 1) := by decide +kernel
theorem dX12_turn_117 : decode cX12_turn 117 = .ok (.idiv, 1) := by decide +kernel
theorem dX12_turn_118 : decode cX12_turn 118 = .ok (.iconst 4, 1) := by decide +kernel
theorem dX12_turn_119 : decode cX12_turn 119 = .ok (.imul, 1) := by decide +kernel
theorem dX12_turn_120 : decode cX12_turn 120 = .ok (.iconst 4, 1) := by decide +kernel
theorem dX12_turn_121 : decode cX12_turn 121 = .ok (.iadd, 1) := by decide +kernel
theorem dX12_turn_122 : decode cX12_turn 122 = .ok (.iload 6, 2) := by decide +kernel
theorem dX12_turn_124 : decode cX12_turn 124 = .ok (.iadd, 1) := by decide +kernel
theorem dX12_turn_125 : decode cX12_turn 125 = .ok (.iaload, 1) := by decide +kernel
theorem dX12_turn_126 : decode cX12_turn 126 = .ok (.iadd, 1) := by decide +kernel
theorem dX12_turn_127 : decode cX12_turn 127 = .ok (.aload_n 0, 1) := by decide +kernel
theorem dX12_turn_128 : decode cX12_turn 128 = .ok (.getfield 62, 3) := by decide +kernel
theorem dX12_turn_131 : decode cX12_turn 131 = .ok (.iload 4, 2) := by decide +kernel
theorem dX12_turn_133 : decode cX12_turn 133 = .ok (.iaload, 1) := by decide +kernel
theorem dX12_turn_134 : decode cX12_turn 134 = .ok (.if_icmp .eq 12, 3) := by decide +kernel
theorem dX12_turn_137 : decode cX12_turn 137 = .ok (.iload 6, 2) := by decide +kernel
theorem dX12_turn_139 : decode cX12_turn 139 = .ok (.iconst 1, 1) := by decide +kernel
theorem dX12_turn_140 : decode cX12_turn 140 = .ok (.iadd, 1) := by decide +kernel
theorem dX12_turn_141 : decode cX12_turn 141 = .ok (.istore 6, 2) := by decide +kernel
theorem dX12_turn_143 : decode cX12_turn 143 = .ok (.goto (-41), 3) := by decide +kernel
theorem dX12_turn_146 : decode cX12_turn 146 = .ok (.iload 4, 2) := by decide +kernel
theorem dX12_turn_148 : decode cX12_turn 148 = .ok (.iconst 4, 1) := by decide +kernel
theorem dX12_turn_149 : decode cX12_turn 149 = .ok (.idiv, 1) := by decide +kernel
theorem dX12_turn_150 : decode cX12_turn 150 = .ok (.iconst 4, 1) := by decide +kernel
theorem dX12_turn_151 : decode cX12_turn 151 = .ok (.imul, 1) := by decide +kernel
theorem dX12_turn_152 : decode cX12_turn 152 = .ok (.iconst 4, 1) := by decide +kernel
theorem dX12_turn_153 : decode cX12_turn 153 = .ok (.iadd, 1) := by decide +kernel
theorem dX12_turn_154 : decode cX12_turn 154 = .ok (.iload 6, 2) := by decide +kernel
theorem dX12_turn_156 : decode cX12_turn 156 = .ok (.iadd, 1) := by decide +kernel
theorem dX12_turn_157 : decode cX12_turn 157 = .ok (.istore 4, 2) := by decide +kernel
theorem dX12_turn_159 : decode cX12_turn 159 = .ok (.iinc 5 1, 3) := by decide +kernel
theorem dX12_turn_162 : decode cX12_turn 162 = .ok (.goto (-69), 3) := by decide +kernel
theorem dX12_turn_165 : decode cX12_turn 165 = .ok (.iload 4, 2) := by decide +kernel
theorem dX12_turn_167 : decode cX12_turn 167 = .ok (.iconst 4, 1) := by decide +kernel
theorem dX12_turn_168 : decode cX12_turn 168 = .ok (.irem, 1) := by decide +kernel
theorem dX12_turn_169 : decode cX12_turn 169 = .ok (.ireturn, 1) := by decide +kernel
theorem dX12_ways_0 : decode cX12_ways 0 = .ok (.iload_n 1, 1) := by decide +kernel
theorem dX12_ways_1 : decode cX12_ways 1 = .ok (.invokestatic 107, 3) := by decide +kernel
theorem dX12_ways_4 : decode cX12_ways 4 = .ok (.ifCond .eq 19, 3) := by decide +kernel
theorem dX12_ways_7 : decode cX12_ways 7 = .ok (.iload_n 2, 1) := by decide +kernel
theorem dX12_ways_8 : decode cX12_ways 8 = .ok (.invokestatic 107, 3) := by decide +kernel
theorem dX12_ways_11 : decode cX12_ways 11 = .ok (.ifCond .eq 12, 3) := by decide +kernel
theorem dX12_ways_14 : decode cX12_ways 14 = .ok (.iload_n 2, 1) := by decide +kernel
theorem dX12_ways_15 : decode cX12_ways 15 = .ok (.iconst 4, 1) := by decide +kernel
theorem dX12_ways_16 : decode cX12_ways 16 = .ok (.idiv, 1) := by decide +kernel
theorem dX12_ways_17 : decode cX12_ways 17 = .ok (.iload_n 1, 1) := by decide +kernel
theorem dX12_ways_18 : decode cX12_ways 18 = .ok (.iconst 4, 1) := by decide +kernel
theorem dX12_ways_19 : decode cX12_ways 19 = .ok (.idiv, 1) := by decide +kernel
theorem dX12_ways_20 : decode cX12_ways 20 = .ok (.if_icmp .gt 5, 3) := by decide +kernel
theorem dX12_ways_23 : decode cX12_ways 23 = .ok (.iconst (-1), 1) := by decide +kernel
theorem dX12_ways_24 : decode cX12_ways 24 = .ok (.ireturn, 1) := by decide +kernel
theorem dX12_ways_25 : decode cX12_ways 25 = .ok (.aload_n 0, 1) := by decide +kernel
theorem dX12_ways_26 : decode cX12_ways 26 = .ok (.iload_n 2, 1) := by decide +kernel
theorem dX12_ways_27 : decode cX12_ways 27 = .ok (.invokevirtual 316, 3) := by decide +kernel
theorem dX12_ways_30 : decode cX12_ways 30 = .ok (.aload_n 0, 1) := by decide +kernel
theorem dX12_ways_31 : decode cX12_ways 31 = .ok (.getfield 65, 3) := by decide +kernel
theorem dX12_ways_34 : decode cX12_ways 34 = .ok (.iload_n 1, 1) := by decide +kernel
theorem dX12_ways_35 : decode cX12_ways 35 = .ok (.iaload, 1) := by decide +kernel
theorem dX12_ways_36 : decode cX12_ways 36 = .ok (.ireturn, 1) := by decide +kernel
theorem dX12_belowOf_0 : decode cX12_belowOf 0 = .ok (.lconst 0, 1) := by decide +kernel
theorem dX12_belowOf_1 : decode cX12_belowOf 1 = .ok (.lstore_n 3, 1) := by decide +kernel
theorem dX12_belowOf_2 : decode cX12_belowOf 2 = .ok (.iload_n 1, 1) := by decide +kernel
theorem dX12_belowOf_3 : decode cX12_belowOf 3 = .ok (.iconst 4, 1) := by decide +kernel
theorem dX12_belowOf_4 : decode cX12_belowOf 4 = .ok (.idiv, 1) := by decide +kernel
theorem dX12_belowOf_5 : decode cX12_belowOf 5 = .ok (.iconst 4, 1) := by decide +kernel
theorem dX12_belowOf_6 : decode cX12_belowOf 6 = .ok (.imul, 1) := by decide +kernel
theorem dX12_belowOf_7 : decode cX12_belowOf 7 = .ok (.iconst 4, 1) := by decide +kernel
theorem dX12_belowOf_8 : decode cX12_belowOf 8 = .ok (.isub, 1) := by decide +kernel
theorem dX12_belowOf_9 : decode cX12_belowOf 9 = .ok (.istore 5, 2) := by decide +kernel
theorem dX12_belowOf_11 : decode cX12_belowOf 11 = .ok (.iload 5, 2) := by decide +kernel
theorem dX12_belowOf_13 : decode cX12_belowOf 13 = .ok (.iload_n 1, 1) := by decide +kernel
theorem dX12_belowOf_14 : decode cX12_belowOf 14 = .ok (.iconst 4, 1) := by decide +kernel
theorem dX12_belowOf_15 : decode cX12_belowOf 15 = .ok (.idiv, 1) := by decide +kernel
theorem dX12_belowOf_16 : decode cX12_belowOf 16 = .ok (.iconst 4, 1) := by decide +kernel
theorem dX12_belowOf_17 : decode cX12_belowOf 17 = .ok (.imul, 1) := by decide +kernel
theorem dX12_belowOf_18 : decode cX12_belowOf 18 = .ok (.if_icmp .ge 48, 3) := by decide +kernel
theorem dX12_belowOf_21 : decode cX12_belowOf 21 = .ok (.iload 5, 2) := by decide +kernel
theorem dX12_belowOf_23 : decode cX12_belowOf 23 = .ok (.ifCond .lt 37, 3) := by decide +kernel
theorem dX12_belowOf_26 : decode cX12_belowOf 26 = .ok (.aload_n 0, 1) := by decide +kernel
theorem dX12_belowOf_27 : decode cX12_belowOf 27 = .ok (.iload 5, 2) := by decide +kernel
theorem dX12_belowOf_29 : decode cX12_belowOf 29 = .ok (.invokevirtual 255, 3) := by decide +kernel
theorem dX12_belowOf_32 : decode cX12_belowOf 32 = .ok (.iload_n 1, 1) := by decide +kernel
theorem dX12_belowOf_33 : decode cX12_belowOf 33 = .ok (.if_icmp .ne 27, 3) := by decide +kernel
theorem dX12_belowOf_36 : decode cX12_belowOf 36 = .ok (.lload_n 3, 1) := by decide +kernel
theorem dX12_belowOf_37 : decode cX12_belowOf 37 = .ok (.iload_n 2, 1) := by decide +kernel
theorem dX12_belowOf_38 : decode cX12_belowOf 38 = .ok (.ifCond .eq 13, 3) := by decide +kernel
theorem dX12_belowOf_41 : decode cX12_belowOf 41 = .ok (.aload_n 0, 1) := by decide +kernel
theorem dX12_belowOf_42 : decode cX12_belowOf 42 = .ok (.getfield 68, 3) := by decide +kernel
theorem dX12_belowOf_45 : decode cX12_belowOf 45 = .ok (.iload 5, 2) := by decide +kernel
theorem dX12_belowOf_47 : decode cX12_belowOf 47 = .ok (.laload, 1) := by decide +kernel
theorem dX12_belowOf_48 : decode cX12_belowOf 48 = .ok (.goto 10, 3) := by decide +kernel
theorem dX12_belowOf_51 : decode cX12_belowOf 51 = .ok (.aload_n 0, 1) := by decide +kernel
theorem dX12_belowOf_52 : decode cX12_belowOf 52 = .ok (.getfield 72, 3) := by decide +kernel
theorem dX12_belowOf_55 : decode cX12_belowOf 55 = .ok (.iload 5, 2) := by decide +kernel
theorem dX12_belowOf_57 : decode cX12_belowOf 57 = .ok (.laload, 1) := by decide +kernel
theorem dX12_belowOf_58 : decode cX12_belowOf 58 = .ok (.ladd, 1) := by decide +kernel
theorem dX12_belowOf_59 : decode cX12_belowOf 59 = .ok (.lstore_n 3, 1) := by decide +kernel
theorem dX12_belowOf_60 : decode cX12_belowOf 60 = .ok (.iinc 5 1, 3) := by decide +kernel
theorem dX12_belowOf_63 : decode cX12_belowOf 63 = .ok (.goto (-52), 3) := by decide +kernel
theorem dX12_belowOf_66 : decode cX12_belowOf 66 = .ok (.lload_n 3, 1) := by decide +kernel
theorem dX12_belowOf_67 : decode cX12_belowOf 67 = .ok (.lreturn, 1) := by decide +kernel
theorem dX12_bestOf_0 : decode cX12_bestOf 0 = .ok (.aload_n 0, 1) := by decide +kernel
theorem dX12_bestOf_1 : decode cX12_bestOf 1 = .ok (.iload_n 1, 1) := by decide +kernel
theorem dX12_bestOf_2 : decode cX12_bestOf 2 = .ok (.invokevirtual 268, 3) := by decide +kernel
theorem dX12_bestOf_5 : decode cX12_bestOf 5 = .ok (.ifCond .ne 10, 3) := by decide +kernel
theorem dX12_bestOf_8 : decode cX12_bestOf 8 = .ok (.aload_n 0, 1) := by decide +kernel
theorem dX12_bestOf_9 : decode cX12_bestOf 9 = .ok (.iload_n 1, 1) := by decide +kernel
theorem dX12_bestOf_10 : decode cX12_bestOf 10 = .ok (.iload_n 3, 1) := by decide +kernel
theorem dX12_bestOf_11 : decode cX12_bestOf 11 = .ok (.invokevirtual 319, 3) := by decide +kernel
theorem dX12_bestOf_14 : decode cX12_bestOf 14 = .ok (.lreturn, 1) := by decide +kernel
theorem dX12_bestOf_15 : decode cX12_bestOf 15 = .ok (.ldc2_w 323, 3) := by decide +kernel
theorem dX12_bestOf_18 : decode cX12_bestOf 18 = .ok (.lconst 1, 1) := by decide +kernel
theorem dX12_bestOf_19 : decode cX12_bestOf 19 = .ok (.iload_n 1, 1) := by decide +kernel
theorem dX12_bestOf_20 : decode cX12_bestOf 20 = .ok (.lshl, 1) := by decide +kernel
theorem dX12_bestOf_21 : decode cX12_bestOf 21 = .ok (.ladd, 1) := by decide +kernel
theorem dX12_bestOf_22 : decode cX12_bestOf 22 = .ok (.aload_n 0, 1) := by decide +kernel
theorem dX12_bestOf_23 : decode cX12_bestOf 23 = .ok (.iload_n 1, 1) := by decide +kernel
theorem dX12_bestOf_24 : decode cX12_bestOf 24 = .ok (.iload_n 3, 1) := by decide +kernel
theorem dX12_bestOf_25 : decode cX12_bestOf 25 = .ok (.invokevirtual 319, 3) := by decide +kernel
theorem dX12_bestOf_28 : decode cX12_bestOf 28 = .ok (.ladd, 1) := by decide +kernel
theorem dX12_bestOf_29 : decode cX12_bestOf 29 = .ok (.lstore 4, 2) := by decide +kernel
theorem dX12_bestOf_31 : decode cX12_bestOf 31 = .ok (.iload_n 2, 1) := by decide +kernel
theorem dX12_bestOf_32 : decode cX12_bestOf 32 = .ok (.ifCond .eq 10, 3) := by decide +kernel
theorem dX12_bestOf_35 : decode cX12_bestOf 35 = .ok (.iload_n 3, 1) := by decide +kernel
theorem dX12_bestOf_36 : decode cX12_bestOf 36 = .ok (.ifCond .eq 6, 3) := by decide +kernel
theorem dX12_bestOf_39 : decode cX12_bestOf 39 = .ok (.lload 4, 2) := by decide +kernel
theorem dX12_bestOf_41 : decode cX12_bestOf 41 = .ok (.lreturn, 1) := by decide +kernel
theorem dX12_bestOf_42 : decode cX12_bestOf 42 = .ok (.aload_n 0, 1) := by decide +kernel
theorem dX12_bestOf_43 : decode cX12_bestOf 43 = .ok (.iload_n 1, 1) := by decide +kernel
theorem dX12_bestOf_44 : decode cX12_bestOf 44 = .ok (.iconst 1, 1) := by decide +kernel
theorem dX12_bestOf_45 : decode cX12_bestOf 45 = .ok (.invokevirtual 319, 3) := by decide +kernel
theorem dX12_bestOf_48 : decode cX12_bestOf 48 = .ok (.lstore 6, 2) := by decide +kernel
theorem dX12_bestOf_50 : decode cX12_bestOf 50 = .ok (.lload 6, 2) := by decide +kernel
theorem dX12_bestOf_52 : decode cX12_bestOf 52 = .ok (.lload 4, 2) := by decide +kernel
theorem dX12_bestOf_54 : decode cX12_bestOf 54 = .ok (.lcmp, 1) := by decide +kernel
theorem dX12_bestOf_55 : decode cX12_bestOf 55 = .ok (.ifCond .ge 8, 3) := by decide +kernel
theorem dX12_bestOf_58 : decode cX12_bestOf 58 = .ok (.lload 6, 2) := by decide +kernel
theorem dX12_bestOf_60 : decode cX12_bestOf 60 = .ok (.goto 5, 3) := by decide +kernel
theorem dX12_bestOf_63 : decode cX12_bestOf 63 = .ok (.lload 4, 2) := by decide +kernel
theorem dX12_bestOf_65 : decode cX12_bestOf 65 = .ok (.lreturn, 1) := by decide +kernel
theorem dX12_stockings_0 : decode cX12_stockings 0 = .ok (.iload_n 1, 1) := by decide +kernel
theorem dX12_stockings_1 : decode cX12_stockings 1 = .ok (.iconst 0, 1) := by decide +kernel
theorem dX12_stockings_2 : decode cX12_stockings 2 = .ok (.ldc_w 325, 3) := by decide +kernel
theorem dX12_stockings_5 : decode cX12_stockings 5 = .ok (.invokestatic 90, 3) := by decide +kernel
theorem dX12_stockings_8 : decode cX12_stockings 8 = .ok (.ifCond .eq 12, 3) := by decide +kernel
theorem dX12_stockings_11 : decode cX12_stockings 11 = .ok (.iload_n 2, 1) := by decide +kernel
theorem dX12_stockings_12 : decode cX12_stockings 12 = .ok (.iconst 0, 1) := by decide +kernel
theorem dX12_stockings_13 : decode cX12_stockings 13 = .ok (.iconst 1, 1) := by decide +kernel
theorem dX12_stockings_14 : decode cX12_stockings 14 = .ok (.invokestatic 90, 3) := by decide +kernel
theorem dX12_stockings_17 : decode cX12_stockings 17 = .ok (.ifCond .ne 5, 3) := by decide +kernel
theorem dX12_stockings_20 : decode cX12_stockings 20 = .ok (.iconst (-1), 1) := by decide +kernel
theorem dX12_stockings_21 : decode cX12_stockings 21 = .ok (.ireturn, 1) := by decide +kernel
theorem dX12_stockings_22 : decode cX12_stockings 22 = .ok (.lconst 0, 1) := by decide +kernel
theorem dX12_stockings_23 : decode cX12_stockings 23 = .ok (.lstore_n 3, 1) := by decide +kernel
theorem dX12_stockings_24 : decode cX12_stockings 24 = .ok (.iconst 0, 1) := by decide +kernel
theorem dX12_stockings_25 : decode cX12_stockings 25 = .ok (.istore 5, 2) := by decide +kernel
theorem dX12_stockings_27 : decode cX12_stockings 27 = .ok (.iload 5, 2) := by decide +kernel
theorem dX12_stockings_29 : decode cX12_stockings 29 = .ok (.bipush 24, 2) := by decide +kernel
theorem dX12_stockings_31 : decode cX12_stockings 31 = .ok (.if_icmp .ge 67, 3) := by decide +kernel
theorem dX12_stockings_34 : decode cX12_stockings 34 = .ok (.aload_n 0, 1) := by decide +kernel
theorem dX12_stockings_35 : decode cX12_stockings 35 = .ok (.getfield 68, 3) := by decide +kernel
theorem dX12_stockings_38 : decode cX12_stockings 38 = .ok (.iload 5, 2) := by decide +kernel
theorem dX12_stockings_40 : decode cX12_stockings 40 = .ok (.aload_n 0, 1) := by decide +kernel
theorem dX12_stockings_41 : decode cX12_stockings 41 = .ok (.iload 5, 2) := by decide +kernel
theorem dX12_stockings_43 : decode cX12_stockings 43 = .ok (.iload_n 1, 1) := by decide +kernel
theorem dX12_stockings_44 : decode cX12_stockings 44 = .ok (.iload 5, 2) := by decide +kernel
theorem dX12_stockings_46 : decode cX12_stockings 46 = .ok (.invokestatic 326, 3) := by decide +kernel
theorem dX12_stockings_49 : decode cX12_stockings 49 = .ok (.iconst 1, 1) := by decide +kernel
theorem dX12_stockings_50 : decode cX12_stockings 50 = .ok (.invokevirtual 329, 3) := by decide +kernel
theorem dX12_stockings_53 : decode cX12_stockings 53 = .ok (.lastore, 1) := by decide +kernel
theorem dX12_stockings_54 : decode cX12_stockings 54 = .ok (.aload_n 0, 1) := by decide +kernel
theorem dX12_stockings_55 : decode cX12_stockings 55 = .ok (.getfield 72, 3) := by decide +kernel
theorem dX12_stockings_58 : decode cX12_stockings 58 = .ok (.iload 5, 2) := by decide +kernel
theorem dX12_stockings_60 : decode cX12_stockings 60 = .ok (.aload_n 0, 1) := by decide +kernel
theorem dX12_stockings_61 : decode cX12_stockings 61 = .ok (.iload 5, 2) := by decide +kernel
theorem dX12_stockings_63 : decode cX12_stockings 63 = .ok (.iload_n 1, 1) := by decide +kernel
theorem dX12_stockings_64 : decode cX12_stockings 64 = .ok (.iload 5, 2) := by decide +kernel
theorem dX12_stockings_66 : decode cX12_stockings 66 = .ok (.invokestatic 326, 3) := by decide +kernel
theorem dX12_stockings_69 : decode cX12_stockings 69 = .ok (.iconst 0, 1) := by decide +kernel
theorem dX12_stockings_70 : decode cX12_stockings 70 = .ok (.invokevirtual 329, 3) := by decide +kernel
theorem dX12_stockings_73 : decode cX12_stockings 73 = .ok (.lastore, 1) := by decide +kernel
theorem dX12_stockings_74 : decode cX12_stockings 74 = .ok (.iload 5, 2) := by decide +kernel
theorem dX12_stockings_76 : decode cX12_stockings 76 = .ok (.iconst 4, 1) := by decide +kernel
theorem dX12_stockings_77 : decode cX12_stockings 77 = .ok (.idiv, 1) := by decide +kernel
theorem dX12_stockings_78 : decode cX12_stockings 78 = .ok (.iconst 5, 1) := by decide +kernel
theorem dX12_stockings_79 : decode cX12_stockings 79 = .ok (.if_icmp .ne 13, 3) := by decide +kernel
theorem dX12_stockings_82 : decode cX12_stockings 82 = .ok (.lload_n 3, 1) := by decide +kernel
theorem dX12_stockings_83 : decode cX12_stockings 83 = .ok (.aload_n 0, 1) := by decide +kernel
theorem dX12_stockings_84 : decode cX12_stockings 84 = .ok (.getfield 72, 3) := by decide +kernel
theorem dX12_stockings_87 : decode cX12_stockings 87 = .ok (.iload 5, 2) := by decide +kernel
theorem dX12_stockings_89 : decode cX12_stockings 89 = .ok (.laload, 1) := by decide +kernel
theorem dX12_stockings_90 : decode cX12_stockings 90 = .ok (.ladd, 1) := by decide +kernel
theorem dX12_stockings_91 : decode cX12_stockings 91 = .ok (.lstore_n 3, 1) := by decide +kernel
theorem dX12_stockings_92 : decode cX12_stockings 92 = .ok (.iinc 5 1, 3) := by decide +kernel
theorem dX12_stockings_95 : decode cX12_stockings 95 = .ok (.goto (-68), 3) := by decide +kernel
theorem dX12_stockings_98 : decode cX12_stockings 98 = .ok (.iload_n 2, 1) := by decide +kernel
theorem dX12_stockings_99 : decode cX12_stockings 99 = .ok (.ifCond .ne 11, 3) := by decide +kernel
theorem dX12_stockings_102 : decode cX12_stockings 102 = .ok (.lload_n 3, 1) := by decide +kernel
theorem dX12_stockings_103 : decode cX12_stockings 103 = .ok (.ldc2_w 323, 3) := by decide +kernel
theorem dX12_stockings_106 : decode cX12_stockings 106 = .ok (.ldiv, 1) := by decide +kernel
theorem dX12_stockings_107 : decode cX12_stockings 107 = .ok (.goto 8, 3) := by decide +kernel
theorem dX12_stockings_110 : decode cX12_stockings 110 = .ok (.lload_n 3, 1) := by decide +kernel
theorem dX12_stockings_111 : decode cX12_stockings 111 = .ok (.ldc2_w 323, 3) := by decide +kernel
theorem dX12_stockings_114 : decode cX12_stockings 114 = .ok (.lrem, 1) := by decide +kernel
theorem dX12_stockings_115 : decode cX12_stockings 115 = .ok (.l2i, 1) := by decide +kernel
theorem dX12_stockings_116 : decode cX12_stockings 116 = .ok (.ireturn, 1) := by decide +kernel
theorem dX12_changesWho_0 : decode cX12_changesWho 0 = .ok (.aload_n 0, 1) := by decide +kernel
theorem dX12_changesWho_1 : decode cX12_changesWho 1 = .ok (.getfield 75, 3) := by decide +kernel
theorem dX12_changesWho_4 : decode cX12_changesWho 4 = .ok (.iload_n 1, 1) := by decide +kernel
theorem dX12_changesWho_5 : decode cX12_changesWho 5 = .ok (.iaload, 1) := by decide +kernel
theorem dX12_changesWho_6 : decode cX12_changesWho 6 = .ok (.istore_n 3, 1) := by decide +kernel
theorem dX12_changesWho_7 : decode cX12_changesWho 7 = .ok (.aload_n 0, 1) := by decide +kernel
theorem dX12_changesWho_8 : decode cX12_changesWho 8 = .ok (.getfield 75, 3) := by decide +kernel
theorem dX12_changesWho_11 : decode cX12_changesWho 11 = .ok (.iload_n 1, 1) := by decide +kernel
theorem dX12_changesWho_12 : decode cX12_changesWho 12 = .ok (.aload_n 0, 1) := by decide +kernel
theorem dX12_changesWho_13 : decode cX12_changesWho 13 = .ok (.getfield 75, 3) := by decide +kernel
theorem dX12_changesWho_16 : decode cX12_changesWho 16 = .ok (.iload_n 2, 1) := by decide +kernel
theorem dX12_changesWho_17 : decode cX12_changesWho 17 = .ok (.iaload, 1) := by decide +kernel
theorem dX12_changesWho_18 : decode cX12_changesWho 18 = .ok (.iastore, 1) := by decide +kernel
theorem dX12_changesWho_19 : decode cX12_changesWho 19 = .ok (.aload_n 0, 1) := by decide +kernel
theorem dX12_changesWho_20 : decode cX12_changesWho 20 = .ok (.getfield 75, 3) := by decide +kernel
theorem dX12_changesWho_23 : decode cX12_changesWho 23 = .ok (.iload_n 2, 1) := by decide +kernel
theorem dX12_changesWho_24 : decode cX12_changesWho 24 = .ok (.iload_n 3, 1) := by decide +kernel
theorem dX12_changesWho_25 : decode cX12_changesWho 25 = .ok (.iastore, 1) := by decide +kernel
theorem dX12_changesWho_26 : decode cX12_changesWho 26 = .ok (.return_, 1) := by decide +kernel
theorem dX12_nextWho_0 : decode cX12_nextWho 0 = .ok (.iload_n 1, 1) := by decide +kernel
theorem dX12_nextWho_1 : decode cX12_nextWho 1 = .ok (.iconst 2, 1) := by decide +kernel
theorem dX12_nextWho_2 : decode cX12_nextWho 2 = .ok (.isub, 1) := by decide +kernel
theorem dX12_nextWho_3 : decode cX12_nextWho 3 = .ok (.istore_n 2, 1) := by decide +kernel
theorem dX12_nextWho_4 : decode cX12_nextWho 4 = .ok (.iload_n 2, 1) := by decide +kernel
theorem dX12_nextWho_5 : decode cX12_nextWho 5 = .ok (.ifCond .lt 27, 3) := by decide +kernel
theorem dX12_nextWho_8 : decode cX12_nextWho 8 = .ok (.aload_n 0, 1) := by decide +kernel
theorem dX12_nextWho_9 : decode cX12_nextWho 9 = .ok (.getfield 75, 3) := by decide +kernel
theorem dX12_nextWho_12 : decode cX12_nextWho 12 = .ok (.iload_n 2, 1) := by decide +kernel
theorem dX12_nextWho_13 : decode cX12_nextWho 13 = .ok (.iaload, 1) := by decide +kernel
theorem dX12_nextWho_14 : decode cX12_nextWho 14 = .ok (.aload_n 0, 1) := by decide +kernel
theorem dX12_nextWho_15 : decode cX12_nextWho 15 = .ok (.getfield 75, 3) := by decide +kernel
theorem dX12_nextWho_18 : decode cX12_nextWho 18 = .ok (.iload_n 2, 1) := by decide +kernel
theorem dX12_nextWho_19 : decode cX12_nextWho 19 = .ok (.iconst 1, 1) := by decide +kernel
theorem dX12_nextWho_20 : decode cX12_nextWho 20 = .ok (.iadd, 1) := by decide +kernel
theorem dX12_nextWho_21 : decode cX12_nextWho 21 = .ok (.iaload, 1) := by decide +kernel
theorem dX12_nextWho_22 : decode cX12_nextWho 22 = .ok (.if_icmp .le 10, 3) := by decide +kernel
theorem dX12_nextWho_25 : decode cX12_nextWho 25 = .ok (.iload_n 2, 1) := by decide +kernel
theorem dX12_nextWho_26 : decode cX12_nextWho 26 = .ok (.iconst 1, 1) := by decide +kernel
theorem dX12_nextWho_27 : decode cX12_nextWho 27 = .ok (.isub, 1) := by decide +kernel
theorem dX12_nextWho_28 : decode cX12_nextWho 28 = .ok (.istore_n 2, 1) := by decide +kernel
theorem dX12_nextWho_29 : decode cX12_nextWho 29 = .ok (.goto (-25), 3) := by decide +kernel
theorem dX12_nextWho_32 : decode cX12_nextWho 32 = .ok (.iload_n 2, 1) := by decide +kernel
theorem dX12_nextWho_33 : decode cX12_nextWho 33 = .ok (.ifCond .ge 5, 3) := by decide +kernel
theorem dX12_nextWho_36 : decode cX12_nextWho 36 = .ok (.iconst 0, 1) := by decide +kernel
theorem dX12_nextWho_37 : decode cX12_nextWho 37 = .ok (.ireturn, 1) := by decide +kernel
theorem dX12_nextWho_38 : decode cX12_nextWho 38 = .ok (.iload_n 1, 1) := by decide +kernel
theorem dX12_nextWho_39 : decode cX12_nextWho 39 = .ok (.iconst 1, 1) := by decide +kernel
theorem dX12_nextWho_40 : decode cX12_nextWho 40 = .ok (.isub, 1) := by decide +kernel
theorem dX12_nextWho_41 : decode cX12_nextWho 41 = .ok (.istore_n 3, 1) := by decide +kernel
theorem dX12_nextWho_42 : decode cX12_nextWho 42 = .ok (.aload_n 0, 1) := by decide +kernel
theorem dX12_nextWho_43 : decode cX12_nextWho 43 = .ok (.getfield 75, 3) := by decide +kernel
theorem dX12_nextWho_46 : decode cX12_nextWho 46 = .ok (.iload_n 3, 1) := by decide +kernel
theorem dX12_nextWho_47 : decode cX12_nextWho 47 = .ok (.iaload, 1) := by decide +kernel
theorem dX12_nextWho_48 : decode cX12_nextWho 48 = .ok (.aload_n 0, 1) := by decide +kernel
theorem dX12_nextWho_49 : decode cX12_nextWho 49 = .ok (.getfield 75, 3) := by decide +kernel
theorem dX12_nextWho_52 : decode cX12_nextWho 52 = .ok (.iload_n 2, 1) := by decide +kernel
theorem dX12_nextWho_53 : decode cX12_nextWho 53 = .ok (.iaload, 1) := by decide +kernel
theorem dX12_nextWho_54 : decode cX12_nextWho 54 = .ok (.if_icmp .ge 10, 3) := by decide +kernel
theorem dX12_nextWho_57 : decode cX12_nextWho 57 = .ok (.iload_n 3, 1) := by decide +kernel
theorem dX12_nextWho_58 : decode cX12_nextWho 58 = .ok (.iconst 1, 1) := by decide +kernel
theorem dX12_nextWho_59 : decode cX12_nextWho 59 = .ok (.isub, 1) := by decide +kernel
theorem dX12_nextWho_60 : decode cX12_nextWho 60 = .ok (.istore_n 3, 1) := by decide +kernel
theorem dX12_nextWho_61 : decode cX12_nextWho 61 = .ok (.goto (-19), 3) := by decide +kernel
theorem dX12_nextWho_64 : decode cX12_nextWho 64 = .ok (.aload_n 0, 1) := by decide +kernel
theorem dX12_nextWho_65 : decode cX12_nextWho 65 = .ok (.iload_n 2, 1) := by decide +kernel
theorem dX12_nextWho_66 : decode cX12_nextWho 66 = .ok (.iload_n 3, 1) := by decide +kernel
theorem dX12_nextWho_67 : decode cX12_nextWho 67 = .ok (.invokevirtual 333, 3) := by decide +kernel
theorem dX12_nextWho_70 : decode cX12_nextWho 70 = .ok (.iload_n 2, 1) := by decide +kernel
theorem dX12_nextWho_71 : decode cX12_nextWho 71 = .ok (.iconst 1, 1) := by decide +kernel
theorem dX12_nextWho_72 : decode cX12_nextWho 72 = .ok (.iadd, 1) := by decide +kernel
theorem dX12_nextWho_73 : decode cX12_nextWho 73 = .ok (.istore 4, 2) := by decide +kernel
theorem dX12_nextWho_75 : decode cX12_nextWho 75 = .ok (.iload_n 1, 1) := by decide +kernel
theorem dX12_nextWho_76 : decode cX12_nextWho 76 = .ok (.iconst 1, 1) := by decide +kernel
theorem dX12_nextWho_77 : decode cX12_nextWho 77 = .ok (.isub, 1) := by decide +kernel
theorem dX12_nextWho_78 : decode cX12_nextWho 78 = .ok (.istore 5, 2) := by decide +kernel
theorem dX12_nextWho_80 : decode cX12_nextWho 80 = .ok (.iload 4, 2) := by decide +kernel
theorem dX12_nextWho_82 : decode cX12_nextWho 82 = .ok (.iload 5, 2) := by decide +kernel
theorem dX12_nextWho_84 : decode cX12_nextWho 84 = .ok (.if_icmp .ge 20, 3) := by decide +kernel
theorem dX12_nextWho_87 : decode cX12_nextWho 87 = .ok (.aload_n 0, 1) := by decide +kernel
theorem dX12_nextWho_88 : decode cX12_nextWho 88 = .ok (.iload 4, 2) := by decide +kernel
theorem dX12_nextWho_90 : decode cX12_nextWho 90 = .ok (.iload 5, 2) := by decide +kernel
theorem dX12_nextWho_92 : decode cX12_nextWho 92 = .ok (.invokevirtual 333, 3) := by decide +kernel
theorem dX12_nextWho_95 : decode cX12_nextWho 95 = .ok (.iinc 4 1, 3) := by decide +kernel
theorem dX12_nextWho_98 : decode cX12_nextWho 98 = .ok (.iinc 5 (-1), 3) := by decide +kernel
theorem dX12_nextWho_101 : decode cX12_nextWho 101 = .ok (.goto (-21), 3) := by decide +kernel
theorem dX12_nextWho_104 : decode cX12_nextWho 104 = .ok (.iconst 1, 1) := by decide +kernel
theorem dX12_nextWho_105 : decode cX12_nextWho 105 = .ok (.ireturn, 1) := by decide +kernel
theorem dX12_sleep_0 : decode cX12_sleep 0 = .ok (.iload_n 1, 1) := by decide +kernel
theorem dX12_sleep_1 : decode cX12_sleep 1 = .ok (.iconst 1, 1) := by decide +kernel
theorem dX12_sleep_2 : decode cX12_sleep 2 = .ok (.bipush 6, 2) := by decide +kernel
theorem dX12_sleep_4 : decode cX12_sleep 4 = .ok (.invokestatic 90, 3) := by decide +kernel
theorem dX12_sleep_7 : decode cX12_sleep 7 = .ok (.ifCond .eq 47, 3) := by decide +kernel
theorem dX12_sleep_10 : decode cX12_sleep 10 = .ok (.iload_n 2, 1) := by decide +kernel
theorem dX12_sleep_11 : decode cX12_sleep 11 = .ok (.iconst 1, 1) := by decide +kernel
theorem dX12_sleep_12 : decode cX12_sleep 12 = .ok (.ldc_w 325, 3) := by decide +kernel
theorem dX12_sleep_15 : decode cX12_sleep 15 = .ok (.invokestatic 90, 3) := by decide +kernel
theorem dX12_sleep_18 : decode cX12_sleep 18 = .ok (.ifCond .eq 36, 3) := by decide +kernel
theorem dX12_sleep_21 : decode cX12_sleep 21 = .ok (.iload_n 2, 1) := by decide +kernel
theorem dX12_sleep_22 : decode cX12_sleep 22 = .ok (.invokestatic 306, 3) := by decide +kernel
theorem dX12_sleep_25 : decode cX12_sleep 25 = .ok (.iload_n 1, 1) := by decide +kernel
theorem dX12_sleep_26 : decode cX12_sleep 26 = .ok (.if_icmp .ne 28, 3) := by decide +kernel
theorem dX12_sleep_29 : decode cX12_sleep 29 = .ok (.iload_n 3, 1) := by decide +kernel
theorem dX12_sleep_30 : decode cX12_sleep 30 = .ok (.bipush 100, 2) := by decide +kernel
theorem dX12_sleep_32 : decode cX12_sleep 32 = .ok (.if_icmp .eq 14, 3) := by decide +kernel
theorem dX12_sleep_35 : decode cX12_sleep 35 = .ok (.iload_n 3, 1) := by decide +kernel
theorem dX12_sleep_36 : decode cX12_sleep 36 = .ok (.iconst 0, 1) := by decide +kernel
theorem dX12_sleep_37 : decode cX12_sleep 37 = .ok (.iload_n 1, 1) := by decide +kernel
theorem dX12_sleep_38 : decode cX12_sleep 38 = .ok (.iconst 1, 1) := by decide +kernel
theorem dX12_sleep_39 : decode cX12_sleep 39 = .ok (.isub, 1) := by decide +kernel
theorem dX12_sleep_40 : decode cX12_sleep 40 = .ok (.invokestatic 90, 3) := by decide +kernel
theorem dX12_sleep_43 : decode cX12_sleep 43 = .ok (.ifCond .eq 11, 3) := by decide +kernel
theorem dX12_sleep_46 : decode cX12_sleep 46 = .ok (.iload_n 1, 1) := by decide +kernel
theorem dX12_sleep_47 : decode cX12_sleep 47 = .ok (.aload_n 0, 1) := by decide +kernel
theorem dX12_sleep_48 : decode cX12_sleep 48 = .ok (.getfield 115, 3) := by decide +kernel
theorem dX12_sleep_51 : decode cX12_sleep 51 = .ok (.if_icmp .le 7, 3) := by decide +kernel
theorem dX12_sleep_54 : decode cX12_sleep 54 = .ok (.ldc2_w 336, 3) := by decide +kernel
theorem dX12_sleep_57 : decode cX12_sleep 57 = .ok (.lreturn, 1) := by decide +kernel
theorem dX12_sleep_58 : decode cX12_sleep 58 = .ok (.aload_n 0, 1) := by decide +kernel
theorem dX12_sleep_59 : decode cX12_sleep 59 = .ok (.iconst 0, 1) := by decide +kernel
theorem dX12_sleep_60 : decode cX12_sleep 60 = .ok (.putfield 115, 3) := by decide +kernel
theorem dX12_sleep_63 : decode cX12_sleep 63 = .ok (.iconst 0, 1) := by decide +kernel
theorem dX12_sleep_64 : decode cX12_sleep 64 = .ok (.istore 4, 2) := by decide +kernel
theorem dX12_sleep_66 : decode cX12_sleep 66 = .ok (.iconst 0, 1) := by decide +kernel
theorem dX12_sleep_67 : decode cX12_sleep 67 = .ok (.istore 5, 2) := by decide +kernel
theorem dX12_sleep_69 : decode cX12_sleep 69 = .ok (.iload 5, 2) := by decide +kernel
theorem dX12_sleep_71 : decode cX12_sleep 71 = .ok (.bipush 24, 2) := by decide +kernel
theorem dX12_sleep_73 : decode cX12_sleep 73 = .ok (.if_icmp .ge 49, 3) := by decide +kernel
theorem dX12_sleep_76 : decode cX12_sleep 76 = .ok (.iload_n 2, 1) := by decide +kernel
theorem dX12_sleep_77 : decode cX12_sleep 77 = .ok (.iload 5, 2) := by decide +kernel
theorem dX12_sleep_79 : decode cX12_sleep 79 = .ok (.invokestatic 326, 3) := by decide +kernel
theorem dX12_sleep_82 : decode cX12_sleep 82 = .ok (.ifCond .ne 6, 3) := by decide +kernel
theorem dX12_sleep_85 : decode cX12_sleep 85 = .ok (.goto 31, 3) := by decide +kernel
theorem dX12_sleep_88 : decode cX12_sleep 88 = .ok (.aload_n 0, 1) := by decide +kernel
theorem dX12_sleep_89 : decode cX12_sleep 89 = .ok (.getfield 81, 3) := by decide +kernel
theorem dX12_sleep_92 : decode cX12_sleep 92 = .ok (.iload 4, 2) := by decide +kernel
theorem dX12_sleep_94 : decode cX12_sleep 94 = .ok (.aload_n 0, 1) := by decide +kernel
theorem dX12_sleep_95 : decode cX12_sleep 95 = .ok (.iload 5, 2) := by decide +kernel
theorem dX12_sleep_97 : decode cX12_sleep 97 = .ok (.invokevirtual 227, 3) := by decide +kernel
theorem dX12_sleep_100 : decode cX12_sleep 100 = .ok (.iastore, 1) := by decide +kernel
theorem dX12_sleep_101 : decode cX12_sleep 101 = .ok (.aload_n 0, 1) := by decide +kernel
theorem dX12_sleep_102 : decode cX12_sleep 102 = .ok (.getfield 75, 3) := by decide +kernel
theorem dX12_sleep_105 : decode cX12_sleep 105 = .ok (.iload 4, 2) := by decide +kernel
theorem dX12_sleep_107 : decode cX12_sleep 107 = .ok (.iload 4, 2) := by decide +kernel
theorem dX12_sleep_109 : decode cX12_sleep 109 = .ok (.iastore, 1) := by decide +kernel
theorem dX12_sleep_110 : decode cX12_sleep 110 = .ok (.iload 4, 2) := by decide +kernel
theorem dX12_sleep_112 : decode cX12_sleep 112 = .ok (.iconst 1, 1) := by decide +kernel
theorem dX12_sleep_113 : decode cX12_sleep 113 = .ok (.iadd, 1) := by decide +kernel
theorem dX12_sleep_114 : decode cX12_sleep 114 = .ok (.istore 4, 2) := by decide +kernel
theorem dX12_sleep_116 : decode cX12_sleep 116 = .ok (.iinc 5 1, 3) := by decide +kernel
theorem dX12_sleep_119 : decode cX12_sleep 119 = .ok (.goto (-50), 3) := by decide +kernel
theorem dX12_sleep_122 : decode cX12_sleep 122 = .ok (.ldc2_w 336, 3) := by decide +kernel
theorem dX12_sleep_125 : decode cX12_sleep 125 = .ok (.lstore 5, 2) := by decide +kernel
theorem dX12_sleep_127 : decode cX12_sleep 127 = .ok (.iconst 1, 1) := by decide +kernel
theorem dX12_sleep_128 : decode cX12_sleep 128 = .ok (.istore 7, 2) := by decide +kernel
theorem dX12_sleep_130 : decode cX12_sleep 130 = .ok (.iload 7, 2) := by decide +kernel
theorem dX12_sleep_132 : decode cX12_sleep 132 = .ok (.ifCond .eq 105, 3) := by decide +kernel
theorem dX12_sleep_135 : decode cX12_sleep 135 = .ok (.lconst 0, 1) := by decide +kernel
theorem dX12_sleep_136 : decode cX12_sleep 136 = .ok (.lstore 8, 2) := by decide +kernel
theorem dX12_sleep_138 : decode cX12_sleep 138 = .ok (.iconst 0, 1) := by decide +kernel
theorem dX12_sleep_139 : decode cX12_sleep 139 = .ok (.istore 10, 2) := by decide +kernel
theorem dX12_sleep_141 : decode cX12_sleep 141 = .ok (.iload 10, 2) := by decide +kernel
theorem dX12_sleep_143 : decode cX12_sleep 143 = .ok (.iload_n 1, 1) := by decide +kernel
theorem dX12_sleep_144 : decode cX12_sleep 144 = .ok (.if_icmp .ge 35, 3) := by decide +kernel
theorem dX12_sleep_147 : decode cX12_sleep 147 = .ok (.lload 8, 2) := by decide +kernel
theorem dX12_sleep_149 : decode cX12_sleep 149 = .ok (.aload_n 0, 1) := by decide +kernel
theorem dX12_sleep_150 : decode cX12_sleep 150 = .ok (.aload_n 0, 1) := by decide +kernel
theorem dX12_sleep_151 : decode cX12_sleep 151 = .ok (.getfield 75, 3) := by decide +kernel
theorem dX12_sleep_154 : decode cX12_sleep 154 = .ok (.iload 10, 2) := by decide +kernel
theorem dX12_sleep_156 : decode cX12_sleep 156 = .ok (.iaload, 1) := by decide +kernel
theorem dX12_sleep_157 : decode cX12_sleep 157 = .ok (.invokevirtual 338, 3) := by decide +kernel
theorem dX12_sleep_160 : decode cX12_sleep 160 = .ok (.i2l, 1) := by decide +kernel
theorem dX12_sleep_161 : decode cX12_sleep 161 = .ok (.aload_n 0, 1) := by decide +kernel
theorem dX12_sleep_162 : decode cX12_sleep 162 = .ok (.getfield 81, 3) := by decide +kernel
theorem dX12_sleep_165 : decode cX12_sleep 165 = .ok (.iload 10, 2) := by decide +kernel
theorem dX12_sleep_167 : decode cX12_sleep 167 = .ok (.iaload, 1) := by decide +kernel
theorem dX12_sleep_168 : decode cX12_sleep 168 = .ok (.i2l, 1) := by decide +kernel
theorem dX12_sleep_169 : decode cX12_sleep 169 = .ok (.lmul, 1) := by decide +kernel
theorem dX12_sleep_170 : decode cX12_sleep 170 = .ok (.ladd, 1) := by decide +kernel
theorem dX12_sleep_171 : decode cX12_sleep 171 = .ok (.lstore 8, 2) := by decide +kernel
theorem dX12_sleep_173 : decode cX12_sleep 173 = .ok (.iinc 10 1, 3) := by decide +kernel
theorem dX12_sleep_176 : decode cX12_sleep 176 = .ok (.goto (-35), 3) := by decide +kernel
theorem dX12_sleep_179 : decode cX12_sleep 179 = .ok (.lload 5, 2) := by decide +kernel
theorem dX12_sleep_181 : decode cX12_sleep 181 = .ok (.lconst 0, 1) := by decide +kernel
theorem dX12_sleep_182 : decode cX12_sleep 182 = .ok (.lcmp, 1) := by decide +kernel
theorem dX12_sleep_183 : decode cX12_sleep 183 = .ok (.ifCond .lt 11, 3) := by decide +kernel
theorem dX12_sleep_186 : decode cX12_sleep 186 = .ok (.lload 8, 2) := by decide +kernel
theorem dX12_sleep_188 : decode cX12_sleep 188 = .ok (.lload 5, 2) := by decide +kernel
theorem dX12_sleep_190 : decode cX12_sleep 190 = .ok (.lcmp, 1) := by decide +kernel
theorem dX12_sleep_191 : decode cX12_sleep 191 = .ok (.ifCond .ge 36, 3) := by decide +kernel
theorem dX12_sleep_194 : decode cX12_sleep 194 = .ok (.lload 8, 2) := by decide +kernel
theorem dX12_sleep_196 : decode cX12_sleep 196 = .ok (.lstore 5, 2) := by decide +kernel
theorem dX12_sleep_198 : decode cX12_sleep 198 = .ok (.iconst 0, 1) := by decide +kernel
theorem dX12_sleep_199 : decode cX12_sleep 199 = .ok (.istore 10, 2) := by decide +kernel
theorem dX12_sleep_201 : decode cX12_sleep 201 = .ok (.iload 10, 2) := by decide +kernel
theorem dX12_sleep_203 : decode cX12_sleep 203 = .ok (.iload_n 1, 1) := by decide +kernel
theorem dX12_sleep_204 : decode cX12_sleep 204 = .ok (.if_icmp .ge 23, 3) := by decide +kernel
theorem dX12_sleep_207 : decode cX12_sleep 207 = .ok (.aload_n 0, 1) := by decide +kernel
theorem dX12_sleep_208 : decode cX12_sleep 208 = .ok (.getfield 78, 3) := by decide +kernel
theorem dX12_sleep_211 : decode cX12_sleep 211 = .ok (.iload 10, 2) := by decide +kernel
theorem dX12_sleep_213 : decode cX12_sleep 213 = .ok (.aload_n 0, 1) := by decide +kernel
theorem dX12_sleep_214 : decode cX12_sleep 214 = .ok (.getfield 75, 3) := by decide +kernel
theorem dX12_sleep_217 : decode cX12_sleep 217 = .ok (.iload 10, 2) := by decide +kernel
theorem dX12_sleep_219 : decode cX12_sleep 219 = .ok (.iaload, 1) := by decide +kernel
theorem dX12_sleep_220 : decode cX12_sleep 220 = .ok (.iastore, 1) := by decide +kernel
theorem dX12_sleep_221 : decode cX12_sleep 221 = .ok (.iinc 10 1, 3) := by decide +kernel
theorem dX12_sleep_224 : decode cX12_sleep 224 = .ok (.goto (-23), 3) := by decide +kernel
theorem dX12_sleep_227 : decode cX12_sleep 227 = .ok (.aload_n 0, 1) := by decide +kernel
theorem dX12_sleep_228 : decode cX12_sleep 228 = .ok (.iload_n 1, 1) := by decide +kernel
theorem dX12_sleep_229 : decode cX12_sleep 229 = .ok (.invokevirtual 341, 3) := by decide +kernel
theorem dX12_sleep_232 : decode cX12_sleep 232 = .ok (.istore 7, 2) := by decide +kernel
theorem dX12_sleep_234 : decode cX12_sleep 234 = .ok (.goto (-104), 3) := by decide +kernel
theorem dX12_sleep_237 : decode cX12_sleep 237 = .ok (.iload_n 3, 1) := by decide +kernel
theorem dX12_sleep_238 : decode cX12_sleep 238 = .ok (.bipush 100, 2) := by decide +kernel
theorem dX12_sleep_240 : decode cX12_sleep 240 = .ok (.if_icmp .ne 8, 3) := by decide +kernel
theorem dX12_sleep_243 : decode cX12_sleep 243 = .ok (.lload 5, 2) := by decide +kernel
theorem dX12_sleep_245 : decode cX12_sleep 245 = .ok (.goto 10, 3) := by decide +kernel
theorem dX12_sleep_248 : decode cX12_sleep 248 = .ok (.aload_n 0, 1) := by decide +kernel
theorem dX12_sleep_249 : decode cX12_sleep 249 = .ok (.getfield 78, 3) := by decide +kernel
theorem dX12_sleep_252 : decode cX12_sleep 252 = .ok (.iload_n 3, 1) := by decide +kernel
theorem dX12_sleep_253 : decode cX12_sleep 253 = .ok (.iaload, 1) := by decide +kernel
theorem dX12_sleep_254 : decode cX12_sleep 254 = .ok (.i2l, 1) := by decide +kernel
theorem dX12_sleep_255 : decode cX12_sleep 255 = .ok (.lreturn, 1) := by decide +kernel
theorem dX12_breakfast_0 : decode cX12_breakfast 0 = .ok (.iload_n 1, 1) := by decide +kernel
theorem dX12_breakfast_1 : decode cX12_breakfast 1 = .ok (.bipush 100, 2) := by decide +kernel
theorem dX12_breakfast_3 : decode cX12_breakfast 3 = .ok (.if_icmp .eq 12, 3) := by decide +kernel
theorem dX12_breakfast_6 : decode cX12_breakfast 6 = .ok (.iload_n 1, 1) := by decide +kernel
theorem dX12_breakfast_7 : decode cX12_breakfast 7 = .ok (.invokestatic 107, 3) := by decide +kernel
theorem dX12_breakfast_10 : decode cX12_breakfast 10 = .ok (.ifCond .ne 5, 3) := by decide +kernel
theorem dX12_breakfast_13 : decode cX12_breakfast 13 = .ok (.iconst (-1), 1) := by decide +kernel
theorem dX12_breakfast_14 : decode cX12_breakfast 14 = .ok (.ireturn, 1) := by decide +kernel
theorem dX12_breakfast_15 : decode cX12_breakfast 15 = .ok (.bipush (-2), 2) := by decide +kernel
theorem dX12_breakfast_17 : decode cX12_breakfast 17 = .ok (.istore_n 2, 1) := by decide +kernel
theorem dX12_breakfast_18 : decode cX12_breakfast 18 = .ok (.iconst 0, 1) := by decide +kernel
theorem dX12_breakfast_19 : decode cX12_breakfast 19 = .ok (.istore_n 3, 1) := by decide +kernel
theorem dX12_breakfast_20 : decode cX12_breakfast 20 = .ok (.iconst 0, 1) := by decide +kernel
theorem dX12_breakfast_21 : decode cX12_breakfast 21 = .ok (.istore 4, 2) := by decide +kernel
theorem dX12_breakfast_23 : decode cX12_breakfast 23 = .ok (.iconst 0, 1) := by decide +kernel
theorem dX12_breakfast_24 : decode cX12_breakfast 24 = .ok (.istore 5, 2) := by decide +kernel
theorem dX12_breakfast_26 : decode cX12_breakfast 26 = .ok (.iload 5, 2) := by decide +kernel
theorem dX12_breakfast_28 : decode cX12_breakfast 28 = .ok (.bipush 24, 2) := by decide +kernel
theorem dX12_breakfast_30 : decode cX12_breakfast 30 = .ok (.if_icmp .ge 64, 3) := by decide +kernel
theorem dX12_breakfast_33 : decode cX12_breakfast 33 = .ok (.iload_n 1, 1) := by decide +kernel
theorem dX12_breakfast_34 : decode cX12_breakfast 34 = .ok (.bipush 100, 2) := by decide +kernel
theorem dX12_breakfast_36 : decode cX12_breakfast 36 = .ok (.if_icmp .ne 23, 3) := by decide +kernel
end
section
theorem dX12_breakfast_39 : decode cX12_breakfast 39 = .ok (.aload_n 0, 1) := by decide +kernel
theorem dX12_breakfast_40 : decode cX12_breakfast 40 = .ok (.iload 5, 2) := by decide +kernel
theorem dX12_breakfast_42 : decode cX12_breakfast 42 = .ok (.invokevirtual 227, 3) := by decide +kernel
theorem dX12_breakfast_45 : decode cX12_breakfast 45 = .ok (.iload_n 3, 1) := by decide +kernel
theorem dX12_breakfast_46 : decode cX12_breakfast 46 = .ok (.if_icmp .le 13, 3) := by decide +kernel
theorem dX12_breakfast_49 : decode cX12_breakfast 49 = .ok (.aload_n 0, 1) := by decide +kernel
theorem dX12_breakfast_50 : decode cX12_breakfast 50 = .ok (.iload 5, 2) := by decide +kernel
theorem dX12_breakfast_52 : decode cX12_breakfast 52 = .ok (.invokevirtual 227, 3) := by decide +kernel
theorem dX12_breakfast_55 : decode cX12_breakfast 55 = .ok (.istore_n 3, 1) := by decide +kernel
theorem dX12_breakfast_56 : decode cX12_breakfast 56 = .ok (.iload 5, 2) := by decide +kernel
theorem dX12_breakfast_58 : decode cX12_breakfast 58 = .ok (.istore_n 2, 1) := by decide +kernel
theorem dX12_breakfast_59 : decode cX12_breakfast 59 = .ok (.iload_n 1, 1) := by decide +kernel
theorem dX12_breakfast_60 : decode cX12_breakfast 60 = .ok (.bipush 100, 2) := by decide +kernel
theorem dX12_breakfast_62 : decode cX12_breakfast 62 = .ok (.if_icmp .eq 26, 3) := by decide +kernel
theorem dX12_breakfast_65 : decode cX12_breakfast 65 = .ok (.aload_n 0, 1) := by decide +kernel
theorem dX12_breakfast_66 : decode cX12_breakfast 66 = .ok (.getfield 7, 3) := by decide +kernel
theorem dX12_breakfast_69 : decode cX12_breakfast 69 = .ok (.iload 5, 2) := by decide +kernel
theorem dX12_breakfast_71 : decode cX12_breakfast 71 = .ok (.iload_n 1, 1) := by decide +kernel
theorem dX12_breakfast_72 : decode cX12_breakfast 72 = .ok (.invokestatic 94, 3) := by decide +kernel
theorem dX12_breakfast_75 : decode cX12_breakfast 75 = .ok (.iaload, 1) := by decide +kernel
theorem dX12_breakfast_76 : decode cX12_breakfast 76 = .ok (.ifCond .le 12, 3) := by decide +kernel
theorem dX12_breakfast_79 : decode cX12_breakfast 79 = .ok (.iload 4, 2) := by decide +kernel
theorem dX12_breakfast_81 : decode cX12_breakfast 81 = .ok (.iconst 1, 1) := by decide +kernel
theorem dX12_breakfast_82 : decode cX12_breakfast 82 = .ok (.iload 5, 2) := by decide +kernel
theorem dX12_breakfast_84 : decode cX12_breakfast 84 = .ok (.ishl, 1) := by decide +kernel
theorem dX12_breakfast_85 : decode cX12_breakfast 85 = .ok (.ior, 1) := by decide +kernel
theorem dX12_breakfast_86 : decode cX12_breakfast 86 = .ok (.istore 4, 2) := by decide +kernel
theorem dX12_breakfast_88 : decode cX12_breakfast 88 = .ok (.iinc 5 1, 3) := by decide +kernel
theorem dX12_breakfast_91 : decode cX12_breakfast 91 = .ok (.goto (-65), 3) := by decide +kernel
theorem dX12_breakfast_94 : decode cX12_breakfast 94 = .ok (.iload_n 1, 1) := by decide +kernel
theorem dX12_breakfast_95 : decode cX12_breakfast 95 = .ok (.bipush 100, 2) := by decide +kernel
theorem dX12_breakfast_97 : decode cX12_breakfast 97 = .ok (.if_icmp .ne 7, 3) := by decide +kernel
theorem dX12_breakfast_100 : decode cX12_breakfast 100 = .ok (.iload_n 2, 1) := by decide +kernel
theorem dX12_breakfast_101 : decode cX12_breakfast 101 = .ok (.goto 5, 3) := by decide +kernel
theorem dX12_breakfast_104 : decode cX12_breakfast 104 = .ok (.iload 4, 2) := by decide +kernel
theorem dX12_breakfast_106 : decode cX12_breakfast 106 = .ok (.ireturn, 1) := by decide +kernel
theorem dX12_lowers_0 : decode cX12_lowers 0 = .ok (.aload_n 0, 1) := by decide +kernel
theorem dX12_lowers_1 : decode cX12_lowers 1 = .ok (.getfield 7, 3) := by decide +kernel
theorem dX12_lowers_4 : decode cX12_lowers 4 = .ok (.bipush 96, 2) := by decide +kernel
theorem dX12_lowers_6 : decode cX12_lowers 6 = .ok (.iload_n 2, 1) := by decide +kernel
theorem dX12_lowers_7 : decode cX12_lowers 7 = .ok (.iadd, 1) := by decide +kernel
theorem dX12_lowers_8 : decode cX12_lowers 8 = .ok (.iaload, 1) := by decide +kernel
theorem dX12_lowers_9 : decode cX12_lowers 9 = .ok (.iload 4, 2) := by decide +kernel
theorem dX12_lowers_11 : decode cX12_lowers 11 = .ok (.if_icmp .le 5, 3) := by decide +kernel
theorem dX12_lowers_14 : decode cX12_lowers 14 = .ok (.iconst 0, 1) := by decide +kernel
theorem dX12_lowers_15 : decode cX12_lowers 15 = .ok (.ireturn, 1) := by decide +kernel
theorem dX12_lowers_16 : decode cX12_lowers 16 = .ok (.iconst 0, 1) := by decide +kernel
theorem dX12_lowers_17 : decode cX12_lowers 17 = .ok (.istore 5, 2) := by decide +kernel
theorem dX12_lowers_19 : decode cX12_lowers 19 = .ok (.iconst 0, 1) := by decide +kernel
theorem dX12_lowers_20 : decode cX12_lowers 20 = .ok (.istore 6, 2) := by decide +kernel
theorem dX12_lowers_22 : decode cX12_lowers 22 = .ok (.iload 6, 2) := by decide +kernel
theorem dX12_lowers_24 : decode cX12_lowers 24 = .ok (.iconst 3, 1) := by decide +kernel
theorem dX12_lowers_25 : decode cX12_lowers 25 = .ok (.if_icmp .ge 87, 3) := by decide +kernel
theorem dX12_lowers_28 : decode cX12_lowers 28 = .ok (.aload_n 0, 1) := by decide +kernel
theorem dX12_lowers_29 : decode cX12_lowers 29 = .ok (.getfield 84, 3) := by decide +kernel
theorem dX12_lowers_32 : decode cX12_lowers 32 = .ok (.iconst 3, 1) := by decide +kernel
theorem dX12_lowers_33 : decode cX12_lowers 33 = .ok (.iload_n 1, 1) := by decide +kernel
theorem dX12_lowers_34 : decode cX12_lowers 34 = .ok (.imul, 1) := by decide +kernel
theorem dX12_lowers_35 : decode cX12_lowers 35 = .ok (.iload 6, 2) := by decide +kernel
theorem dX12_lowers_37 : decode cX12_lowers 37 = .ok (.iadd, 1) := by decide +kernel
theorem dX12_lowers_38 : decode cX12_lowers 38 = .ok (.iaload, 1) := by decide +kernel
theorem dX12_lowers_39 : decode cX12_lowers 39 = .ok (.iconst 1, 1) := by decide +kernel
theorem dX12_lowers_40 : decode cX12_lowers 40 = .ok (.iadd, 1) := by decide +kernel
theorem dX12_lowers_41 : decode cX12_lowers 41 = .ok (.iload 6, 2) := by decide +kernel
theorem dX12_lowers_43 : decode cX12_lowers 43 = .ok (.iload_n 3, 1) := by decide +kernel
theorem dX12_lowers_44 : decode cX12_lowers 44 = .ok (.if_icmp .ne 7, 3) := by decide +kernel
theorem dX12_lowers_47 : decode cX12_lowers 47 = .ok (.iconst 0, 1) := by decide +kernel
theorem dX12_lowers_48 : decode cX12_lowers 48 = .ok (.goto 5, 3) := by decide +kernel
theorem dX12_lowers_51 : decode cX12_lowers 51 = .ok (.bipush 100, 2) := by decide +kernel
theorem dX12_lowers_53 : decode cX12_lowers 53 = .ok (.iadd, 1) := by decide +kernel
theorem dX12_lowers_54 : decode cX12_lowers 54 = .ok (.istore 7, 2) := by decide +kernel
theorem dX12_lowers_56 : decode cX12_lowers 56 = .ok (.aload_n 0, 1) := by decide +kernel
theorem dX12_lowers_57 : decode cX12_lowers 57 = .ok (.getfield 84, 3) := by decide +kernel
theorem dX12_lowers_60 : decode cX12_lowers 60 = .ok (.iconst 3, 1) := by decide +kernel
theorem dX12_lowers_61 : decode cX12_lowers 61 = .ok (.iload_n 1, 1) := by decide +kernel
theorem dX12_lowers_62 : decode cX12_lowers 62 = .ok (.imul, 1) := by decide +kernel
theorem dX12_lowers_63 : decode cX12_lowers 63 = .ok (.iload 6, 2) := by decide +kernel
theorem dX12_lowers_65 : decode cX12_lowers 65 = .ok (.iadd, 1) := by decide +kernel
theorem dX12_lowers_66 : decode cX12_lowers 66 = .ok (.iaload, 1) := by decide +kernel
theorem dX12_lowers_67 : decode cX12_lowers 67 = .ok (.ldc_w 312, 3) := by decide +kernel
theorem dX12_lowers_70 : decode cX12_lowers 70 = .ok (.if_icmp .ge 36, 3) := by decide +kernel
theorem dX12_lowers_73 : decode cX12_lowers 73 = .ok (.iload 7, 2) := by decide +kernel
theorem dX12_lowers_75 : decode cX12_lowers 75 = .ok (.aload_n 0, 1) := by decide +kernel
theorem dX12_lowers_76 : decode cX12_lowers 76 = .ok (.getfield 84, 3) := by decide +kernel
theorem dX12_lowers_79 : decode cX12_lowers 79 = .ok (.iconst 3, 1) := by decide +kernel
theorem dX12_lowers_80 : decode cX12_lowers 80 = .ok (.iload_n 2, 1) := by decide +kernel
theorem dX12_lowers_81 : decode cX12_lowers 81 = .ok (.imul, 1) := by decide +kernel
theorem dX12_lowers_82 : decode cX12_lowers 82 = .ok (.iload_n 3, 1) := by decide +kernel
theorem dX12_lowers_83 : decode cX12_lowers 83 = .ok (.iadd, 1) := by decide +kernel
theorem dX12_lowers_84 : decode cX12_lowers 84 = .ok (.iaload, 1) := by decide +kernel
theorem dX12_lowers_85 : decode cX12_lowers 85 = .ok (.if_icmp .lt 6, 3) := by decide +kernel
theorem dX12_lowers_88 : decode cX12_lowers 88 = .ok (.goto 18, 3) := by decide +kernel
theorem dX12_lowers_91 : decode cX12_lowers 91 = .ok (.aload_n 0, 1) := by decide +kernel
theorem dX12_lowers_92 : decode cX12_lowers 92 = .ok (.getfield 84, 3) := by decide +kernel
theorem dX12_lowers_95 : decode cX12_lowers 95 = .ok (.iconst 3, 1) := by decide +kernel
theorem dX12_lowers_96 : decode cX12_lowers 96 = .ok (.iload_n 2, 1) := by decide +kernel
theorem dX12_lowers_97 : decode cX12_lowers 97 = .ok (.imul, 1) := by decide +kernel
theorem dX12_lowers_98 : decode cX12_lowers 98 = .ok (.iload_n 3, 1) := by decide +kernel
theorem dX12_lowers_99 : decode cX12_lowers 99 = .ok (.iadd, 1) := by decide +kernel
theorem dX12_lowers_100 : decode cX12_lowers 100 = .ok (.iload 7, 2) := by decide +kernel
theorem dX12_lowers_102 : decode cX12_lowers 102 = .ok (.iastore, 1) := by decide +kernel
theorem dX12_lowers_103 : decode cX12_lowers 103 = .ok (.iconst 1, 1) := by decide +kernel
theorem dX12_lowers_104 : decode cX12_lowers 104 = .ok (.istore 5, 2) := by decide +kernel
theorem dX12_lowers_106 : decode cX12_lowers 106 = .ok (.iinc 6 1, 3) := by decide +kernel
theorem dX12_lowers_109 : decode cX12_lowers 109 = .ok (.goto (-87), 3) := by decide +kernel
theorem dX12_lowers_112 : decode cX12_lowers 112 = .ok (.iload 5, 2) := by decide +kernel
theorem dX12_lowers_114 : decode cX12_lowers 114 = .ok (.ireturn, 1) := by decide +kernel
theorem dX12_lowersAll_0 : decode cX12_lowersAll 0 = .ok (.iconst 0, 1) := by decide +kernel
theorem dX12_lowersAll_1 : decode cX12_lowersAll 1 = .ok (.istore_n 2, 1) := by decide +kernel
theorem dX12_lowersAll_2 : decode cX12_lowersAll 2 = .ok (.iconst 0, 1) := by decide +kernel
theorem dX12_lowersAll_3 : decode cX12_lowersAll 3 = .ok (.istore_n 3, 1) := by decide +kernel
theorem dX12_lowersAll_4 : decode cX12_lowersAll 4 = .ok (.iload_n 3, 1) := by decide +kernel
theorem dX12_lowersAll_5 : decode cX12_lowersAll 5 = .ok (.bipush 24, 2) := by decide +kernel
theorem dX12_lowersAll_7 : decode cX12_lowersAll 7 = .ok (.if_icmp .ge 74, 3) := by decide +kernel
theorem dX12_lowersAll_10 : decode cX12_lowersAll 10 = .ok (.iload_n 3, 1) := by decide +kernel
theorem dX12_lowersAll_11 : decode cX12_lowersAll 11 = .ok (.iconst 4, 1) := by decide +kernel
theorem dX12_lowersAll_12 : decode cX12_lowersAll 12 = .ok (.idiv, 1) := by decide +kernel
theorem dX12_lowersAll_13 : decode cX12_lowersAll 13 = .ok (.iconst 5, 1) := by decide +kernel
theorem dX12_lowersAll_14 : decode cX12_lowersAll 14 = .ok (.if_icmp .ge 18, 3) := by decide +kernel
theorem dX12_lowersAll_17 : decode cX12_lowersAll 17 = .ok (.aload_n 0, 1) := by decide +kernel
theorem dX12_lowersAll_18 : decode cX12_lowersAll 18 = .ok (.iload_n 3, 1) := by decide +kernel
theorem dX12_lowersAll_19 : decode cX12_lowersAll 19 = .ok (.iconst 4, 1) := by decide +kernel
theorem dX12_lowersAll_20 : decode cX12_lowersAll 20 = .ok (.iadd, 1) := by decide +kernel
theorem dX12_lowersAll_21 : decode cX12_lowersAll 21 = .ok (.iload_n 3, 1) := by decide +kernel
theorem dX12_lowersAll_22 : decode cX12_lowersAll 22 = .ok (.iconst 0, 1) := by decide +kernel
theorem dX12_lowersAll_23 : decode cX12_lowersAll 23 = .ok (.iload_n 1, 1) := by decide +kernel
theorem dX12_lowersAll_24 : decode cX12_lowersAll 24 = .ok (.invokevirtual 344, 3) := by decide +kernel
theorem dX12_lowersAll_27 : decode cX12_lowersAll 27 = .ok (.ifCond .eq 5, 3) := by decide +kernel
theorem dX12_lowersAll_30 : decode cX12_lowersAll 30 = .ok (.iconst 1, 1) := by decide +kernel
theorem dX12_lowersAll_31 : decode cX12_lowersAll 31 = .ok (.istore_n 2, 1) := by decide +kernel
theorem dX12_lowersAll_32 : decode cX12_lowersAll 32 = .ok (.iload_n 3, 1) := by decide +kernel
theorem dX12_lowersAll_33 : decode cX12_lowersAll 33 = .ok (.iconst 4, 1) := by decide +kernel
theorem dX12_lowersAll_34 : decode cX12_lowersAll 34 = .ok (.irem, 1) := by decide +kernel
theorem dX12_lowersAll_35 : decode cX12_lowersAll 35 = .ok (.iconst 3, 1) := by decide +kernel
theorem dX12_lowersAll_36 : decode cX12_lowersAll 36 = .ok (.if_icmp .ge 18, 3) := by decide +kernel
theorem dX12_lowersAll_39 : decode cX12_lowersAll 39 = .ok (.aload_n 0, 1) := by decide +kernel
theorem dX12_lowersAll_40 : decode cX12_lowersAll 40 = .ok (.iload_n 3, 1) := by decide +kernel
theorem dX12_lowersAll_41 : decode cX12_lowersAll 41 = .ok (.iconst 1, 1) := by decide +kernel
theorem dX12_lowersAll_42 : decode cX12_lowersAll 42 = .ok (.iadd, 1) := by decide +kernel
theorem dX12_lowersAll_43 : decode cX12_lowersAll 43 = .ok (.iload_n 3, 1) := by decide +kernel
theorem dX12_lowersAll_44 : decode cX12_lowersAll 44 = .ok (.iconst 1, 1) := by decide +kernel
theorem dX12_lowersAll_45 : decode cX12_lowersAll 45 = .ok (.iload_n 1, 1) := by decide +kernel
theorem dX12_lowersAll_46 : decode cX12_lowersAll 46 = .ok (.invokevirtual 344, 3) := by decide +kernel
theorem dX12_lowersAll_49 : decode cX12_lowersAll 49 = .ok (.ifCond .eq 5, 3) := by decide +kernel
theorem dX12_lowersAll_52 : decode cX12_lowersAll 52 = .ok (.iconst 1, 1) := by decide +kernel
theorem dX12_lowersAll_53 : decode cX12_lowersAll 53 = .ok (.istore_n 2, 1) := by decide +kernel
theorem dX12_lowersAll_54 : decode cX12_lowersAll 54 = .ok (.iload_n 3, 1) := by decide +kernel
theorem dX12_lowersAll_55 : decode cX12_lowersAll 55 = .ok (.iconst 4, 1) := by decide +kernel
theorem dX12_lowersAll_56 : decode cX12_lowersAll 56 = .ok (.irem, 1) := by decide +kernel
theorem dX12_lowersAll_57 : decode cX12_lowersAll 57 = .ok (.ifCond .le 18, 3) := by decide +kernel
theorem dX12_lowersAll_60 : decode cX12_lowersAll 60 = .ok (.aload_n 0, 1) := by decide +kernel
theorem dX12_lowersAll_61 : decode cX12_lowersAll 61 = .ok (.iload_n 3, 1) := by decide +kernel
theorem dX12_lowersAll_62 : decode cX12_lowersAll 62 = .ok (.iconst 1, 1) := by decide +kernel
theorem dX12_lowersAll_63 : decode cX12_lowersAll 63 = .ok (.isub, 1) := by decide +kernel
theorem dX12_lowersAll_64 : decode cX12_lowersAll 64 = .ok (.iload_n 3, 1) := by decide +kernel
theorem dX12_lowersAll_65 : decode cX12_lowersAll 65 = .ok (.iconst 2, 1) := by decide +kernel
theorem dX12_lowersAll_66 : decode cX12_lowersAll 66 = .ok (.iload_n 1, 1) := by decide +kernel
theorem dX12_lowersAll_67 : decode cX12_lowersAll 67 = .ok (.invokevirtual 344, 3) := by decide +kernel
theorem dX12_lowersAll_70 : decode cX12_lowersAll 70 = .ok (.ifCond .eq 5, 3) := by decide +kernel
theorem dX12_lowersAll_73 : decode cX12_lowersAll 73 = .ok (.iconst 1, 1) := by decide +kernel
theorem dX12_lowersAll_74 : decode cX12_lowersAll 74 = .ok (.istore_n 2, 1) := by decide +kernel
theorem dX12_lowersAll_75 : decode cX12_lowersAll 75 = .ok (.iinc 3 1, 3) := by decide +kernel
theorem dX12_lowersAll_78 : decode cX12_lowersAll 78 = .ok (.goto (-74), 3) := by decide +kernel
theorem dX12_lowersAll_81 : decode cX12_lowersAll 81 = .ok (.iload_n 2, 1) := by decide +kernel
theorem dX12_lowersAll_82 : decode cX12_lowersAll 82 = .ok (.ireturn, 1) := by decide +kernel
theorem dX12_ropes_0 : decode cX12_ropes 0 = .ok (.iload_n 1, 1) := by decide +kernel
theorem dX12_ropes_1 : decode cX12_ropes 1 = .ok (.invokestatic 107, 3) := by decide +kernel
theorem dX12_ropes_4 : decode cX12_ropes 4 = .ok (.ifCond .eq 23, 3) := by decide +kernel
theorem dX12_ropes_7 : decode cX12_ropes 7 = .ok (.iload_n 2, 1) := by decide +kernel
theorem dX12_ropes_8 : decode cX12_ropes 8 = .ok (.iconst 0, 1) := by decide +kernel
theorem dX12_ropes_9 : decode cX12_ropes 9 = .ok (.ldc_w 264, 3) := by decide +kernel
theorem dX12_ropes_12 : decode cX12_ropes 12 = .ok (.invokestatic 90, 3) := by decide +kernel
theorem dX12_ropes_15 : decode cX12_ropes 15 = .ok (.ifCond .eq 12, 3) := by decide +kernel
theorem dX12_ropes_18 : decode cX12_ropes 18 = .ok (.iload_n 3, 1) := by decide +kernel
theorem dX12_ropes_19 : decode cX12_ropes 19 = .ok (.iconst 0, 1) := by decide +kernel
theorem dX12_ropes_20 : decode cX12_ropes 20 = .ok (.iconst 1, 1) := by decide +kernel
theorem dX12_ropes_21 : decode cX12_ropes 21 = .ok (.invokestatic 90, 3) := by decide +kernel
theorem dX12_ropes_24 : decode cX12_ropes 24 = .ok (.ifCond .ne 5, 3) := by decide +kernel
theorem dX12_ropes_27 : decode cX12_ropes 27 = .ok (.iconst (-1), 1) := by decide +kernel
theorem dX12_ropes_28 : decode cX12_ropes 28 = .ok (.ireturn, 1) := by decide +kernel
theorem dX12_ropes_29 : decode cX12_ropes 29 = .ok (.iconst 0, 1) := by decide +kernel
theorem dX12_ropes_30 : decode cX12_ropes 30 = .ok (.istore 4, 2) := by decide +kernel
theorem dX12_ropes_32 : decode cX12_ropes 32 = .ok (.iload 4, 2) := by decide +kernel
theorem dX12_ropes_34 : decode cX12_ropes 34 = .ok (.bipush 72, 2) := by decide +kernel
theorem dX12_ropes_36 : decode cX12_ropes 36 = .ok (.if_icmp .ge 19, 3) := by decide +kernel
theorem dX12_ropes_39 : decode cX12_ropes 39 = .ok (.aload_n 0, 1) := by decide +kernel
theorem dX12_ropes_40 : decode cX12_ropes 40 = .ok (.getfield 84, 3) := by decide +kernel
theorem dX12_ropes_43 : decode cX12_ropes 43 = .ok (.iload 4, 2) := by decide +kernel
theorem dX12_ropes_45 : decode cX12_ropes 45 = .ok (.ldc_w 312, 3) := by decide +kernel
theorem dX12_ropes_48 : decode cX12_ropes 48 = .ok (.iastore, 1) := by decide +kernel
theorem dX12_ropes_49 : decode cX12_ropes 49 = .ok (.iinc 4 1, 3) := by decide +kernel
theorem dX12_ropes_52 : decode cX12_ropes 52 = .ok (.goto (-20), 3) := by decide +kernel
theorem dX12_ropes_55 : decode cX12_ropes 55 = .ok (.bipush 20, 2) := by decide +kernel
theorem dX12_ropes_57 : decode cX12_ropes 57 = .ok (.istore 4, 2) := by decide +kernel
theorem dX12_ropes_59 : decode cX12_ropes 59 = .ok (.iload 4, 2) := by decide +kernel
theorem dX12_ropes_61 : decode cX12_ropes 61 = .ok (.bipush 24, 2) := by decide +kernel
theorem dX12_ropes_63 : decode cX12_ropes 63 = .ok (.if_icmp .ge 33, 3) := by decide +kernel
theorem dX12_ropes_66 : decode cX12_ropes 66 = .ok (.aload_n 0, 1) := by decide +kernel
theorem dX12_ropes_67 : decode cX12_ropes 67 = .ok (.getfield 7, 3) := by decide +kernel
theorem dX12_ropes_70 : decode cX12_ropes 70 = .ok (.bipush 96, 2) := by decide +kernel
theorem dX12_ropes_72 : decode cX12_ropes 72 = .ok (.iload 4, 2) := by decide +kernel
theorem dX12_ropes_74 : decode cX12_ropes 74 = .ok (.iadd, 1) := by decide +kernel
theorem dX12_ropes_75 : decode cX12_ropes 75 = .ok (.iaload, 1) := by decide +kernel
theorem dX12_ropes_76 : decode cX12_ropes 76 = .ok (.iload_n 2, 1) := by decide +kernel
theorem dX12_ropes_77 : decode cX12_ropes 77 = .ok (.if_icmp .gt 13, 3) := by decide +kernel
theorem dX12_ropes_80 : decode cX12_ropes 80 = .ok (.aload_n 0, 1) := by decide +kernel
theorem dX12_ropes_81 : decode cX12_ropes 81 = .ok (.getfield 84, 3) := by decide +kernel
theorem dX12_ropes_84 : decode cX12_ropes 84 = .ok (.iconst 3, 1) := by decide +kernel
theorem dX12_ropes_85 : decode cX12_ropes 85 = .ok (.iload 4, 2) := by decide +kernel
theorem dX12_ropes_87 : decode cX12_ropes 87 = .ok (.imul, 1) := by decide +kernel
theorem dX12_ropes_88 : decode cX12_ropes 88 = .ok (.iconst 1, 1) := by decide +kernel
theorem dX12_ropes_89 : decode cX12_ropes 89 = .ok (.iastore, 1) := by decide +kernel
theorem dX12_ropes_90 : decode cX12_ropes 90 = .ok (.iinc 4 1, 3) := by decide +kernel
theorem dX12_ropes_93 : decode cX12_ropes 93 = .ok (.goto (-34), 3) := by decide +kernel
theorem dX12_ropes_96 : decode cX12_ropes 96 = .ok (.iconst 1, 1) := by decide +kernel
theorem dX12_ropes_97 : decode cX12_ropes 97 = .ok (.istore 4, 2) := by decide +kernel
theorem dX12_ropes_99 : decode cX12_ropes 99 = .ok (.iload 4, 2) := by decide +kernel
theorem dX12_ropes_101 : decode cX12_ropes 101 = .ok (.ifCond .eq 13, 3) := by decide +kernel
theorem dX12_ropes_104 : decode cX12_ropes 104 = .ok (.aload_n 0, 1) := by decide +kernel
theorem dX12_ropes_105 : decode cX12_ropes 105 = .ok (.iload_n 2, 1) := by decide +kernel
theorem dX12_ropes_106 : decode cX12_ropes 106 = .ok (.invokevirtual 348, 3) := by decide +kernel
theorem dX12_ropes_109 : decode cX12_ropes 109 = .ok (.istore 4, 2) := by decide +kernel
theorem dX12_ropes_111 : decode cX12_ropes 111 = .ok (.goto (-12), 3) := by decide +kernel
theorem dX12_ropes_114 : decode cX12_ropes 114 = .ok (.aload_n 0, 1) := by decide +kernel
theorem dX12_ropes_115 : decode cX12_ropes 115 = .ok (.getfield 84, 3) := by decide +kernel
theorem dX12_ropes_118 : decode cX12_ropes 118 = .ok (.iconst 3, 1) := by decide +kernel
theorem dX12_ropes_119 : decode cX12_ropes 119 = .ok (.iload_n 1, 1) := by decide +kernel
theorem dX12_ropes_120 : decode cX12_ropes 120 = .ok (.imul, 1) := by decide +kernel
theorem dX12_ropes_121 : decode cX12_ropes 121 = .ok (.iaload, 1) := by decide +kernel
theorem dX12_ropes_122 : decode cX12_ropes 122 = .ok (.aload_n 0, 1) := by decide +kernel
theorem dX12_ropes_123 : decode cX12_ropes 123 = .ok (.getfield 84, 3) := by decide +kernel
theorem dX12_ropes_126 : decode cX12_ropes 126 = .ok (.iconst 3, 1) := by decide +kernel
theorem dX12_ropes_127 : decode cX12_ropes 127 = .ok (.iload_n 1, 1) := by decide +kernel
theorem dX12_ropes_128 : decode cX12_ropes 128 = .ok (.imul, 1) := by decide +kernel
theorem dX12_ropes_129 : decode cX12_ropes 129 = .ok (.iconst 1, 1) := by decide +kernel
theorem dX12_ropes_130 : decode cX12_ropes 130 = .ok (.iadd, 1) := by decide +kernel
theorem dX12_ropes_131 : decode cX12_ropes 131 = .ok (.iaload, 1) := by decide +kernel
theorem dX12_ropes_132 : decode cX12_ropes 132 = .ok (.aload_n 0, 1) := by decide +kernel
theorem dX12_ropes_133 : decode cX12_ropes 133 = .ok (.getfield 84, 3) := by decide +kernel
theorem dX12_ropes_136 : decode cX12_ropes 136 = .ok (.iconst 3, 1) := by decide +kernel
theorem dX12_ropes_137 : decode cX12_ropes 137 = .ok (.iload_n 1, 1) := by decide +kernel
theorem dX12_ropes_138 : decode cX12_ropes 138 = .ok (.imul, 1) := by decide +kernel
theorem dX12_ropes_139 : decode cX12_ropes 139 = .ok (.iconst 2, 1) := by decide +kernel
theorem dX12_ropes_140 : decode cX12_ropes 140 = .ok (.iadd, 1) := by decide +kernel
theorem dX12_ropes_141 : decode cX12_ropes 141 = .ok (.iaload, 1) := by decide +kernel
theorem dX12_ropes_142 : decode cX12_ropes 142 = .ok (.invokestatic 98, 3) := by decide +kernel
theorem dX12_ropes_145 : decode cX12_ropes 145 = .ok (.invokestatic 98, 3) := by decide +kernel
theorem dX12_ropes_148 : decode cX12_ropes 148 = .ok (.istore 5, 2) := by decide +kernel
theorem dX12_ropes_150 : decode cX12_ropes 150 = .ok (.iload 5, 2) := by decide +kernel
theorem dX12_ropes_152 : decode cX12_ropes 152 = .ok (.ldc_w 312, 3) := by decide +kernel
theorem dX12_ropes_155 : decode cX12_ropes 155 = .ok (.if_icmp .lt 6, 3) := by decide +kernel
theorem dX12_ropes_158 : decode cX12_ropes 158 = .ok (.bipush (-2), 2) := by decide +kernel
theorem dX12_ropes_160 : decode cX12_ropes 160 = .ok (.ireturn, 1) := by decide +kernel
theorem dX12_ropes_161 : decode cX12_ropes 161 = .ok (.iload_n 3, 1) := by decide +kernel
theorem dX12_ropes_162 : decode cX12_ropes 162 = .ok (.ifCond .ne 11, 3) := by decide +kernel
theorem dX12_ropes_165 : decode cX12_ropes 165 = .ok (.iload 5, 2) := by decide +kernel
theorem dX12_ropes_167 : decode cX12_ropes 167 = .ok (.bipush 100, 2) := by decide +kernel
theorem dX12_ropes_169 : decode cX12_ropes 169 = .ok (.idiv, 1) := by decide +kernel
theorem dX12_ropes_170 : decode cX12_ropes 170 = .ok (.goto 8, 3) := by decide +kernel
theorem dX12_ropes_173 : decode cX12_ropes 173 = .ok (.iload 5, 2) := by decide +kernel
theorem dX12_ropes_175 : decode cX12_ropes 175 = .ok (.bipush 100, 2) := by decide +kernel
theorem dX12_ropes_177 : decode cX12_ropes 177 = .ok (.irem, 1) := by decide +kernel
theorem dX12_ropes_178 : decode cX12_ropes 178 = .ok (.ireturn, 1) := by decide +kernel
theorem dX12_readsTaps_0 : decode cX12_readsTaps 0 = .ok (.aload_n 0, 1) := by decide +kernel
theorem dX12_readsTaps_1 : decode cX12_readsTaps 1 = .ok (.iconst 0, 1) := by decide +kernel
theorem dX12_readsTaps_2 : decode cX12_readsTaps 2 = .ok (.putfield 140, 3) := by decide +kernel
theorem dX12_readsTaps_5 : decode cX12_readsTaps 5 = .ok (.aload_n 0, 1) := by decide +kernel
theorem dX12_readsTaps_6 : decode cX12_readsTaps 6 = .ok (.invokevirtual 129, 3) := by decide +kernel
theorem dX12_readsTaps_9 : decode cX12_readsTaps 9 = .ok (.bipush 120, 2) := by decide +kernel
theorem dX12_readsTaps_11 : decode cX12_readsTaps 11 = .ok (.if_icmp .eq 13, 3) := by decide +kernel
theorem dX12_readsTaps_14 : decode cX12_readsTaps 14 = .ok (.aload_n 0, 1) := by decide +kernel
theorem dX12_readsTaps_15 : decode cX12_readsTaps 15 = .ok (.iconst 1, 1) := by decide +kernel
theorem dX12_readsTaps_16 : decode cX12_readsTaps 16 = .ok (.aload_n 0, 1) := by decide +kernel
theorem dX12_readsTaps_17 : decode cX12_readsTaps 17 = .ok (.getfield 123, 3) := by decide +kernel
theorem dX12_readsTaps_20 : decode cX12_readsTaps 20 = .ok (.invokevirtual 136, 3) := by decide +kernel
theorem dX12_readsTaps_23 : decode cX12_readsTaps 23 = .ok (.ireturn, 1) := by decide +kernel
theorem dX12_readsTaps_24 : decode cX12_readsTaps 24 = .ok (.aload_n 0, 1) := by decide +kernel
theorem dX12_readsTaps_25 : decode cX12_readsTaps 25 = .ok (.invokevirtual 129, 3) := by decide +kernel
theorem dX12_readsTaps_28 : decode cX12_readsTaps 28 = .ok (.bipush 120, 2) := by decide +kernel
theorem dX12_readsTaps_30 : decode cX12_readsTaps 30 = .ok (.if_icmp .ne 44, 3) := by decide +kernel
theorem dX12_readsTaps_33 : decode cX12_readsTaps 33 = .ok (.aload_n 0, 1) := by decide +kernel
theorem dX12_readsTaps_34 : decode cX12_readsTaps 34 = .ok (.getfield 140, 3) := by decide +kernel
theorem dX12_readsTaps_37 : decode cX12_readsTaps 37 = .ok (.iconst 5, 1) := by decide +kernel
theorem dX12_readsTaps_38 : decode cX12_readsTaps 38 = .ok (.if_icmp .ne 13, 3) := by decide +kernel
theorem dX12_readsTaps_41 : decode cX12_readsTaps 41 = .ok (.aload_n 0, 1) := by decide +kernel
theorem dX12_readsTaps_42 : decode cX12_readsTaps 42 = .ok (.iconst 2, 1) := by decide +kernel
theorem dX12_readsTaps_43 : decode cX12_readsTaps 43 = .ok (.aload_n 0, 1) := by decide +kernel
theorem dX12_readsTaps_44 : decode cX12_readsTaps 44 = .ok (.getfield 123, 3) := by decide +kernel
theorem dX12_readsTaps_47 : decode cX12_readsTaps 47 = .ok (.invokevirtual 136, 3) := by decide +kernel
theorem dX12_readsTaps_50 : decode cX12_readsTaps 50 = .ok (.ireturn, 1) := by decide +kernel
theorem dX12_readsTaps_51 : decode cX12_readsTaps 51 = .ok (.aload_n 0, 1) := by decide +kernel
theorem dX12_readsTaps_52 : decode cX12_readsTaps 52 = .ok (.aload_n 0, 1) := by decide +kernel
theorem dX12_readsTaps_53 : decode cX12_readsTaps 53 = .ok (.getfield 140, 3) := by decide +kernel
theorem dX12_readsTaps_56 : decode cX12_readsTaps 56 = .ok (.iconst 1, 1) := by decide +kernel
theorem dX12_readsTaps_57 : decode cX12_readsTaps 57 = .ok (.iadd, 1) := by decide +kernel
theorem dX12_readsTaps_58 : decode cX12_readsTaps 58 = .ok (.putfield 140, 3) := by decide +kernel
theorem dX12_readsTaps_61 : decode cX12_readsTaps 61 = .ok (.aload_n 0, 1) := by decide +kernel
theorem dX12_readsTaps_62 : decode cX12_readsTaps 62 = .ok (.aload_n 0, 1) := by decide +kernel
theorem dX12_readsTaps_63 : decode cX12_readsTaps 63 = .ok (.getfield 123, 3) := by decide +kernel
theorem dX12_readsTaps_66 : decode cX12_readsTaps 66 = .ok (.iconst 1, 1) := by decide +kernel
theorem dX12_readsTaps_67 : decode cX12_readsTaps 67 = .ok (.iadd, 1) := by decide +kernel
theorem dX12_readsTaps_68 : decode cX12_readsTaps 68 = .ok (.putfield 123, 3) := by decide +kernel
theorem dX12_readsTaps_71 : decode cX12_readsTaps 71 = .ok (.goto (-47), 3) := by decide +kernel
theorem dX12_readsTaps_74 : decode cX12_readsTaps 74 = .ok (.iconst 1, 1) := by decide +kernel
theorem dX12_readsTaps_75 : decode cX12_readsTaps 75 = .ok (.ireturn, 1) := by decide +kernel
theorem dX12_readsLetter_0 : decode cX12_readsLetter 0 = .ok (.aload_n 0, 1) := by decide +kernel
theorem dX12_readsLetter_1 : decode cX12_readsLetter 1 = .ok (.invokevirtual 351, 3) := by decide +kernel
theorem dX12_readsLetter_4 : decode cX12_readsLetter 4 = .ok (.ifCond .ne 5, 3) := by decide +kernel
theorem dX12_readsLetter_7 : decode cX12_readsLetter 7 = .ok (.iconst 0, 1) := by decide +kernel
theorem dX12_readsLetter_8 : decode cX12_readsLetter 8 = .ok (.ireturn, 1) := by decide +kernel
theorem dX12_readsLetter_9 : decode cX12_readsLetter 9 = .ok (.aload_n 0, 1) := by decide +kernel
theorem dX12_readsLetter_10 : decode cX12_readsLetter 10 = .ok (.getfield 140, 3) := by decide +kernel
theorem dX12_readsLetter_13 : decode cX12_readsLetter 13 = .ok (.istore_n 1, 1) := by decide +kernel
theorem dX12_readsLetter_14 : decode cX12_readsLetter 14 = .ok (.aload_n 0, 1) := by decide +kernel
theorem dX12_readsLetter_15 : decode cX12_readsLetter 15 = .ok (.bipush 46, 2) := by decide +kernel
theorem dX12_readsLetter_17 : decode cX12_readsLetter 17 = .ok (.invokevirtual 214, 3) := by decide +kernel
theorem dX12_readsLetter_20 : decode cX12_readsLetter 20 = .ok (.ifCond .eq 10, 3) := by decide +kernel
theorem dX12_readsLetter_23 : decode cX12_readsLetter 23 = .ok (.aload_n 0, 1) := by decide +kernel
theorem dX12_readsLetter_24 : decode cX12_readsLetter 24 = .ok (.invokevirtual 351, 3) := by decide +kernel
theorem dX12_readsLetter_27 : decode cX12_readsLetter 27 = .ok (.ifCond .ne 5, 3) := by decide +kernel
theorem dX12_readsLetter_30 : decode cX12_readsLetter 30 = .ok (.iconst 0, 1) := by decide +kernel
theorem dX12_readsLetter_31 : decode cX12_readsLetter 31 = .ok (.ireturn, 1) := by decide +kernel
theorem dX12_readsLetter_32 : decode cX12_readsLetter 32 = .ok (.iconst 5, 1) := by decide +kernel
theorem dX12_readsLetter_33 : decode cX12_readsLetter 33 = .ok (.iload_n 1, 1) := by decide +kernel
theorem dX12_readsLetter_34 : decode cX12_readsLetter 34 = .ok (.imul, 1) := by decide +kernel
theorem dX12_readsLetter_35 : decode cX12_readsLetter 35 = .ok (.aload_n 0, 1) := by decide +kernel
theorem dX12_readsLetter_36 : decode cX12_readsLetter 36 = .ok (.getfield 140, 3) := by decide +kernel
theorem dX12_readsLetter_39 : decode cX12_readsLetter 39 = .ok (.iadd, 1) := by decide +kernel
theorem dX12_readsLetter_40 : decode cX12_readsLetter 40 = .ok (.bipush 6, 2) := by decide +kernel
theorem dX12_readsLetter_42 : decode cX12_readsLetter 42 = .ok (.isub, 1) := by decide +kernel
theorem dX12_readsLetter_43 : decode cX12_readsLetter 43 = .ok (.istore_n 2, 1) := by decide +kernel
theorem dX12_readsLetter_44 : decode cX12_readsLetter 44 = .ok (.aload_n 0, 1) := by decide +kernel
theorem dX12_readsLetter_45 : decode cX12_readsLetter 45 = .ok (.getfield 87, 3) := by decide +kernel
theorem dX12_readsLetter_48 : decode cX12_readsLetter 48 = .ok (.aload_n 0, 1) := by decide +kernel
theorem dX12_readsLetter_49 : decode cX12_readsLetter 49 = .ok (.getfield 354, 3) := by decide +kernel
theorem dX12_readsLetter_52 : decode cX12_readsLetter 52 = .ok (.iload_n 2, 1) := by decide +kernel
theorem dX12_readsLetter_53 : decode cX12_readsLetter 53 = .ok (.bipush 10, 2) := by decide +kernel
theorem dX12_readsLetter_55 : decode cX12_readsLetter 55 = .ok (.if_icmp .ge 7, 3) := by decide +kernel
theorem dX12_readsLetter_58 : decode cX12_readsLetter 58 = .ok (.iload_n 2, 1) := by decide +kernel
theorem dX12_readsLetter_59 : decode cX12_readsLetter 59 = .ok (.goto 6, 3) := by decide +kernel
theorem dX12_readsLetter_62 : decode cX12_readsLetter 62 = .ok (.iload_n 2, 1) := by decide +kernel
theorem dX12_readsLetter_63 : decode cX12_readsLetter 63 = .ok (.iconst 1, 1) := by decide +kernel
theorem dX12_readsLetter_64 : decode cX12_readsLetter 64 = .ok (.iadd, 1) := by decide +kernel
theorem dX12_readsLetter_65 : decode cX12_readsLetter 65 = .ok (.iastore, 1) := by decide +kernel
theorem dX12_readsLetter_66 : decode cX12_readsLetter 66 = .ok (.aload_n 0, 1) := by decide +kernel
theorem dX12_readsLetter_67 : decode cX12_readsLetter 67 = .ok (.aload_n 0, 1) := by decide +kernel
theorem dX12_readsLetter_68 : decode cX12_readsLetter 68 = .ok (.getfield 354, 3) := by decide +kernel
theorem dX12_readsLetter_71 : decode cX12_readsLetter 71 = .ok (.iconst 1, 1) := by decide +kernel
theorem dX12_readsLetter_72 : decode cX12_readsLetter 72 = .ok (.iadd, 1) := by decide +kernel
theorem dX12_readsLetter_73 : decode cX12_readsLetter 73 = .ok (.putfield 354, 3) := by decide +kernel
theorem dX12_readsLetter_76 : decode cX12_readsLetter 76 = .ok (.iconst 1, 1) := by decide +kernel
theorem dX12_readsLetter_77 : decode cX12_readsLetter 77 = .ok (.ireturn, 1) := by decide +kernel
theorem dX12_readsPause_0 : decode cX12_readsPause 0 = .ok (.aload_n 0, 1) := by decide +kernel
theorem dX12_readsPause_1 : decode cX12_readsPause 1 = .ok (.bipush 46, 2) := by decide +kernel
theorem dX12_readsPause_3 : decode cX12_readsPause 3 = .ok (.invokevirtual 214, 3) := by decide +kernel
theorem dX12_readsPause_6 : decode cX12_readsPause 6 = .ok (.ifCond .eq 12, 3) := by decide +kernel
theorem dX12_readsPause_9 : decode cX12_readsPause 9 = .ok (.aload_n 0, 1) := by decide +kernel
theorem dX12_readsPause_10 : decode cX12_readsPause 10 = .ok (.bipush 46, 2) := by decide +kernel
theorem dX12_readsPause_12 : decode cX12_readsPause 12 = .ok (.invokevirtual 214, 3) := by decide +kernel
theorem dX12_readsPause_15 : decode cX12_readsPause 15 = .ok (.ifCond .ne 5, 3) := by decide +kernel
theorem dX12_readsPause_18 : decode cX12_readsPause 18 = .ok (.iconst 0, 1) := by decide +kernel
theorem dX12_readsPause_19 : decode cX12_readsPause 19 = .ok (.ireturn, 1) := by decide +kernel
theorem dX12_readsPause_20 : decode cX12_readsPause 20 = .ok (.aload_n 0, 1) := by decide +kernel
theorem dX12_readsPause_21 : decode cX12_readsPause 21 = .ok (.invokevirtual 129, 3) := by decide +kernel
theorem dX12_readsPause_24 : decode cX12_readsPause 24 = .ok (.bipush 46, 2) := by decide +kernel
theorem dX12_readsPause_26 : decode cX12_readsPause 26 = .ok (.if_icmp .ne 15, 3) := by decide +kernel
theorem dX12_readsPause_29 : decode cX12_readsPause 29 = .ok (.aload_n 0, 1) := by decide +kernel
theorem dX12_readsPause_30 : decode cX12_readsPause 30 = .ok (.iconst 3, 1) := by decide +kernel
theorem dX12_readsPause_31 : decode cX12_readsPause 31 = .ok (.aload_n 0, 1) := by decide +kernel
theorem dX12_readsPause_32 : decode cX12_readsPause 32 = .ok (.getfield 123, 3) := by decide +kernel
theorem dX12_readsPause_35 : decode cX12_readsPause 35 = .ok (.invokevirtual 136, 3) := by decide +kernel
theorem dX12_readsPause_38 : decode cX12_readsPause 38 = .ok (.ifCond .eq 7, 3) := by decide +kernel
theorem dX12_readsPause_41 : decode cX12_readsPause 41 = .ok (.iconst 1, 1) := by decide +kernel
theorem dX12_readsPause_42 : decode cX12_readsPause 42 = .ok (.goto 4, 3) := by decide +kernel
theorem dX12_readsPause_45 : decode cX12_readsPause 45 = .ok (.iconst 0, 1) := by decide +kernel
theorem dX12_readsPause_46 : decode cX12_readsPause 46 = .ok (.ireturn, 1) := by decide +kernel
theorem dX12_taps_0 : decode cX12_taps 0 = .ok (.iload_n 1, 1) := by decide +kernel
theorem dX12_taps_1 : decode cX12_taps 1 = .ok (.iconst 1, 1) := by decide +kernel
theorem dX12_taps_2 : decode cX12_taps 2 = .ok (.bipush 60, 2) := by decide +kernel
theorem dX12_taps_4 : decode cX12_taps 4 = .ok (.invokestatic 90, 3) := by decide +kernel
theorem dX12_taps_7 : decode cX12_taps 7 = .ok (.ifCond .eq 27, 3) := by decide +kernel
theorem dX12_taps_10 : decode cX12_taps 10 = .ok (.iload_n 2, 1) := by decide +kernel
theorem dX12_taps_11 : decode cX12_taps 11 = .ok (.iconst 0, 1) := by decide +kernel
theorem dX12_taps_12 : decode cX12_taps 12 = .ok (.bipush 19, 2) := by decide +kernel
theorem dX12_taps_14 : decode cX12_taps 14 = .ok (.invokestatic 90, 3) := by decide +kernel
theorem dX12_taps_17 : decode cX12_taps 17 = .ok (.ifCond .ne 9, 3) := by decide +kernel
theorem dX12_taps_20 : decode cX12_taps 20 = .ok (.iload_n 2, 1) := by decide +kernel
theorem dX12_taps_21 : decode cX12_taps 21 = .ok (.bipush 100, 2) := by decide +kernel
theorem dX12_taps_23 : decode cX12_taps 23 = .ok (.if_icmp .ne 11, 3) := by decide +kernel
theorem dX12_taps_26 : decode cX12_taps 26 = .ok (.iload_n 1, 1) := by decide +kernel
theorem dX12_taps_27 : decode cX12_taps 27 = .ok (.aload_n 0, 1) := by decide +kernel
theorem dX12_taps_28 : decode cX12_taps 28 = .ok (.getfield 115, 3) := by decide +kernel
theorem dX12_taps_31 : decode cX12_taps 31 = .ok (.if_icmp .le 5, 3) := by decide +kernel
theorem dX12_taps_34 : decode cX12_taps 34 = .ok (.iconst (-1), 1) := by decide +kernel
theorem dX12_taps_35 : decode cX12_taps 35 = .ok (.ireturn, 1) := by decide +kernel
theorem dX12_taps_36 : decode cX12_taps 36 = .ok (.aload_n 0, 1) := by decide +kernel
theorem dX12_taps_37 : decode cX12_taps 37 = .ok (.iload_n 1, 1) := by decide +kernel
theorem dX12_taps_38 : decode cX12_taps 38 = .ok (.invokevirtual 208, 3) := by decide +kernel
theorem dX12_taps_41 : decode cX12_taps 41 = .ok (.aload_n 0, 1) := by decide +kernel
theorem dX12_taps_42 : decode cX12_taps 42 = .ok (.iconst 0, 1) := by decide +kernel
theorem dX12_taps_43 : decode cX12_taps 43 = .ok (.putfield 354, 3) := by decide +kernel
theorem dX12_taps_46 : decode cX12_taps 46 = .ok (.aload_n 0, 1) := by decide +kernel
theorem dX12_taps_47 : decode cX12_taps 47 = .ok (.invokevirtual 357, 3) := by decide +kernel
theorem dX12_taps_50 : decode cX12_taps 50 = .ok (.istore_n 3, 1) := by decide +kernel
theorem dX12_taps_51 : decode cX12_taps 51 = .ok (.iload_n 3, 1) := by decide +kernel
theorem dX12_taps_52 : decode cX12_taps 52 = .ok (.ifCond .eq 37, 3) := by decide +kernel
theorem dX12_taps_55 : decode cX12_taps 55 = .ok (.aload_n 0, 1) := by decide +kernel
theorem dX12_taps_56 : decode cX12_taps 56 = .ok (.getfield 123, 3) := by decide +kernel
theorem dX12_taps_59 : decode cX12_taps 59 = .ok (.aload_n 0, 1) := by decide +kernel
theorem dX12_taps_60 : decode cX12_taps 60 = .ok (.getfield 126, 3) := by decide +kernel
theorem dX12_taps_63 : decode cX12_taps 63 = .ok (.if_icmp .ge 26, 3) := by decide +kernel
theorem dX12_taps_66 : decode cX12_taps 66 = .ok (.aload_n 0, 1) := by decide +kernel
theorem dX12_taps_67 : decode cX12_taps 67 = .ok (.invokevirtual 360, 3) := by decide +kernel
theorem dX12_taps_70 : decode cX12_taps 70 = .ok (.ifCond .eq 14, 3) := by decide +kernel
theorem dX12_taps_73 : decode cX12_taps 73 = .ok (.aload_n 0, 1) := by decide +kernel
theorem dX12_taps_74 : decode cX12_taps 74 = .ok (.invokevirtual 357, 3) := by decide +kernel
theorem dX12_taps_77 : decode cX12_taps 77 = .ok (.ifCond .eq 7, 3) := by decide +kernel
theorem dX12_taps_80 : decode cX12_taps 80 = .ok (.iconst 1, 1) := by decide +kernel
theorem dX12_taps_81 : decode cX12_taps 81 = .ok (.goto 4, 3) := by decide +kernel
theorem dX12_taps_84 : decode cX12_taps 84 = .ok (.iconst 0, 1) := by decide +kernel
theorem dX12_taps_85 : decode cX12_taps 85 = .ok (.istore_n 3, 1) := by decide +kernel
theorem dX12_taps_86 : decode cX12_taps 86 = .ok (.goto (-35), 3) := by decide +kernel
theorem dX12_taps_89 : decode cX12_taps 89 = .ok (.aload_n 0, 1) := by decide +kernel
theorem dX12_taps_90 : decode cX12_taps 90 = .ok (.iconst 0, 1) := by decide +kernel
theorem dX12_taps_91 : decode cX12_taps 91 = .ok (.putfield 115, 3) := by decide +kernel
theorem dX12_taps_94 : decode cX12_taps 94 = .ok (.iload_n 3, 1) := by decide +kernel
theorem dX12_taps_95 : decode cX12_taps 95 = .ok (.ifCond .ne 8, 3) := by decide +kernel
theorem dX12_taps_98 : decode cX12_taps 98 = .ok (.aload_n 0, 1) := by decide +kernel
theorem dX12_taps_99 : decode cX12_taps 99 = .ok (.getfield 133, 3) := by decide +kernel
theorem dX12_taps_102 : decode cX12_taps 102 = .ok (.ireturn, 1) := by decide +kernel
theorem dX12_taps_103 : decode cX12_taps 103 = .ok (.iload_n 2, 1) := by decide +kernel
theorem dX12_taps_104 : decode cX12_taps 104 = .ok (.bipush 100, 2) := by decide +kernel
theorem dX12_taps_106 : decode cX12_taps 106 = .ok (.if_icmp .ne 10, 3) := by decide +kernel
theorem dX12_taps_109 : decode cX12_taps 109 = .ok (.aload_n 0, 1) := by decide +kernel
theorem dX12_taps_110 : decode cX12_taps 110 = .ok (.getfield 354, 3) := by decide +kernel
theorem dX12_taps_113 : decode cX12_taps 113 = .ok (.goto 22, 3) := by decide +kernel
theorem dX12_taps_116 : decode cX12_taps 116 = .ok (.iload_n 2, 1) := by decide +kernel
theorem dX12_taps_117 : decode cX12_taps 117 = .ok (.aload_n 0, 1) := by decide +kernel
theorem dX12_taps_118 : decode cX12_taps 118 = .ok (.getfield 354, 3) := by decide +kernel
theorem dX12_taps_121 : decode cX12_taps 121 = .ok (.if_icmp .ge 12, 3) := by decide +kernel
theorem dX12_taps_124 : decode cX12_taps 124 = .ok (.aload_n 0, 1) := by decide +kernel
theorem dX12_taps_125 : decode cX12_taps 125 = .ok (.getfield 87, 3) := by decide +kernel
theorem dX12_taps_128 : decode cX12_taps 128 = .ok (.iload_n 2, 1) := by decide +kernel
theorem dX12_taps_129 : decode cX12_taps 129 = .ok (.iaload, 1) := by decide +kernel
theorem dX12_taps_130 : decode cX12_taps 130 = .ok (.goto 5, 3) := by decide +kernel
theorem dX12_taps_133 : decode cX12_taps 133 = .ok (.bipush (-4), 2) := by decide +kernel
theorem dX12_taps_135 : decode cX12_taps 135 = .ok (.ireturn, 1) := by decide +kernel
theorem dX12_tapped_0 : decode cX12_tapped 0 = .ok (.iload_n 1, 1) := by decide +kernel
theorem dX12_tapped_1 : decode cX12_tapped 1 = .ok (.iconst 1, 1) := by decide +kernel
theorem dX12_tapped_2 : decode cX12_tapped 2 = .ok (.bipush 40, 2) := by decide +kernel
theorem dX12_tapped_4 : decode cX12_tapped 4 = .ok (.invokestatic 90, 3) := by decide +kernel
theorem dX12_tapped_7 : decode cX12_tapped 7 = .ok (.ifCond .eq 11, 3) := by decide +kernel
theorem dX12_tapped_10 : decode cX12_tapped 10 = .ok (.iload_n 1, 1) := by decide +kernel
theorem dX12_tapped_11 : decode cX12_tapped 11 = .ok (.aload_n 0, 1) := by decide +kernel
theorem dX12_tapped_12 : decode cX12_tapped 12 = .ok (.getfield 115, 3) := by decide +kernel
theorem dX12_tapped_15 : decode cX12_tapped 15 = .ok (.if_icmp .le 5, 3) := by decide +kernel
theorem dX12_tapped_18 : decode cX12_tapped 18 = .ok (.iconst (-1), 1) := by decide +kernel
theorem dX12_tapped_19 : decode cX12_tapped 19 = .ok (.ireturn, 1) := by decide +kernel
theorem dX12_tapped_20 : decode cX12_tapped 20 = .ok (.aload_n 0, 1) := by decide +kernel
theorem dX12_tapped_21 : decode cX12_tapped 21 = .ok (.iconst 0, 1) := by decide +kernel
theorem dX12_tapped_22 : decode cX12_tapped 22 = .ok (.putfield 115, 3) := by decide +kernel
theorem dX12_tapped_25 : decode cX12_tapped 25 = .ok (.iconst 2, 1) := by decide +kernel
theorem dX12_tapped_26 : decode cX12_tapped 26 = .ok (.iload_n 1, 1) := by decide +kernel
theorem dX12_tapped_27 : decode cX12_tapped 27 = .ok (.imul, 1) := by decide +kernel
theorem dX12_tapped_28 : decode cX12_tapped 28 = .ok (.iconst 2, 1) := by decide +kernel
theorem dX12_tapped_29 : decode cX12_tapped 29 = .ok (.isub, 1) := by decide +kernel
theorem dX12_tapped_30 : decode cX12_tapped 30 = .ok (.istore_n 2, 1) := by decide +kernel
theorem dX12_tapped_31 : decode cX12_tapped 31 = .ok (.iconst 0, 1) := by decide +kernel
theorem dX12_tapped_32 : decode cX12_tapped 32 = .ok (.istore_n 3, 1) := by decide +kernel
theorem dX12_tapped_33 : decode cX12_tapped 33 = .ok (.iload_n 3, 1) := by decide +kernel
theorem dX12_tapped_34 : decode cX12_tapped 34 = .ok (.iload_n 1, 1) := by decide +kernel
theorem dX12_tapped_35 : decode cX12_tapped 35 = .ok (.if_icmp .ge 73, 3) := by decide +kernel
theorem dX12_tapped_38 : decode cX12_tapped 38 = .ok (.aload_n 0, 1) := by decide +kernel
theorem dX12_tapped_39 : decode cX12_tapped 39 = .ok (.iload_n 3, 1) := by decide +kernel
theorem dX12_tapped_40 : decode cX12_tapped 40 = .ok (.invokevirtual 338, 3) := by decide +kernel
theorem dX12_tapped_43 : decode cX12_tapped 43 = .ok (.bipush 65, 2) := by decide +kernel
theorem dX12_tapped_45 : decode cX12_tapped 45 = .ok (.isub, 1) := by decide +kernel
theorem dX12_tapped_46 : decode cX12_tapped 46 = .ok (.istore 4, 2) := by decide +kernel
theorem dX12_tapped_48 : decode cX12_tapped 48 = .ok (.iload 4, 2) := by decide +kernel
theorem dX12_tapped_50 : decode cX12_tapped 50 = .ok (.iconst 0, 1) := by decide +kernel
theorem dX12_tapped_51 : decode cX12_tapped 51 = .ok (.bipush 25, 2) := by decide +kernel
theorem dX12_tapped_53 : decode cX12_tapped 53 = .ok (.invokestatic 90, 3) := by decide +kernel
theorem dX12_tapped_56 : decode cX12_tapped 56 = .ok (.ifCond .ne 9, 3) := by decide +kernel
theorem dX12_tapped_59 : decode cX12_tapped 59 = .ok (.sipush (-1000), 3) := by decide +kernel
theorem dX12_tapped_62 : decode cX12_tapped 62 = .ok (.iload_n 3, 1) := by decide +kernel
theorem dX12_tapped_63 : decode cX12_tapped 63 = .ok (.isub, 1) := by decide +kernel
theorem dX12_tapped_64 : decode cX12_tapped 64 = .ok (.ireturn, 1) := by decide +kernel
theorem dX12_tapped_65 : decode cX12_tapped 65 = .ok (.iload 4, 2) := by decide +kernel
theorem dX12_tapped_67 : decode cX12_tapped 67 = .ok (.bipush 10, 2) := by decide +kernel
theorem dX12_tapped_69 : decode cX12_tapped 69 = .ok (.if_icmp .ne 6, 3) := by decide +kernel
theorem dX12_tapped_72 : decode cX12_tapped 72 = .ok (.iconst 2, 1) := by decide +kernel
theorem dX12_tapped_73 : decode cX12_tapped 73 = .ok (.istore 4, 2) := by decide +kernel
theorem dX12_tapped_75 : decode cX12_tapped 75 = .ok (.iload 4, 2) := by decide +kernel
theorem dX12_tapped_77 : decode cX12_tapped 77 = .ok (.bipush 10, 2) := by decide +kernel
theorem dX12_tapped_79 : decode cX12_tapped 79 = .ok (.if_icmp .le 9, 3) := by decide +kernel
theorem dX12_tapped_82 : decode cX12_tapped 82 = .ok (.iload 4, 2) := by decide +kernel
theorem dX12_tapped_84 : decode cX12_tapped 84 = .ok (.iconst 1, 1) := by decide +kernel
theorem dX12_tapped_85 : decode cX12_tapped 85 = .ok (.isub, 1) := by decide +kernel
theorem dX12_tapped_86 : decode cX12_tapped 86 = .ok (.istore 4, 2) := by decide +kernel
theorem dX12_tapped_88 : decode cX12_tapped 88 = .ok (.iload_n 2, 1) := by decide +kernel
theorem dX12_tapped_89 : decode cX12_tapped 89 = .ok (.iload 4, 2) := by decide +kernel
theorem dX12_tapped_91 : decode cX12_tapped 91 = .ok (.iconst 5, 1) := by decide +kernel
theorem dX12_tapped_92 : decode cX12_tapped 92 = .ok (.idiv, 1) := by decide +kernel
theorem dX12_tapped_93 : decode cX12_tapped 93 = .ok (.iadd, 1) := by decide +kernel
theorem dX12_tapped_94 : decode cX12_tapped 94 = .ok (.iload 4, 2) := by decide +kernel
theorem dX12_tapped_96 : decode cX12_tapped 96 = .ok (.iconst 5, 1) := by decide +kernel
theorem dX12_tapped_97 : decode cX12_tapped 97 = .ok (.irem, 1) := by decide +kernel
theorem dX12_tapped_98 : decode cX12_tapped 98 = .ok (.iadd, 1) := by decide +kernel
theorem dX12_tapped_99 : decode cX12_tapped 99 = .ok (.iconst 3, 1) := by decide +kernel
theorem dX12_tapped_100 : decode cX12_tapped 100 = .ok (.iadd, 1) := by decide +kernel
theorem dX12_tapped_101 : decode cX12_tapped 101 = .ok (.istore_n 2, 1) := by decide +kernel
theorem dX12_tapped_102 : decode cX12_tapped 102 = .ok (.iinc 3 1, 3) := by decide +kernel
theorem dX12_tapped_105 : decode cX12_tapped 105 = .ok (.goto (-72), 3) := by decide +kernel
theorem dX12_tapped_108 : decode cX12_tapped 108 = .ok (.iload_n 2, 1) := by decide +kernel
theorem dX12_tapped_109 : decode cX12_tapped 109 = .ok (.ireturn, 1) := by decide +kernel
theorem dX12_roundOf_0 : decode cX12_roundOf 0 = .ok (.iconst 1, 1) := by decide +kernel
theorem dX12_roundOf_1 : decode cX12_roundOf 1 = .ok (.istore_n 2, 1) := by decide +kernel
theorem dX12_roundOf_2 : decode cX12_roundOf 2 = .ok (.aload_n 0, 1) := by decide +kernel
theorem dX12_roundOf_3 : decode cX12_roundOf 3 = .ok (.iload_n 1, 1) := by decide +kernel
theorem dX12_roundOf_4 : decode cX12_roundOf 4 = .ok (.invokevirtual 338, 3) := by decide +kernel
theorem dX12_roundOf_7 : decode cX12_roundOf 7 = .ok (.istore_n 3, 1) := by decide +kernel
theorem dX12_roundOf_8 : decode cX12_roundOf 8 = .ok (.iload_n 3, 1) := by decide +kernel
theorem dX12_roundOf_9 : decode cX12_roundOf 9 = .ok (.iload_n 1, 1) := by decide +kernel
theorem dX12_roundOf_10 : decode cX12_roundOf 10 = .ok (.if_icmp .eq 16, 3) := by decide +kernel
theorem dX12_roundOf_13 : decode cX12_roundOf 13 = .ok (.aload_n 0, 1) := by decide +kernel
theorem dX12_roundOf_14 : decode cX12_roundOf 14 = .ok (.iload_n 3, 1) := by decide +kernel
theorem dX12_roundOf_15 : decode cX12_roundOf 15 = .ok (.invokevirtual 338, 3) := by decide +kernel
theorem dX12_roundOf_18 : decode cX12_roundOf 18 = .ok (.istore_n 3, 1) := by decide +kernel
theorem dX12_roundOf_19 : decode cX12_roundOf 19 = .ok (.iload_n 2, 1) := by decide +kernel
theorem dX12_roundOf_20 : decode cX12_roundOf 20 = .ok (.iconst 1, 1) := by decide +kernel
theorem dX12_roundOf_21 : decode cX12_roundOf 21 = .ok (.iadd, 1) := by decide +kernel
theorem dX12_roundOf_22 : decode cX12_roundOf 22 = .ok (.istore_n 2, 1) := by decide +kernel
theorem dX12_roundOf_23 : decode cX12_roundOf 23 = .ok (.goto (-15), 3) := by decide +kernel
theorem dX12_roundOf_26 : decode cX12_roundOf 26 = .ok (.iload_n 2, 1) := by decide +kernel
theorem dX12_roundOf_27 : decode cX12_roundOf 27 = .ok (.ireturn, 1) := by decide +kernel
theorem dX12_isOnceEach_0 : decode cX12_isOnceEach 0 = .ok (.iconst 0, 1) := by decide +kernel
theorem dX12_isOnceEach_1 : decode cX12_isOnceEach 1 = .ok (.istore_n 2, 1) := by decide +kernel
theorem dX12_isOnceEach_2 : decode cX12_isOnceEach 2 = .ok (.iconst 0, 1) := by decide +kernel
theorem dX12_isOnceEach_3 : decode cX12_isOnceEach 3 = .ok (.istore_n 3, 1) := by decide +kernel
theorem dX12_isOnceEach_4 : decode cX12_isOnceEach 4 = .ok (.iload_n 3, 1) := by decide +kernel
theorem dX12_isOnceEach_5 : decode cX12_isOnceEach 5 = .ok (.iload_n 1, 1) := by decide +kernel
theorem dX12_isOnceEach_6 : decode cX12_isOnceEach 6 = .ok (.if_icmp .ge 42, 3) := by decide +kernel
theorem dX12_isOnceEach_9 : decode cX12_isOnceEach 9 = .ok (.aload_n 0, 1) := by decide +kernel
theorem dX12_isOnceEach_10 : decode cX12_isOnceEach 10 = .ok (.iload_n 3, 1) := by decide +kernel
theorem dX12_isOnceEach_11 : decode cX12_isOnceEach 11 = .ok (.invokevirtual 338, 3) := by decide +kernel
theorem dX12_isOnceEach_14 : decode cX12_isOnceEach 14 = .ok (.iload_n 1, 1) := by decide +kernel
theorem dX12_isOnceEach_15 : decode cX12_isOnceEach 15 = .ok (.if_icmp .ge 15, 3) := by decide +kernel
theorem dX12_isOnceEach_18 : decode cX12_isOnceEach 18 = .ok (.iload_n 2, 1) := by decide +kernel
theorem dX12_isOnceEach_19 : decode cX12_isOnceEach 19 = .ok (.aload_n 0, 1) := by decide +kernel
theorem dX12_isOnceEach_20 : decode cX12_isOnceEach 20 = .ok (.iload_n 3, 1) := by decide +kernel
theorem dX12_isOnceEach_21 : decode cX12_isOnceEach 21 = .ok (.invokevirtual 338, 3) := by decide +kernel
theorem dX12_isOnceEach_24 : decode cX12_isOnceEach 24 = .ok (.invokestatic 326, 3) := by decide +kernel
theorem dX12_isOnceEach_27 : decode cX12_isOnceEach 27 = .ok (.ifCond .eq 5, 3) := by decide +kernel
theorem dX12_isOnceEach_30 : decode cX12_isOnceEach 30 = .ok (.iconst 0, 1) := by decide +kernel
theorem dX12_isOnceEach_31 : decode cX12_isOnceEach 31 = .ok (.ireturn, 1) := by decide +kernel
theorem dX12_isOnceEach_32 : decode cX12_isOnceEach 32 = .ok (.iload_n 2, 1) := by decide +kernel
theorem dX12_isOnceEach_33 : decode cX12_isOnceEach 33 = .ok (.iconst 1, 1) := by decide +kernel
theorem dX12_isOnceEach_34 : decode cX12_isOnceEach 34 = .ok (.aload_n 0, 1) := by decide +kernel
theorem dX12_isOnceEach_35 : decode cX12_isOnceEach 35 = .ok (.iload_n 3, 1) := by decide +kernel
theorem dX12_isOnceEach_36 : decode cX12_isOnceEach 36 = .ok (.invokevirtual 338, 3) := by decide +kernel
theorem dX12_isOnceEach_39 : decode cX12_isOnceEach 39 = .ok (.ishl, 1) := by decide +kernel
theorem dX12_isOnceEach_40 : decode cX12_isOnceEach 40 = .ok (.ior, 1) := by decide +kernel
theorem dX12_isOnceEach_41 : decode cX12_isOnceEach 41 = .ok (.istore_n 2, 1) := by decide +kernel
theorem dX12_isOnceEach_42 : decode cX12_isOnceEach 42 = .ok (.iinc 3 1, 3) := by decide +kernel
theorem dX12_isOnceEach_45 : decode cX12_isOnceEach 45 = .ok (.goto (-41), 3) := by decide +kernel
theorem dX12_isOnceEach_48 : decode cX12_isOnceEach 48 = .ok (.iconst 1, 1) := by decide +kernel
theorem dX12_isOnceEach_49 : decode cX12_isOnceEach 49 = .ok (.ireturn, 1) := by decide +kernel
theorem dX12_linen_0 : decode cX12_linen 0 = .ok (.iload_n 1, 1) := by decide +kernel
theorem dX12_linen_1 : decode cX12_linen 1 = .ok (.iconst 1, 1) := by decide +kernel
theorem dX12_linen_2 : decode cX12_linen 2 = .ok (.bipush 24, 2) := by decide +kernel
theorem dX12_linen_4 : decode cX12_linen 4 = .ok (.invokestatic 90, 3) := by decide +kernel
theorem dX12_linen_7 : decode cX12_linen 7 = .ok (.ifCond .eq 44, 3) := by decide +kernel
theorem dX12_linen_10 : decode cX12_linen 10 = .ok (.iload_n 2, 1) := by decide +kernel
theorem dX12_linen_11 : decode cX12_linen 11 = .ok (.iconst 0, 1) := by decide +kernel
theorem dX12_linen_12 : decode cX12_linen 12 = .ok (.ldc_w 312, 3) := by decide +kernel
theorem dX12_linen_15 : decode cX12_linen 15 = .ok (.invokestatic 90, 3) := by decide +kernel
theorem dX12_linen_18 : decode cX12_linen 18 = .ok (.ifCond .eq 33, 3) := by decide +kernel
theorem dX12_linen_21 : decode cX12_linen 21 = .ok (.iload_n 3, 1) := by decide +kernel
theorem dX12_linen_22 : decode cX12_linen 22 = .ok (.bipush 100, 2) := by decide +kernel
theorem dX12_linen_24 : decode cX12_linen 24 = .ok (.bipush 101, 2) := by decide +kernel
theorem dX12_linen_26 : decode cX12_linen 26 = .ok (.invokestatic 90, 3) := by decide +kernel
theorem dX12_linen_29 : decode cX12_linen 29 = .ok (.ifCond .ne 14, 3) := by decide +kernel
theorem dX12_linen_32 : decode cX12_linen 32 = .ok (.iload_n 3, 1) := by decide +kernel
theorem dX12_linen_33 : decode cX12_linen 33 = .ok (.iconst 0, 1) := by decide +kernel
theorem dX12_linen_34 : decode cX12_linen 34 = .ok (.iload_n 1, 1) := by decide +kernel
theorem dX12_linen_35 : decode cX12_linen 35 = .ok (.iconst 1, 1) := by decide +kernel
theorem dX12_linen_36 : decode cX12_linen 36 = .ok (.isub, 1) := by decide +kernel
theorem dX12_linen_37 : decode cX12_linen 37 = .ok (.invokestatic 90, 3) := by decide +kernel
theorem dX12_linen_40 : decode cX12_linen 40 = .ok (.ifCond .eq 11, 3) := by decide +kernel
theorem dX12_linen_43 : decode cX12_linen 43 = .ok (.iload_n 1, 1) := by decide +kernel
theorem dX12_linen_44 : decode cX12_linen 44 = .ok (.aload_n 0, 1) := by decide +kernel
theorem dX12_linen_45 : decode cX12_linen 45 = .ok (.getfield 115, 3) := by decide +kernel
theorem dX12_linen_48 : decode cX12_linen 48 = .ok (.if_icmp .le 5, 3) := by decide +kernel
theorem dX12_linen_51 : decode cX12_linen 51 = .ok (.iconst (-1), 1) := by decide +kernel
theorem dX12_linen_52 : decode cX12_linen 52 = .ok (.ireturn, 1) := by decide +kernel
theorem dX12_linen_53 : decode cX12_linen 53 = .ok (.aload_n 0, 1) := by decide +kernel
theorem dX12_linen_54 : decode cX12_linen 54 = .ok (.iconst 0, 1) := by decide +kernel
theorem dX12_linen_55 : decode cX12_linen 55 = .ok (.putfield 115, 3) := by decide +kernel
theorem dX12_linen_58 : decode cX12_linen 58 = .ok (.aload_n 0, 1) := by decide +kernel
theorem dX12_linen_59 : decode cX12_linen 59 = .ok (.iload_n 1, 1) := by decide +kernel
theorem dX12_linen_60 : decode cX12_linen 60 = .ok (.invokevirtual 363, 3) := by decide +kernel
theorem dX12_linen_63 : decode cX12_linen 63 = .ok (.ifCond .ne 6, 3) := by decide +kernel
theorem dX12_linen_66 : decode cX12_linen 66 = .ok (.bipush (-2), 2) := by decide +kernel
theorem dX12_linen_68 : decode cX12_linen 68 = .ok (.ireturn, 1) := by decide +kernel
theorem dX12_linen_69 : decode cX12_linen 69 = .ok (.iload_n 3, 1) := by decide +kernel
theorem dX12_linen_70 : decode cX12_linen 70 = .ok (.bipush 100, 2) := by decide +kernel
theorem dX12_linen_72 : decode cX12_linen 72 = .ok (.if_icmp .ge 42, 3) := by decide +kernel
theorem dX12_linen_75 : decode cX12_linen 75 = .ok (.iload_n 3, 1) := by decide +kernel
theorem dX12_linen_76 : decode cX12_linen 76 = .ok (.istore 4, 2) := by decide +kernel
theorem dX12_linen_78 : decode cX12_linen 78 = .ok (.iload_n 2, 1) := by decide +kernel
theorem dX12_linen_79 : decode cX12_linen 79 = .ok (.aload_n 0, 1) := by decide +kernel
theorem dX12_linen_80 : decode cX12_linen 80 = .ok (.iload_n 3, 1) := by decide +kernel
theorem dX12_linen_81 : decode cX12_linen 81 = .ok (.invokevirtual 366, 3) := by decide +kernel
theorem dX12_linen_84 : decode cX12_linen 84 = .ok (.irem, 1) := by decide +kernel
theorem dX12_linen_85 : decode cX12_linen 85 = .ok (.istore 5, 2) := by decide +kernel
theorem dX12_linen_87 : decode cX12_linen 87 = .ok (.iconst 0, 1) := by decide +kernel
theorem dX12_linen_88 : decode cX12_linen 88 = .ok (.istore 6, 2) := by decide +kernel
theorem dX12_linen_90 : decode cX12_linen 90 = .ok (.iload 6, 2) := by decide +kernel
theorem dX12_linen_92 : decode cX12_linen 92 = .ok (.iload 5, 2) := by decide +kernel
theorem dX12_linen_94 : decode cX12_linen 94 = .ok (.if_icmp .ge 17, 3) := by decide +kernel
theorem dX12_linen_97 : decode cX12_linen 97 = .ok (.aload_n 0, 1) := by decide +kernel
theorem dX12_linen_98 : decode cX12_linen 98 = .ok (.iload 4, 2) := by decide +kernel
theorem dX12_linen_100 : decode cX12_linen 100 = .ok (.invokevirtual 338, 3) := by decide +kernel
theorem dX12_linen_103 : decode cX12_linen 103 = .ok (.istore 4, 2) := by decide +kernel
theorem dX12_linen_105 : decode cX12_linen 105 = .ok (.iinc 6 1, 3) := by decide +kernel
theorem dX12_linen_108 : decode cX12_linen 108 = .ok (.goto (-18), 3) := by decide +kernel
theorem dX12_linen_111 : decode cX12_linen 111 = .ok (.iload 4, 2) := by decide +kernel
theorem dX12_linen_113 : decode cX12_linen 113 = .ok (.ireturn, 1) := by decide +kernel
theorem dX12_linen_114 : decode cX12_linen 114 = .ok (.iconst 1, 1) := by decide +kernel
theorem dX12_linen_115 : decode cX12_linen 115 = .ok (.istore 4, 2) := by decide +kernel
theorem dX12_linen_117 : decode cX12_linen 117 = .ok (.iconst 1, 1) := by decide +kernel
theorem dX12_linen_118 : decode cX12_linen 118 = .ok (.iload_n 1, 1) := by decide +kernel
theorem dX12_linen_119 : decode cX12_linen 119 = .ok (.ishl, 1) := by decide +kernel
theorem dX12_linen_120 : decode cX12_linen 120 = .ok (.iconst 1, 1) := by decide +kernel
theorem dX12_linen_121 : decode cX12_linen 121 = .ok (.isub, 1) := by decide +kernel
theorem dX12_linen_122 : decode cX12_linen 122 = .ok (.istore 5, 2) := by decide +kernel
theorem dX12_linen_124 : decode cX12_linen 124 = .ok (.iconst 0, 1) := by decide +kernel
theorem dX12_linen_125 : decode cX12_linen 125 = .ok (.istore 6, 2) := by decide +kernel
theorem dX12_linen_127 : decode cX12_linen 127 = .ok (.iconst 0, 1) := by decide +kernel
theorem dX12_linen_128 : decode cX12_linen 128 = .ok (.istore 7, 2) := by decide +kernel
theorem dX12_linen_130 : decode cX12_linen 130 = .ok (.iload 7, 2) := by decide +kernel
theorem dX12_linen_132 : decode cX12_linen 132 = .ok (.iload_n 1, 1) := by decide +kernel
theorem dX12_linen_133 : decode cX12_linen 133 = .ok (.if_icmp .ge 99, 3) := by decide +kernel
theorem dX12_linen_136 : decode cX12_linen 136 = .ok (.iload 4, 2) := by decide +kernel
theorem dX12_linen_138 : decode cX12_linen 138 = .ok (.iload 4, 2) := by decide +kernel
theorem dX12_linen_140 : decode cX12_linen 140 = .ok (.aload_n 0, 1) := by decide +kernel
theorem dX12_linen_141 : decode cX12_linen 141 = .ok (.iload 7, 2) := by decide +kernel
theorem dX12_linen_143 : decode cX12_linen 143 = .ok (.invokevirtual 366, 3) := by decide +kernel
theorem dX12_linen_146 : decode cX12_linen 146 = .ok (.invokestatic 297, 3) := by decide +kernel
theorem dX12_linen_149 : decode cX12_linen 149 = .ok (.idiv, 1) := by decide +kernel
theorem dX12_linen_150 : decode cX12_linen 150 = .ok (.aload_n 0, 1) := by decide +kernel
theorem dX12_linen_151 : decode cX12_linen 151 = .ok (.iload 7, 2) := by decide +kernel
theorem dX12_linen_153 : decode cX12_linen 153 = .ok (.invokevirtual 366, 3) := by decide +kernel
theorem dX12_linen_156 : decode cX12_linen 156 = .ok (.imul, 1) := by decide +kernel
theorem dX12_linen_157 : decode cX12_linen 157 = .ok (.istore 4, 2) := by decide +kernel
theorem dX12_linen_159 : decode cX12_linen 159 = .ok (.iload 5, 2) := by decide +kernel
theorem dX12_linen_161 : decode cX12_linen 161 = .ok (.iload 7, 2) := by decide +kernel
theorem dX12_linen_163 : decode cX12_linen 163 = .ok (.invokestatic 326, 3) := by decide +kernel
theorem dX12_linen_166 : decode cX12_linen 166 = .ok (.ifCond .ne 6, 3) := by decide +kernel
theorem dX12_linen_169 : decode cX12_linen 169 = .ok (.goto 57, 3) := by decide +kernel
theorem dX12_linen_172 : decode cX12_linen 172 = .ok (.iload 6, 2) := by decide +kernel
theorem dX12_linen_174 : decode cX12_linen 174 = .ok (.iconst 1, 1) := by decide +kernel
theorem dX12_linen_175 : decode cX12_linen 175 = .ok (.iadd, 1) := by decide +kernel
theorem dX12_linen_176 : decode cX12_linen 176 = .ok (.istore 6, 2) := by decide +kernel
theorem dX12_linen_178 : decode cX12_linen 178 = .ok (.aload_n 0, 1) := by decide +kernel
theorem dX12_linen_179 : decode cX12_linen 179 = .ok (.iload 7, 2) := by decide +kernel
theorem dX12_linen_181 : decode cX12_linen 181 = .ok (.invokevirtual 338, 3) := by decide +kernel
theorem dX12_linen_184 : decode cX12_linen 184 = .ok (.istore 8, 2) := by decide +kernel
theorem dX12_linen_186 : decode cX12_linen 186 = .ok (.iload 5, 2) := by decide +kernel
theorem dX12_linen_188 : decode cX12_linen 188 = .ok (.iconst 1, 1) := by decide +kernel
theorem dX12_linen_189 : decode cX12_linen 189 = .ok (.iload 7, 2) := by decide +kernel
theorem dX12_linen_191 : decode cX12_linen 191 = .ok (.ishl, 1) := by decide +kernel
theorem dX12_linen_192 : decode cX12_linen 192 = .ok (.iconst (-1), 1) := by decide +kernel
theorem dX12_linen_193 : decode cX12_linen 193 = .ok (.ixor, 1) := by decide +kernel
theorem dX12_linen_194 : decode cX12_linen 194 = .ok (.iand, 1) := by decide +kernel
theorem dX12_linen_195 : decode cX12_linen 195 = .ok (.istore 5, 2) := by decide +kernel
theorem dX12_linen_197 : decode cX12_linen 197 = .ok (.iload 8, 2) := by decide +kernel
theorem dX12_linen_199 : decode cX12_linen 199 = .ok (.iload 7, 2) := by decide +kernel
theorem dX12_linen_201 : decode cX12_linen 201 = .ok (.if_icmp .eq 25, 3) := by decide +kernel
theorem dX12_linen_204 : decode cX12_linen 204 = .ok (.iload 5, 2) := by decide +kernel
theorem dX12_linen_206 : decode cX12_linen 206 = .ok (.iconst 1, 1) := by decide +kernel
theorem dX12_linen_207 : decode cX12_linen 207 = .ok (.iload 8, 2) := by decide +kernel
theorem dX12_linen_209 : decode cX12_linen 209 = .ok (.ishl, 1) := by decide +kernel
theorem dX12_linen_210 : decode cX12_linen 210 = .ok (.iconst (-1), 1) := by decide +kernel
theorem dX12_linen_211 : decode cX12_linen 211 = .ok (.ixor, 1) := by decide +kernel
theorem dX12_linen_212 : decode cX12_linen 212 = .ok (.iand, 1) := by decide +kernel
theorem dX12_linen_213 : decode cX12_linen 213 = .ok (.istore 5, 2) := by decide +kernel
theorem dX12_linen_215 : decode cX12_linen 215 = .ok (.aload_n 0, 1) := by decide +kernel
theorem dX12_linen_216 : decode cX12_linen 216 = .ok (.iload 8, 2) := by decide +kernel
theorem dX12_linen_218 : decode cX12_linen 218 = .ok (.invokevirtual 338, 3) := by decide +kernel
theorem dX12_linen_221 : decode cX12_linen 221 = .ok (.istore 8, 2) := by decide +kernel
theorem dX12_linen_223 : decode cX12_linen 223 = .ok (.goto (-26), 3) := by decide +kernel
theorem dX12_linen_226 : decode cX12_linen 226 = .ok (.iinc 7 1, 3) := by decide +kernel
theorem dX12_linen_229 : decode cX12_linen 229 = .ok (.goto (-99), 3) := by decide +kernel
theorem dX12_linen_232 : decode cX12_linen 232 = .ok (.iload_n 3, 1) := by decide +kernel
theorem dX12_linen_233 : decode cX12_linen 233 = .ok (.bipush 100, 2) := by decide +kernel
theorem dX12_linen_235 : decode cX12_linen 235 = .ok (.if_icmp .ne 8, 3) := by decide +kernel
theorem dX12_linen_238 : decode cX12_linen 238 = .ok (.iload 4, 2) := by decide +kernel
theorem dX12_linen_240 : decode cX12_linen 240 = .ok (.goto 5, 3) := by decide +kernel
theorem dX12_linen_243 : decode cX12_linen 243 = .ok (.iload 6, 2) := by decide +kernel
theorem dX12_linen_245 : decode cX12_linen 245 = .ok (.ireturn, 1) := by decide +kernel
theorem dX12_placeOf_0 : decode cX12_placeOf 0 = .ok (.iconst 0, 1) := by decide +kernel
theorem dX12_placeOf_1 : decode cX12_placeOf 1 = .ok (.istore_n 2, 1) := by decide +kernel
theorem dX12_placeOf_2 : decode cX12_placeOf 2 = .ok (.iconst 0, 1) := by decide +kernel
theorem dX12_placeOf_3 : decode cX12_placeOf 3 = .ok (.istore_n 3, 1) := by decide +kernel
theorem dX12_placeOf_4 : decode cX12_placeOf 4 = .ok (.iload_n 3, 1) := by decide +kernel
theorem dX12_placeOf_5 : decode cX12_placeOf 5 = .ok (.bipush 24, 2) := by decide +kernel
theorem dX12_placeOf_7 : decode cX12_placeOf 7 = .ok (.if_icmp .ge 56, 3) := by decide +kernel
theorem dX12_placeOf_10 : decode cX12_placeOf 10 = .ok (.aload_n 0, 1) := by decide +kernel
theorem dX12_placeOf_11 : decode cX12_placeOf 11 = .ok (.getfield 7, 3) := by decide +kernel
theorem dX12_placeOf_14 : decode cX12_placeOf 14 = .ok (.iconst 0, 1) := by decide +kernel
theorem dX12_placeOf_15 : decode cX12_placeOf 15 = .ok (.iload_n 3, 1) := by decide +kernel
theorem dX12_placeOf_16 : decode cX12_placeOf 16 = .ok (.iadd, 1) := by decide +kernel
theorem dX12_placeOf_17 : decode cX12_placeOf 17 = .ok (.iaload, 1) := by decide +kernel
theorem dX12_placeOf_18 : decode cX12_placeOf 18 = .ok (.iconst 1, 1) := by decide +kernel
theorem dX12_placeOf_19 : decode cX12_placeOf 19 = .ok (.if_icmp .ne 38, 3) := by decide +kernel
theorem dX12_placeOf_22 : decode cX12_placeOf 22 = .ok (.aload_n 0, 1) := by decide +kernel
theorem dX12_placeOf_23 : decode cX12_placeOf 23 = .ok (.iload_n 3, 1) := by decide +kernel
theorem dX12_placeOf_24 : decode cX12_placeOf 24 = .ok (.invokevirtual 227, 3) := by decide +kernel
theorem dX12_placeOf_27 : decode cX12_placeOf 27 = .ok (.aload_n 0, 1) := by decide +kernel
theorem dX12_placeOf_28 : decode cX12_placeOf 28 = .ok (.iload_n 1, 1) := by decide +kernel
theorem dX12_placeOf_29 : decode cX12_placeOf 29 = .ok (.invokevirtual 227, 3) := by decide +kernel
theorem dX12_placeOf_32 : decode cX12_placeOf 32 = .ok (.if_icmp .lt 21, 3) := by decide +kernel
theorem dX12_placeOf_35 : decode cX12_placeOf 35 = .ok (.aload_n 0, 1) := by decide +kernel
theorem dX12_placeOf_36 : decode cX12_placeOf 36 = .ok (.iload_n 3, 1) := by decide +kernel
theorem dX12_placeOf_37 : decode cX12_placeOf 37 = .ok (.invokevirtual 227, 3) := by decide +kernel
theorem dX12_placeOf_40 : decode cX12_placeOf 40 = .ok (.aload_n 0, 1) := by decide +kernel
theorem dX12_placeOf_41 : decode cX12_placeOf 41 = .ok (.iload_n 1, 1) := by decide +kernel
theorem dX12_placeOf_42 : decode cX12_placeOf 42 = .ok (.invokevirtual 227, 3) := by decide +kernel
theorem dX12_placeOf_45 : decode cX12_placeOf 45 = .ok (.if_icmp .ne 12, 3) := by decide +kernel
theorem dX12_placeOf_48 : decode cX12_placeOf 48 = .ok (.iload_n 3, 1) := by decide +kernel
theorem dX12_placeOf_49 : decode cX12_placeOf 49 = .ok (.iload_n 1, 1) := by decide +kernel
theorem dX12_placeOf_50 : decode cX12_placeOf 50 = .ok (.if_icmp .ge 7, 3) := by decide +kernel
theorem dX12_placeOf_53 : decode cX12_placeOf 53 = .ok (.iload_n 2, 1) := by decide +kernel
theorem dX12_placeOf_54 : decode cX12_placeOf 54 = .ok (.iconst 1, 1) := by decide +kernel
theorem dX12_placeOf_55 : decode cX12_placeOf 55 = .ok (.iadd, 1) := by decide +kernel
theorem dX12_placeOf_56 : decode cX12_placeOf 56 = .ok (.istore_n 2, 1) := by decide +kernel
theorem dX12_placeOf_57 : decode cX12_placeOf 57 = .ok (.iinc 3 1, 3) := by decide +kernel
theorem dX12_placeOf_60 : decode cX12_placeOf 60 = .ok (.goto (-56), 3) := by decide +kernel
theorem dX12_placeOf_63 : decode cX12_placeOf 63 = .ok (.iload_n 2, 1) := by decide +kernel
theorem dX12_placeOf_64 : decode cX12_placeOf 64 = .ok (.ireturn, 1) := by decide +kernel
theorem dX12_dust_0 : decode cX12_dust 0 = .ok (.iload_n 1, 1) := by decide +kernel
theorem dX12_dust_1 : decode cX12_dust 1 = .ok (.iconst 0, 1) := by decide +kernel
theorem dX12_dust_2 : decode cX12_dust 2 = .ok (.iconst 1, 1) := by decide +kernel
theorem dX12_dust_3 : decode cX12_dust 3 = .ok (.invokestatic 90, 3) := by decide +kernel
theorem dX12_dust_6 : decode cX12_dust 6 = .ok (.ifCond .ne 5, 3) := by decide +kernel
theorem dX12_dust_9 : decode cX12_dust 9 = .ok (.iconst (-1), 1) := by decide +kernel
theorem dX12_dust_10 : decode cX12_dust 10 = .ok (.ireturn, 1) := by decide +kernel
theorem dX12_dust_11 : decode cX12_dust 11 = .ok (.aload_n 0, 1) := by decide +kernel
theorem dX12_dust_12 : decode cX12_dust 12 = .ok (.iconst 0, 1) := by decide +kernel
theorem dX12_dust_13 : decode cX12_dust 13 = .ok (.invokevirtual 291, 3) := by decide +kernel
theorem dX12_dust_16 : decode cX12_dust 16 = .ok (.istore_n 2, 1) := by decide +kernel
theorem dX12_dust_17 : decode cX12_dust 17 = .ok (.iload_n 2, 1) := by decide +kernel
theorem dX12_dust_18 : decode cX12_dust 18 = .ok (.ifCond .ne 6, 3) := by decide +kernel
theorem dX12_dust_21 : decode cX12_dust 21 = .ok (.bipush (-2), 2) := by decide +kernel
theorem dX12_dust_23 : decode cX12_dust 23 = .ok (.ireturn, 1) := by decide +kernel
theorem dX12_dust_24 : decode cX12_dust 24 = .ok (.iconst 0, 1) := by decide +kernel
theorem dX12_dust_25 : decode cX12_dust 25 = .ok (.istore_n 3, 1) := by decide +kernel
theorem dX12_dust_26 : decode cX12_dust 26 = .ok (.iload_n 3, 1) := by decide +kernel
theorem dX12_dust_27 : decode cX12_dust 27 = .ok (.bipush 24, 2) := by decide +kernel
theorem dX12_dust_29 : decode cX12_dust 29 = .ok (.if_icmp .ge 61, 3) := by decide +kernel
theorem dX12_dust_32 : decode cX12_dust 32 = .ok (.aload_n 0, 1) := by decide +kernel
theorem dX12_dust_33 : decode cX12_dust 33 = .ok (.getfield 7, 3) := by decide +kernel
theorem dX12_dust_36 : decode cX12_dust 36 = .ok (.iconst 0, 1) := by decide +kernel
theorem dX12_dust_37 : decode cX12_dust 37 = .ok (.iload_n 3, 1) := by decide +kernel
theorem dX12_dust_38 : decode cX12_dust 38 = .ok (.iadd, 1) := by decide +kernel
theorem dX12_dust_39 : decode cX12_dust 39 = .ok (.iaload, 1) := by decide +kernel
theorem dX12_dust_40 : decode cX12_dust 40 = .ok (.ifCond .ne 6, 3) := by decide +kernel
theorem dX12_dust_43 : decode cX12_dust 43 = .ok (.goto 41, 3) := by decide +kernel
theorem dX12_dust_46 : decode cX12_dust 46 = .ok (.iload_n 1, 1) := by decide +kernel
theorem dX12_dust_47 : decode cX12_dust 47 = .ok (.ifCond .ne 13, 3) := by decide +kernel
theorem dX12_dust_50 : decode cX12_dust 50 = .ok (.aload_n 0, 1) := by decide +kernel
theorem dX12_dust_51 : decode cX12_dust 51 = .ok (.iload_n 3, 1) := by decide +kernel
theorem dX12_dust_52 : decode cX12_dust 52 = .ok (.invokevirtual 369, 3) := by decide +kernel
theorem dX12_dust_55 : decode cX12_dust 55 = .ok (.ifCond .ne 5, 3) := by decide +kernel
theorem dX12_dust_58 : decode cX12_dust 58 = .ok (.iload_n 3, 1) := by decide +kernel
theorem dX12_dust_59 : decode cX12_dust 59 = .ok (.ireturn, 1) := by decide +kernel
theorem dX12_dust_60 : decode cX12_dust 60 = .ok (.iload_n 1, 1) := by decide +kernel
theorem dX12_dust_61 : decode cX12_dust 61 = .ok (.iconst 1, 1) := by decide +kernel
theorem dX12_dust_62 : decode cX12_dust 62 = .ok (.if_icmp .ne 22, 3) := by decide +kernel
theorem dX12_dust_65 : decode cX12_dust 65 = .ok (.aload_n 0, 1) := by decide +kernel
theorem dX12_dust_66 : decode cX12_dust 66 = .ok (.iload_n 3, 1) := by decide +kernel
theorem dX12_dust_67 : decode cX12_dust 67 = .ok (.invokevirtual 369, 3) := by decide +kernel
theorem dX12_dust_70 : decode cX12_dust 70 = .ok (.iload_n 2, 1) := by decide +kernel
theorem dX12_dust_71 : decode cX12_dust 71 = .ok (.iconst 1, 1) := by decide +kernel
theorem dX12_dust_72 : decode cX12_dust 72 = .ok (.isub, 1) := by decide +kernel
theorem dX12_dust_73 : decode cX12_dust 73 = .ok (.iconst 2, 1) := by decide +kernel
theorem dX12_dust_74 : decode cX12_dust 74 = .ok (.idiv, 1) := by decide +kernel
theorem dX12_dust_75 : decode cX12_dust 75 = .ok (.if_icmp .ne 9, 3) := by decide +kernel
theorem dX12_dust_78 : decode cX12_dust 78 = .ok (.aload_n 0, 1) := by decide +kernel
theorem dX12_dust_79 : decode cX12_dust 79 = .ok (.iload_n 3, 1) := by decide +kernel
theorem dX12_dust_80 : decode cX12_dust 80 = .ok (.invokevirtual 227, 3) := by decide +kernel
theorem dX12_dust_83 : decode cX12_dust 83 = .ok (.ireturn, 1) := by decide +kernel
theorem dX12_dust_84 : decode cX12_dust 84 = .ok (.iinc 3 1, 3) := by decide +kernel
theorem dX12_dust_87 : decode cX12_dust 87 = .ok (.goto (-61), 3) := by decide +kernel
theorem dX12_dust_90 : decode cX12_dust 90 = .ok (.bipush (-2), 2) := by decide +kernel
theorem dX12_dust_92 : decode cX12_dust 92 = .ok (.ireturn, 1) := by decide +kernel
theorem dX12_seed_0 : decode cX12_seed 0 = .ok (.iload_n 1, 1) := by decide +kernel
theorem dX12_seed_1 : decode cX12_seed 1 = .ok (.iconst 0, 1) := by decide +kernel
theorem dX12_seed_2 : decode cX12_seed 2 = .ok (.ldc_w 372, 3) := by decide +kernel
theorem dX12_seed_5 : decode cX12_seed 5 = .ok (.invokestatic 90, 3) := by decide +kernel
theorem dX12_seed_8 : decode cX12_seed 8 = .ok (.ifCond .ne 5, 3) := by decide +kernel
theorem dX12_seed_11 : decode cX12_seed 11 = .ok (.iconst 0, 1) := by decide +kernel
theorem dX12_seed_12 : decode cX12_seed 12 = .ok (.ireturn, 1) := by decide +kernel
theorem dX12_seed_13 : decode cX12_seed 13 = .ok (.aload_n 0, 1) := by decide +kernel
theorem dX12_seed_14 : decode cX12_seed 14 = .ok (.getfield 7, 3) := by decide +kernel
theorem dX12_seed_17 : decode cX12_seed 17 = .ok (.sipush 698, 3) := by decide +kernel
theorem dX12_seed_20 : decode cX12_seed 20 = .ok (.iload_n 1, 1) := by decide +kernel
theorem dX12_seed_21 : decode cX12_seed 21 = .ok (.iastore, 1) := by decide +kernel
theorem dX12_seed_22 : decode cX12_seed 22 = .ok (.iconst 1, 1) := by decide +kernel
theorem dX12_seed_23 : decode cX12_seed 23 = .ok (.ireturn, 1) := by decide +kernel
theorem dX12_keep_0 : decode cX12_keep 0 = .ok (.aload_n 0, 1) := by decide +kernel
theorem dX12_keep_1 : decode cX12_keep 1 = .ok (.iconst 1, 1) := by decide +kernel
theorem dX12_keep_2 : decode cX12_keep 2 = .ok (.putfield 373, 3) := by decide +kernel
theorem dX12_keep_5 : decode cX12_keep 5 = .ok (.aload_n 0, 1) := by decide +kernel
theorem dX12_keep_6 : decode cX12_keep 6 = .ok (.getfield 7, 3) := by decide +kernel
theorem dX12_keep_9 : decode cX12_keep 9 = .ok (.aload_n 0, 1) := by decide +kernel
theorem dX12_keep_10 : decode cX12_keep 10 = .ok (.getfield 16, 3) := by decide +kernel
theorem dX12_keep_13 : decode cX12_keep 13 = .ok (.invokestatic 248, 3) := by decide +kernel
theorem dX12_keep_16 : decode cX12_keep 16 = .ok (.aload_n 0, 1) := by decide +kernel
theorem dX12_keep_17 : decode cX12_keep 17 = .ok (.getfield 7, 3) := by decide +kernel
theorem dX12_keep_20 : decode cX12_keep 20 = .ok (.sipush 697, 3) := by decide +kernel
theorem dX12_keep_23 : decode cX12_keep 23 = .ok (.iaload, 1) := by decide +kernel
theorem dX12_keep_24 : decode cX12_keep 24 = .ok (.ireturn, 1) := by decide +kernel
theorem dX12_undo_0 : decode cX12_undo 0 = .ok (.aload_n 0, 1) := by decide +kernel
theorem dX12_undo_1 : decode cX12_undo 1 = .ok (.getfield 373, 3) := by decide +kernel
theorem dX12_undo_4 : decode cX12_undo 4 = .ok (.ifCond .ne 5, 3) := by decide +kernel
theorem dX12_undo_7 : decode cX12_undo 7 = .ok (.iconst 0, 1) := by decide +kernel
theorem dX12_undo_8 : decode cX12_undo 8 = .ok (.ireturn, 1) := by decide +kernel
theorem dX12_undo_9 : decode cX12_undo 9 = .ok (.aload_n 0, 1) := by decide +kernel
theorem dX12_undo_10 : decode cX12_undo 10 = .ok (.getfield 16, 3) := by decide +kernel
theorem dX12_undo_13 : decode cX12_undo 13 = .ok (.aload_n 0, 1) := by decide +kernel
theorem dX12_undo_14 : decode cX12_undo 14 = .ok (.getfield 7, 3) := by decide +kernel
theorem dX12_undo_17 : decode cX12_undo 17 = .ok (.invokestatic 248, 3) := by decide +kernel
theorem dX12_undo_20 : decode cX12_undo 20 = .ok (.iconst 1, 1) := by decide +kernel
theorem dX12_undo_21 : decode cX12_undo 21 = .ok (.ireturn, 1) := by decide +kernel
theorem dX12_check_0 : decode cX12_check 0 = .ok (.iload_n 1, 1) := by decide +kernel
theorem dX12_check_1 : decode cX12_check 1 = .ok (.iconst 0, 1) := by decide +kernel
theorem dX12_check_2 : decode cX12_check 2 = .ok (.bipush 24, 2) := by decide +kernel
theorem dX12_check_4 : decode cX12_check 4 = .ok (.invokestatic 90, 3) := by decide +kernel
theorem dX12_check_7 : decode cX12_check 7 = .ok (.ifCond .eq 11, 3) := by decide +kernel
theorem dX12_check_10 : decode cX12_check 10 = .ok (.iload_n 1, 1) := by decide +kernel
theorem dX12_check_11 : decode cX12_check 11 = .ok (.aload_n 0, 1) := by decide +kernel
theorem dX12_check_12 : decode cX12_check 12 = .ok (.getfield 115, 3) := by decide +kernel
theorem dX12_check_15 : decode cX12_check 15 = .ok (.if_icmp .le 6, 3) := by decide +kernel
theorem dX12_check_18 : decode cX12_check 18 = .ok (.bipush (-2), 2) := by decide +kernel
theorem dX12_check_20 : decode cX12_check 20 = .ok (.ireturn, 1) := by decide +kernel
theorem dX12_check_21 : decode cX12_check 21 = .ok (.aload_n 0, 1) := by decide +kernel
theorem dX12_check_22 : decode cX12_check 22 = .ok (.iconst 0, 1) := by decide +kernel
theorem dX12_check_23 : decode cX12_check 23 = .ok (.putfield 115, 3) := by decide +kernel
theorem dX12_check_26 : decode cX12_check 26 = .ok (.iconst 0, 1) := by decide +kernel
theorem dX12_check_27 : decode cX12_check 27 = .ok (.istore_n 2, 1) := by decide +kernel
theorem dX12_check_28 : decode cX12_check 28 = .ok (.iload_n 2, 1) := by decide +kernel
theorem dX12_check_29 : decode cX12_check 29 = .ok (.iload_n 1, 1) := by decide +kernel
theorem dX12_check_30 : decode cX12_check 30 = .ok (.if_icmp .ge 48, 3) := by decide +kernel
theorem dX12_check_33 : decode cX12_check 33 = .ok (.aload_n 0, 1) := by decide +kernel
theorem dX12_check_34 : decode cX12_check 34 = .ok (.iload_n 2, 1) := by decide +kernel
theorem dX12_check_35 : decode cX12_check 35 = .ok (.invokevirtual 338, 3) := by decide +kernel
theorem dX12_check_38 : decode cX12_check 38 = .ok (.aload_n 0, 1) := by decide +kernel
theorem dX12_check_39 : decode cX12_check 39 = .ok (.getfield 7, 3) := by decide +kernel
theorem dX12_check_42 : decode cX12_check 42 = .ok (.iconst 0, 1) := by decide +kernel
theorem dX12_check_43 : decode cX12_check 43 = .ok (.iload_n 2, 1) := by decide +kernel
theorem dX12_check_44 : decode cX12_check 44 = .ok (.iadd, 1) := by decide +kernel
theorem dX12_check_45 : decode cX12_check 45 = .ok (.iaload, 1) := by decide +kernel
theorem dX12_check_46 : decode cX12_check 46 = .ok (.iconst 1, 1) := by decide +kernel
theorem dX12_check_47 : decode cX12_check 47 = .ok (.if_icmp .ne 19, 3) := by decide +kernel
theorem dX12_check_50 : decode cX12_check 50 = .ok (.aload_n 0, 1) := by decide +kernel
theorem dX12_check_51 : decode cX12_check 51 = .ok (.getfield 7, 3) := by decide +kernel
theorem dX12_check_54 : decode cX12_check 54 = .ok (.bipush 24, 2) := by decide +kernel
theorem dX12_check_56 : decode cX12_check 56 = .ok (.iload_n 2, 1) := by decide +kernel
theorem dX12_check_57 : decode cX12_check 57 = .ok (.iadd, 1) := by decide +kernel
theorem dX12_check_58 : decode cX12_check 58 = .ok (.iaload, 1) := by decide +kernel
theorem dX12_check_59 : decode cX12_check 59 = .ok (.sipush 256, 3) := by decide +kernel
theorem dX12_check_62 : decode cX12_check 62 = .ok (.irem, 1) := by decide +kernel
theorem dX12_check_63 : decode cX12_check 63 = .ok (.goto 4, 3) := by decide +kernel
theorem dX12_check_66 : decode cX12_check 66 = .ok (.iconst 0, 1) := by decide +kernel
theorem dX12_check_67 : decode cX12_check 67 = .ok (.if_icmp .eq 5, 3) := by decide +kernel
theorem dX12_check_70 : decode cX12_check 70 = .ok (.iload_n 2, 1) := by decide +kernel
theorem dX12_check_71 : decode cX12_check 71 = .ok (.ireturn, 1) := by decide +kernel
theorem dX12_check_72 : decode cX12_check 72 = .ok (.iinc 2 1, 3) := by decide +kernel
theorem dX12_check_75 : decode cX12_check 75 = .ok (.goto (-47), 3) := by decide +kernel
theorem dX12_check_78 : decode cX12_check 78 = .ok (.iconst (-1), 1) := by decide +kernel
theorem dX12_check_79 : decode cX12_check 79 = .ok (.ireturn, 1) := by decide +kernel
theorem dX12_setOf_0 : decode cX12_setOf 0 = .ok (.iconst 0, 1) := by decide +kernel
theorem dX12_setOf_1 : decode cX12_setOf 1 = .ok (.istore_n 2, 1) := by decide +kernel
theorem dX12_setOf_2 : decode cX12_setOf 2 = .ok (.iconst 0, 1) := by decide +kernel
theorem dX12_setOf_3 : decode cX12_setOf 3 = .ok (.istore_n 3, 1) := by decide +kernel
theorem dX12_setOf_4 : decode cX12_setOf 4 = .ok (.iload_n 3, 1) := by decide +kernel
theorem dX12_setOf_5 : decode cX12_setOf 5 = .ok (.bipush 24, 2) := by decide +kernel
theorem dX12_setOf_7 : decode cX12_setOf 7 = .ok (.if_icmp .ge 22, 3) := by decide +kernel
theorem dX12_setOf_10 : decode cX12_setOf 10 = .ok (.iload_n 2, 1) := by decide +kernel
theorem dX12_setOf_11 : decode cX12_setOf 11 = .ok (.aload_n 0, 1) := by decide +kernel
theorem dX12_setOf_12 : decode cX12_setOf 12 = .ok (.getfield 7, 3) := by decide +kernel
theorem dX12_setOf_15 : decode cX12_setOf 15 = .ok (.iload_n 1, 1) := by decide +kernel
theorem dX12_setOf_16 : decode cX12_setOf 16 = .ok (.iload_n 3, 1) := by decide +kernel
theorem dX12_setOf_17 : decode cX12_setOf 17 = .ok (.iadd, 1) := by decide +kernel
theorem dX12_setOf_18 : decode cX12_setOf 18 = .ok (.iaload, 1) := by decide +kernel
theorem dX12_setOf_19 : decode cX12_setOf 19 = .ok (.iload_n 3, 1) := by decide +kernel
theorem dX12_setOf_20 : decode cX12_setOf 20 = .ok (.ishl, 1) := by decide +kernel
theorem dX12_setOf_21 : decode cX12_setOf 21 = .ok (.ior, 1) := by decide +kernel
theorem dX12_setOf_22 : decode cX12_setOf 22 = .ok (.istore_n 2, 1) := by decide +kernel
theorem dX12_setOf_23 : decode cX12_setOf 23 = .ok (.iinc 3 1, 3) := by decide +kernel
theorem dX12_setOf_26 : decode cX12_setOf 26 = .ok (.goto (-22), 3) := by decide +kernel
theorem dX12_setOf_29 : decode cX12_setOf 29 = .ok (.iload_n 2, 1) := by decide +kernel
theorem dX12_setOf_30 : decode cX12_setOf 30 = .ok (.ireturn, 1) := by decide +kernel
theorem dX12_count_0 : decode cX12_count 0 = .ok (.iload_n 1, 1) := by decide +kernel
theorem dX12_count_1 : decode cX12_count 1 = .ok (.tableswitch 115 0 8 #[51, 60, 69, 75, 82, 87, 92, 101, 108], 51) := by decide +kernel
theorem dX12_count_52 : decode cX12_count 52 = .ok (.aload_n 0, 1) := by decide +kernel
theorem dX12_count_53 : decode cX12_count 53 = .ok (.getfield 7, 3) := by decide +kernel
theorem dX12_count_56 : decode cX12_count 56 = .ok (.sipush 697, 3) := by decide +kernel
theorem dX12_count_59 : decode cX12_count 59 = .ok (.iaload, 1) := by decide +kernel
theorem dX12_count_60 : decode cX12_count 60 = .ok (.ireturn, 1) := by decide +kernel
theorem dX12_count_61 : decode cX12_count 61 = .ok (.aload_n 0, 1) := by decide +kernel
theorem dX12_count_62 : decode cX12_count 62 = .ok (.getfield 7, 3) := by decide +kernel
theorem dX12_count_65 : decode cX12_count 65 = .ok (.sipush 696, 3) := by decide +kernel
theorem dX12_count_68 : decode cX12_count 68 = .ok (.iaload, 1) := by decide +kernel
theorem dX12_count_69 : decode cX12_count 69 = .ok (.ireturn, 1) := by decide +kernel
theorem dX12_count_70 : decode cX12_count 70 = .ok (.aload_n 0, 1) := by decide +kernel
theorem dX12_count_71 : decode cX12_count 71 = .ok (.iconst 0, 1) := by decide +kernel
theorem dX12_count_72 : decode cX12_count 72 = .ok (.invokevirtual 377, 3) := by decide +kernel
theorem dX12_count_75 : decode cX12_count 75 = .ok (.ireturn, 1) := by decide +kernel
theorem dX12_count_76 : decode cX12_count 76 = .ok (.aload_n 0, 1) := by decide +kernel
theorem dX12_count_77 : decode cX12_count 77 = .ok (.bipush 48, 2) := by decide +kernel
theorem dX12_count_79 : decode cX12_count 79 = .ok (.invokevirtual 377, 3) := by decide +kernel
theorem dX12_count_82 : decode cX12_count 82 = .ok (.ireturn, 1) := by decide +kernel
theorem dX12_count_83 : decode cX12_count 83 = .ok (.aload_n 0, 1) := by decide +kernel
theorem dX12_count_84 : decode cX12_count 84 = .ok (.getfield 217, 3) := by decide +kernel
theorem dX12_count_87 : decode cX12_count 87 = .ok (.ireturn, 1) := by decide +kernel
theorem dX12_count_88 : decode cX12_count 88 = .ok (.aload_n 0, 1) := by decide +kernel
theorem dX12_count_89 : decode cX12_count 89 = .ok (.getfield 115, 3) := by decide +kernel
theorem dX12_count_92 : decode cX12_count 92 = .ok (.ireturn, 1) := by decide +kernel
theorem dX12_count_93 : decode cX12_count 93 = .ok (.aload_n 0, 1) := by decide +kernel
theorem dX12_count_94 : decode cX12_count 94 = .ok (.getfield 7, 3) := by decide +kernel
theorem dX12_count_97 : decode cX12_count 97 = .ok (.sipush 698, 3) := by decide +kernel
theorem dX12_count_100 : decode cX12_count 100 = .ok (.iaload, 1) := by decide +kernel
theorem dX12_count_101 : decode cX12_count 101 = .ok (.ireturn, 1) := by decide +kernel
theorem dX12_count_102 : decode cX12_count 102 = .ok (.aload_n 0, 1) := by decide +kernel
theorem dX12_count_103 : decode cX12_count 103 = .ok (.bipush 24, 2) := by decide +kernel
theorem dX12_count_105 : decode cX12_count 105 = .ok (.invokevirtual 291, 3) := by decide +kernel
theorem dX12_count_108 : decode cX12_count 108 = .ok (.ireturn, 1) := by decide +kernel
theorem dX12_count_109 : decode cX12_count 109 = .ok (.aload_n 0, 1) := by decide +kernel
theorem dX12_count_110 : decode cX12_count 110 = .ok (.bipush 96, 2) := by decide +kernel
theorem dX12_count_112 : decode cX12_count 112 = .ok (.invokevirtual 291, 3) := by decide +kernel
theorem dX12_count_115 : decode cX12_count 115 = .ok (.ireturn, 1) := by decide +kernel
theorem dX12_count_116 : decode cX12_count 116 = .ok (.iconst (-1), 1) := by decide +kernel
theorem dX12_count_117 : decode cX12_count 117 = .ok (.ireturn, 1) := by decide +kernel
theorem dJ6_bitCount_0f7a4_0 : decode cJ6_bitCount_0f7a4 0 = .ok (.iload_n 0, 1) := by decide +kernel
theorem dJ6_bitCount_0f7a4_1 : decode cJ6_bitCount_0f7a4 1 = .ok (.iload_n 0, 1) := by decide +kernel
theorem dJ6_bitCount_0f7a4_2 : decode cJ6_bitCount_0f7a4 2 = .ok (.iconst 1, 1) := by decide +kernel
theorem dJ6_bitCount_0f7a4_3 : decode cJ6_bitCount_0f7a4 3 = .ok (.iushr, 1) := by decide +kernel
theorem dJ6_bitCount_0f7a4_4 : decode cJ6_bitCount_0f7a4 4 = .ok (.ldc_w 265, 3) := by decide +kernel
theorem dJ6_bitCount_0f7a4_7 : decode cJ6_bitCount_0f7a4 7 = .ok (.iand, 1) := by decide +kernel
theorem dJ6_bitCount_0f7a4_8 : decode cJ6_bitCount_0f7a4 8 = .ok (.isub, 1) := by decide +kernel
theorem dJ6_bitCount_0f7a4_9 : decode cJ6_bitCount_0f7a4 9 = .ok (.istore_n 0, 1) := by decide +kernel
theorem dJ6_bitCount_0f7a4_10 : decode cJ6_bitCount_0f7a4 10 = .ok (.iload_n 0, 1) := by decide +kernel
theorem dJ6_bitCount_0f7a4_11 : decode cJ6_bitCount_0f7a4 11 = .ok (.ldc_w 266, 3) := by decide +kernel
theorem dJ6_bitCount_0f7a4_14 : decode cJ6_bitCount_0f7a4 14 = .ok (.iand, 1) := by decide +kernel
theorem dJ6_bitCount_0f7a4_15 : decode cJ6_bitCount_0f7a4 15 = .ok (.iload_n 0, 1) := by decide +kernel
theorem dJ6_bitCount_0f7a4_16 : decode cJ6_bitCount_0f7a4 16 = .ok (.iconst 2, 1) := by decide +kernel
theorem dJ6_bitCount_0f7a4_17 : decode cJ6_bitCount_0f7a4 17 = .ok (.iushr, 1) := by decide +kernel
theorem dJ6_bitCount_0f7a4_18 : decode cJ6_bitCount_0f7a4 18 = .ok (.ldc_w 266, 3) := by decide +kernel
theorem dJ6_bitCount_0f7a4_21 : decode cJ6_bitCount_0f7a4 21 = .ok (.iand, 1) := by decide +kernel
theorem dJ6_bitCount_0f7a4_22 : decode cJ6_bitCount_0f7a4 22 = .ok (.iadd, 1) := by decide +kernel
theorem dJ6_bitCount_0f7a4_23 : decode cJ6_bitCount_0f7a4 23 = .ok (.istore_n 0, 1) := by decide +kernel
theorem dJ6_bitCount_0f7a4_24 : decode cJ6_bitCount_0f7a4 24 = .ok (.iload_n 0, 1) := by decide +kernel
theorem dJ6_bitCount_0f7a4_25 : decode cJ6_bitCount_0f7a4 25 = .ok (.iload_n 0, 1) := by decide +kernel
theorem dJ6_bitCount_0f7a4_26 : decode cJ6_bitCount_0f7a4 26 = .ok (.iconst 4, 1) := by decide +kernel
theorem dJ6_bitCount_0f7a4_27 : decode cJ6_bitCount_0f7a4 27 = .ok (.iushr, 1) := by decide +kernel
theorem dJ6_bitCount_0f7a4_28 : decode cJ6_bitCount_0f7a4 28 = .ok (.iadd, 1) := by decide +kernel
theorem dJ6_bitCount_0f7a4_29 : decode cJ6_bitCount_0f7a4 29 = .ok (.ldc_w 267, 3) := by decide +kernel
theorem dJ6_bitCount_0f7a4_32 : decode cJ6_bitCount_0f7a4 32 = .ok (.iand, 1) := by decide +kernel
theorem dJ6_bitCount_0f7a4_33 : decode cJ6_bitCount_0f7a4 33 = .ok (.istore_n 0, 1) := by decide +kernel
theorem dJ6_bitCount_0f7a4_34 : decode cJ6_bitCount_0f7a4 34 = .ok (.iload_n 0, 1) := by decide +kernel
theorem dJ6_bitCount_0f7a4_35 : decode cJ6_bitCount_0f7a4 35 = .ok (.iload_n 0, 1) := by decide +kernel
theorem dJ6_bitCount_0f7a4_36 : decode cJ6_bitCount_0f7a4 36 = .ok (.bipush 8, 2) := by decide +kernel
theorem dJ6_bitCount_0f7a4_38 : decode cJ6_bitCount_0f7a4 38 = .ok (.iushr, 1) := by decide +kernel
theorem dJ6_bitCount_0f7a4_39 : decode cJ6_bitCount_0f7a4 39 = .ok (.iadd, 1) := by decide +kernel
theorem dJ6_bitCount_0f7a4_40 : decode cJ6_bitCount_0f7a4 40 = .ok (.istore_n 0, 1) := by decide +kernel
theorem dJ6_bitCount_0f7a4_41 : decode cJ6_bitCount_0f7a4 41 = .ok (.iload_n 0, 1) := by decide +kernel
theorem dJ6_bitCount_0f7a4_42 : decode cJ6_bitCount_0f7a4 42 = .ok (.iload_n 0, 1) := by decide +kernel
theorem dJ6_bitCount_0f7a4_43 : decode cJ6_bitCount_0f7a4 43 = .ok (.bipush 16, 2) := by decide +kernel
theorem dJ6_bitCount_0f7a4_45 : decode cJ6_bitCount_0f7a4 45 = .ok (.iushr, 1) := by decide +kernel
theorem dJ6_bitCount_0f7a4_46 : decode cJ6_bitCount_0f7a4 46 = .ok (.iadd, 1) := by decide +kernel
theorem dJ6_bitCount_0f7a4_47 : decode cJ6_bitCount_0f7a4 47 = .ok (.istore_n 0, 1) := by decide +kernel
theorem dJ6_bitCount_0f7a4_48 : decode cJ6_bitCount_0f7a4 48 = .ok (.iload_n 0, 1) := by decide +kernel
theorem dJ6_bitCount_0f7a4_49 : decode cJ6_bitCount_0f7a4 49 = .ok (.bipush 63, 2) := by decide +kernel
theorem dJ6_bitCount_0f7a4_51 : decode cJ6_bitCount_0f7a4 51 = .ok (.iand, 1) := by decide +kernel
theorem dJ6_bitCount_0f7a4_52 : decode cJ6_bitCount_0f7a4 52 = .ok (.ireturn, 1) := by decide +kernel
theorem dJ9_max_7cf53_0 : decode cJ9_max_7cf53 0 = .ok (.iload_n 0, 1) := by decide +kernel
theorem dJ9_max_7cf53_1 : decode cJ9_max_7cf53 1 = .ok (.iload_n 1, 1) := by decide +kernel
theorem dJ9_max_7cf53_2 : decode cJ9_max_7cf53 2 = .ok (.if_icmp .lt 7, 3) := by decide +kernel
theorem dJ9_max_7cf53_5 : decode cJ9_max_7cf53 5 = .ok (.iload_n 0, 1) := by decide +kernel
theorem dJ9_max_7cf53_6 : decode cJ9_max_7cf53 6 = .ok (.goto 4, 3) := by decide +kernel
theorem dJ9_max_7cf53_9 : decode cJ9_max_7cf53 9 = .ok (.iload_n 1, 1) := by decide +kernel
theorem dJ9_max_7cf53_10 : decode cJ9_max_7cf53 10 = .ok (.ireturn, 1) := by decide +kernel
theorem dJ9_min_7cf53_0 : decode cJ9_min_7cf53 0 = .ok (.iload_n 0, 1) := by decide +kernel
theorem dJ9_min_7cf53_1 : decode cJ9_min_7cf53 1 = .ok (.iload_n 1, 1) := by decide +kernel
theorem dJ9_min_7cf53_2 : decode cJ9_min_7cf53 2 = .ok (.if_icmp .gt 7, 3) := by decide +kernel
theorem dJ9_min_7cf53_5 : decode cJ9_min_7cf53 5 = .ok (.iload_n 0, 1) := by decide +kernel
theorem dJ9_min_7cf53_6 : decode cJ9_min_7cf53 6 = .ok (.goto 4, 3) := by decide +kernel
theorem dJ9_min_7cf53_9 : decode cJ9_min_7cf53 9 = .ok (.iload_n 1, 1) := by decide +kernel
theorem dJ9_min_7cf53_10 : decode cJ9_min_7cf53 10 = .ok (.ireturn, 1) := by decide +kernel
theorem dJ7_fill_53178_0 : decode cJ7_fill_53178 0 = .ok (.iconst 0, 1) := by decide +kernel
theorem dJ7_fill_53178_1 : decode cJ7_fill_53178 1 = .ok (.istore_n 2, 1) := by decide +kernel
theorem dJ7_fill_53178_2 : decode cJ7_fill_53178 2 = .ok (.aload_n 0, 1) := by decide +kernel
theorem dJ7_fill_53178_3 : decode cJ7_fill_53178 3 = .ok (.arraylength, 1) := by decide +kernel
theorem dJ7_fill_53178_4 : decode cJ7_fill_53178 4 = .ok (.istore_n 3, 1) := by decide +kernel
theorem dJ7_fill_53178_5 : decode cJ7_fill_53178 5 = .ok (.iload_n 2, 1) := by decide +kernel
theorem dJ7_fill_53178_6 : decode cJ7_fill_53178 6 = .ok (.iload_n 3, 1) := by decide +kernel
theorem dJ7_fill_53178_7 : decode cJ7_fill_53178 7 = .ok (.if_icmp .ge 13, 3) := by decide +kernel
theorem dJ7_fill_53178_10 : decode cJ7_fill_53178 10 = .ok (.aload_n 0, 1) := by decide +kernel
theorem dJ7_fill_53178_11 : decode cJ7_fill_53178 11 = .ok (.iload_n 2, 1) := by decide +kernel
theorem dJ7_fill_53178_12 : decode cJ7_fill_53178 12 = .ok (.iload_n 1, 1) := by decide +kernel
theorem dJ7_fill_53178_13 : decode cJ7_fill_53178 13 = .ok (.iastore, 1) := by decide +kernel
theorem dJ7_fill_53178_14 : decode cJ7_fill_53178 14 = .ok (.iinc 2 1, 3) := by decide +kernel
theorem dJ7_fill_53178_17 : decode cJ7_fill_53178 17 = .ok (.goto (-12), 3) := by decide +kernel
theorem dJ7_fill_53178_20 : decode cJ7_fill_53178 20 = .ok (.return_, 1) := by decide +kernel
theorem dL_law_0 : decode cL_law 0 = .ok (.new 7, 3) := by decide +kernel
theorem dL_law_3 : decode cL_law 3 = .ok (.dup, 1) := by decide +kernel
theorem dL_law_4 : decode cL_law 4 = .ok (.invokespecial 9, 3) := by decide +kernel
theorem dL_law_7 : decode cL_law 7 = .ok (.astore_n 1, 1) := by decide +kernel
theorem dL_law_8 : decode cL_law 8 = .ok (.new 10, 3) := by decide +kernel
theorem dL_law_11 : decode cL_law 11 = .ok (.dup, 1) := by decide +kernel
theorem dL_law_12 : decode cL_law 12 = .ok (.invokespecial 12, 3) := by decide +kernel
theorem dL_law_15 : decode cL_law 15 = .ok (.astore_n 2, 1) := by decide +kernel
theorem dL_law_16 : decode cL_law 16 = .ok (.iconst 0, 1) := by decide +kernel
theorem dL_law_17 : decode cL_law 17 = .ok (.istore_n 3, 1) := by decide +kernel
theorem dL_law_18 : decode cL_law 18 = .ok (.iload_n 3, 1) := by decide +kernel
theorem dL_law_19 : decode cL_law 19 = .ok (.aload_n 0, 1) := by decide +kernel
theorem dL_law_20 : decode cL_law 20 = .ok (.arraylength, 1) := by decide +kernel
theorem dL_law_21 : decode cL_law 21 = .ok (.bipush 6, 2) := by decide +kernel
theorem dL_law_23 : decode cL_law 23 = .ok (.isub, 1) := by decide +kernel
theorem dL_law_24 : decode cL_law 24 = .ok (.if_icmp .gt 1087, 3) := by decide +kernel
theorem dL_law_27 : decode cL_law 27 = .ok (.aload_n 0, 1) := by decide +kernel
theorem dL_law_28 : decode cL_law 28 = .ok (.iload_n 3, 1) := by decide +kernel
theorem dL_law_29 : decode cL_law 29 = .ok (.iaload, 1) := by decide +kernel
theorem dL_law_30 : decode cL_law 30 = .ok (.bipush 31, 2) := by decide +kernel
theorem dL_law_32 : decode cL_law 32 = .ok (.iand, 1) := by decide +kernel
theorem dL_law_33 : decode cL_law 33 = .ok (.tableswitch 1072 0 29 #[135, 168, 217, 250, 313, 336, 359, 382, 415, 448, 481, 514, 567, 590, 623, 636, 679, 712, 745, 789, 812, 855, 888, 911, 954, 977, 1000, 1013, 1026, 1049], 135) := by decide +kernel
theorem dL_law_168 : decode cL_law 168 = .ok (.aload_n 1, 1) := by decide +kernel
theorem dL_law_169 : decode cL_law 169 = .ok (.aload_n 0, 1) := by decide +kernel
theorem dL_law_170 : decode cL_law 170 = .ok (.iload_n 3, 1) := by decide +kernel
theorem dL_law_171 : decode cL_law 171 = .ok (.iconst 1, 1) := by decide +kernel
theorem dL_law_172 : decode cL_law 172 = .ok (.iadd, 1) := by decide +kernel
theorem dL_law_173 : decode cL_law 173 = .ok (.iaload, 1) := by decide +kernel
theorem dL_law_174 : decode cL_law 174 = .ok (.aload_n 0, 1) := by decide +kernel
theorem dL_law_175 : decode cL_law 175 = .ok (.iload_n 3, 1) := by decide +kernel
theorem dL_law_176 : decode cL_law 176 = .ok (.iconst 2, 1) := by decide +kernel
theorem dL_law_177 : decode cL_law 177 = .ok (.iadd, 1) := by decide +kernel
theorem dL_law_178 : decode cL_law 178 = .ok (.iaload, 1) := by decide +kernel
theorem dL_law_179 : decode cL_law 179 = .ok (.invokevirtual 13, 3) := by decide +kernel
theorem dL_law_182 : decode cL_law 182 = .ok (.aload_n 2, 1) := by decide +kernel
theorem dL_law_183 : decode cL_law 183 = .ok (.aload_n 0, 1) := by decide +kernel
theorem dL_law_184 : decode cL_law 184 = .ok (.iload_n 3, 1) := by decide +kernel
theorem dL_law_185 : decode cL_law 185 = .ok (.iconst 1, 1) := by decide +kernel
theorem dL_law_186 : decode cL_law 186 = .ok (.iadd, 1) := by decide +kernel
theorem dL_law_187 : decode cL_law 187 = .ok (.iaload, 1) := by decide +kernel
theorem dL_law_188 : decode cL_law 188 = .ok (.aload_n 0, 1) := by decide +kernel
theorem dL_law_189 : decode cL_law 189 = .ok (.iload_n 3, 1) := by decide +kernel
theorem dL_law_190 : decode cL_law 190 = .ok (.iconst 2, 1) := by decide +kernel
theorem dL_law_191 : decode cL_law 191 = .ok (.iadd, 1) := by decide +kernel
theorem dL_law_192 : decode cL_law 192 = .ok (.iaload, 1) := by decide +kernel
theorem dL_law_193 : decode cL_law 193 = .ok (.invokevirtual 17, 3) := by decide +kernel
theorem dL_law_196 : decode cL_law 196 = .ok (.if_icmp .eq 909, 3) := by decide +kernel
theorem dL_law_199 : decode cL_law 199 = .ok (.iconst 0, 1) := by decide +kernel
theorem dL_law_200 : decode cL_law 200 = .ok (.ireturn, 1) := by decide +kernel
theorem dL_law_201 : decode cL_law 201 = .ok (.aload_n 1, 1) := by decide +kernel
theorem dL_law_202 : decode cL_law 202 = .ok (.aload_n 0, 1) := by decide +kernel
theorem dL_law_203 : decode cL_law 203 = .ok (.iload_n 3, 1) := by decide +kernel
theorem dL_law_204 : decode cL_law 204 = .ok (.iconst 1, 1) := by decide +kernel
theorem dL_law_205 : decode cL_law 205 = .ok (.iadd, 1) := by decide +kernel
theorem dL_law_206 : decode cL_law 206 = .ok (.iaload, 1) := by decide +kernel
theorem dL_law_207 : decode cL_law 207 = .ok (.aload_n 0, 1) := by decide +kernel
theorem dL_law_208 : decode cL_law 208 = .ok (.iload_n 3, 1) := by decide +kernel
theorem dL_law_209 : decode cL_law 209 = .ok (.iconst 2, 1) := by decide +kernel
theorem dL_law_210 : decode cL_law 210 = .ok (.iadd, 1) := by decide +kernel
theorem dL_law_211 : decode cL_law 211 = .ok (.iaload, 1) := by decide +kernel
theorem dL_law_212 : decode cL_law 212 = .ok (.ifCond .eq 7, 3) := by decide +kernel
theorem dL_law_215 : decode cL_law 215 = .ok (.iconst 1, 1) := by decide +kernel
theorem dL_law_216 : decode cL_law 216 = .ok (.goto 4, 3) := by decide +kernel
theorem dL_law_219 : decode cL_law 219 = .ok (.iconst 0, 1) := by decide +kernel
theorem dL_law_220 : decode cL_law 220 = .ok (.invokevirtual 18, 3) := by decide +kernel
theorem dL_law_223 : decode cL_law 223 = .ok (.aload_n 2, 1) := by decide +kernel
theorem dL_law_224 : decode cL_law 224 = .ok (.aload_n 0, 1) := by decide +kernel
theorem dL_law_225 : decode cL_law 225 = .ok (.iload_n 3, 1) := by decide +kernel
theorem dL_law_226 : decode cL_law 226 = .ok (.iconst 1, 1) := by decide +kernel
theorem dL_law_227 : decode cL_law 227 = .ok (.iadd, 1) := by decide +kernel
theorem dL_law_228 : decode cL_law 228 = .ok (.iaload, 1) := by decide +kernel
theorem dL_law_229 : decode cL_law 229 = .ok (.aload_n 0, 1) := by decide +kernel
theorem dL_law_230 : decode cL_law 230 = .ok (.iload_n 3, 1) := by decide +kernel
theorem dL_law_231 : decode cL_law 231 = .ok (.iconst 2, 1) := by decide +kernel
theorem dL_law_232 : decode cL_law 232 = .ok (.iadd, 1) := by decide +kernel
theorem dL_law_233 : decode cL_law 233 = .ok (.iaload, 1) := by decide +kernel
theorem dL_law_234 : decode cL_law 234 = .ok (.ifCond .eq 7, 3) := by decide +kernel
theorem dL_law_237 : decode cL_law 237 = .ok (.iconst 1, 1) := by decide +kernel
theorem dL_law_238 : decode cL_law 238 = .ok (.goto 4, 3) := by decide +kernel
theorem dL_law_241 : decode cL_law 241 = .ok (.iconst 0, 1) := by decide +kernel
theorem dL_law_242 : decode cL_law 242 = .ok (.invokevirtual 22, 3) := by decide +kernel
theorem dL_law_245 : decode cL_law 245 = .ok (.if_icmp .eq 860, 3) := by decide +kernel
theorem dL_law_248 : decode cL_law 248 = .ok (.iconst 0, 1) := by decide +kernel
theorem dL_law_249 : decode cL_law 249 = .ok (.ireturn, 1) := by decide +kernel
theorem dL_law_250 : decode cL_law 250 = .ok (.aload_n 1, 1) := by decide +kernel
theorem dL_law_251 : decode cL_law 251 = .ok (.aload_n 0, 1) := by decide +kernel
theorem dL_law_252 : decode cL_law 252 = .ok (.iload_n 3, 1) := by decide +kernel
theorem dL_law_253 : decode cL_law 253 = .ok (.iconst 1, 1) := by decide +kernel
theorem dL_law_254 : decode cL_law 254 = .ok (.iadd, 1) := by decide +kernel
theorem dL_law_255 : decode cL_law 255 = .ok (.iaload, 1) := by decide +kernel
theorem dL_law_256 : decode cL_law 256 = .ok (.aload_n 0, 1) := by decide +kernel
theorem dL_law_257 : decode cL_law 257 = .ok (.iload_n 3, 1) := by decide +kernel
theorem dL_law_258 : decode cL_law 258 = .ok (.iconst 2, 1) := by decide +kernel
theorem dL_law_259 : decode cL_law 259 = .ok (.iadd, 1) := by decide +kernel
theorem dL_law_260 : decode cL_law 260 = .ok (.iaload, 1) := by decide +kernel
theorem dL_law_261 : decode cL_law 261 = .ok (.invokevirtual 23, 3) := by decide +kernel
theorem dL_law_264 : decode cL_law 264 = .ok (.aload_n 2, 1) := by decide +kernel
theorem dL_law_265 : decode cL_law 265 = .ok (.aload_n 0, 1) := by decide +kernel
theorem dL_law_266 : decode cL_law 266 = .ok (.iload_n 3, 1) := by decide +kernel
theorem dL_law_267 : decode cL_law 267 = .ok (.iconst 1, 1) := by decide +kernel
theorem dL_law_268 : decode cL_law 268 = .ok (.iadd, 1) := by decide +kernel
theorem dL_law_269 : decode cL_law 269 = .ok (.iaload, 1) := by decide +kernel
theorem dL_law_270 : decode cL_law 270 = .ok (.aload_n 0, 1) := by decide +kernel
theorem dL_law_271 : decode cL_law 271 = .ok (.iload_n 3, 1) := by decide +kernel
theorem dL_law_272 : decode cL_law 272 = .ok (.iconst 2, 1) := by decide +kernel
theorem dL_law_273 : decode cL_law 273 = .ok (.iadd, 1) := by decide +kernel
theorem dL_law_274 : decode cL_law 274 = .ok (.iaload, 1) := by decide +kernel
theorem dL_law_275 : decode cL_law 275 = .ok (.invokevirtual 26, 3) := by decide +kernel
theorem dL_law_278 : decode cL_law 278 = .ok (.if_icmp .eq 827, 3) := by decide +kernel
theorem dL_law_281 : decode cL_law 281 = .ok (.iconst 0, 1) := by decide +kernel
theorem dL_law_282 : decode cL_law 282 = .ok (.ireturn, 1) := by decide +kernel
theorem dL_law_283 : decode cL_law 283 = .ok (.aload_n 1, 1) := by decide +kernel
theorem dL_law_284 : decode cL_law 284 = .ok (.aload_n 0, 1) := by decide +kernel
theorem dL_law_285 : decode cL_law 285 = .ok (.iload_n 3, 1) := by decide +kernel
theorem dL_law_286 : decode cL_law 286 = .ok (.iconst 1, 1) := by decide +kernel
theorem dL_law_287 : decode cL_law 287 = .ok (.iadd, 1) := by decide +kernel
theorem dL_law_288 : decode cL_law 288 = .ok (.iaload, 1) := by decide +kernel
theorem dL_law_289 : decode cL_law 289 = .ok (.aload_n 0, 1) := by decide +kernel
theorem dL_law_290 : decode cL_law 290 = .ok (.iload_n 3, 1) := by decide +kernel
theorem dL_law_291 : decode cL_law 291 = .ok (.iconst 2, 1) := by decide +kernel
theorem dL_law_292 : decode cL_law 292 = .ok (.iadd, 1) := by decide +kernel
theorem dL_law_293 : decode cL_law 293 = .ok (.iaload, 1) := by decide +kernel
theorem dL_law_294 : decode cL_law 294 = .ok (.aload_n 0, 1) := by decide +kernel
theorem dL_law_295 : decode cL_law 295 = .ok (.iload_n 3, 1) := by decide +kernel
theorem dL_law_296 : decode cL_law 296 = .ok (.iconst 3, 1) := by decide +kernel
theorem dL_law_297 : decode cL_law 297 = .ok (.iadd, 1) := by decide +kernel
theorem dL_law_298 : decode cL_law 298 = .ok (.iaload, 1) := by decide +kernel
theorem dL_law_299 : decode cL_law 299 = .ok (.aload_n 0, 1) := by decide +kernel
theorem dL_law_300 : decode cL_law 300 = .ok (.iload_n 3, 1) := by decide +kernel
theorem dL_law_301 : decode cL_law 301 = .ok (.iconst 4, 1) := by decide +kernel
theorem dL_law_302 : decode cL_law 302 = .ok (.iadd, 1) := by decide +kernel
theorem dL_law_303 : decode cL_law 303 = .ok (.iaload, 1) := by decide +kernel
theorem dL_law_304 : decode cL_law 304 = .ok (.aload_n 0, 1) := by decide +kernel
theorem dL_law_305 : decode cL_law 305 = .ok (.iload_n 3, 1) := by decide +kernel
theorem dL_law_306 : decode cL_law 306 = .ok (.iconst 5, 1) := by decide +kernel
theorem dL_law_307 : decode cL_law 307 = .ok (.iadd, 1) := by decide +kernel
theorem dL_law_308 : decode cL_law 308 = .ok (.iaload, 1) := by decide +kernel
theorem dL_law_309 : decode cL_law 309 = .ok (.invokevirtual 27, 3) := by decide +kernel
theorem dL_law_312 : decode cL_law 312 = .ok (.aload_n 2, 1) := by decide +kernel
theorem dL_law_313 : decode cL_law 313 = .ok (.aload_n 0, 1) := by decide +kernel
theorem dL_law_314 : decode cL_law 314 = .ok (.iload_n 3, 1) := by decide +kernel
theorem dL_law_315 : decode cL_law 315 = .ok (.iconst 1, 1) := by decide +kernel
theorem dL_law_316 : decode cL_law 316 = .ok (.iadd, 1) := by decide +kernel
theorem dL_law_317 : decode cL_law 317 = .ok (.iaload, 1) := by decide +kernel
theorem dL_law_318 : decode cL_law 318 = .ok (.aload_n 0, 1) := by decide +kernel
theorem dL_law_319 : decode cL_law 319 = .ok (.iload_n 3, 1) := by decide +kernel
theorem dL_law_320 : decode cL_law 320 = .ok (.iconst 2, 1) := by decide +kernel
theorem dL_law_321 : decode cL_law 321 = .ok (.iadd, 1) := by decide +kernel
theorem dL_law_322 : decode cL_law 322 = .ok (.iaload, 1) := by decide +kernel
theorem dL_law_323 : decode cL_law 323 = .ok (.aload_n 0, 1) := by decide +kernel
theorem dL_law_324 : decode cL_law 324 = .ok (.iload_n 3, 1) := by decide +kernel
theorem dL_law_325 : decode cL_law 325 = .ok (.iconst 3, 1) := by decide +kernel
theorem dL_law_326 : decode cL_law 326 = .ok (.iadd, 1) := by decide +kernel
theorem dL_law_327 : decode cL_law 327 = .ok (.iaload, 1) := by decide +kernel
theorem dL_law_328 : decode cL_law 328 = .ok (.aload_n 0, 1) := by decide +kernel
theorem dL_law_329 : decode cL_law 329 = .ok (.iload_n 3, 1) := by decide +kernel
theorem dL_law_330 : decode cL_law 330 = .ok (.iconst 4, 1) := by decide +kernel
theorem dL_law_331 : decode cL_law 331 = .ok (.iadd, 1) := by decide +kernel
theorem dL_law_332 : decode cL_law 332 = .ok (.iaload, 1) := by decide +kernel
theorem dL_law_333 : decode cL_law 333 = .ok (.aload_n 0, 1) := by decide +kernel
theorem dL_law_334 : decode cL_law 334 = .ok (.iload_n 3, 1) := by decide +kernel
theorem dL_law_335 : decode cL_law 335 = .ok (.iconst 5, 1) := by decide +kernel
theorem dL_law_336 : decode cL_law 336 = .ok (.iadd, 1) := by decide +kernel
theorem dL_law_337 : decode cL_law 337 = .ok (.iaload, 1) := by decide +kernel
theorem dL_law_338 : decode cL_law 338 = .ok (.invokevirtual 31, 3) := by decide +kernel
theorem dL_law_341 : decode cL_law 341 = .ok (.if_icmp .eq 764, 3) := by decide +kernel
theorem dL_law_344 : decode cL_law 344 = .ok (.iconst 0, 1) := by decide +kernel
theorem dL_law_345 : decode cL_law 345 = .ok (.ireturn, 1) := by decide +kernel
theorem dL_law_346 : decode cL_law 346 = .ok (.aload_n 1, 1) := by decide +kernel
theorem dL_law_347 : decode cL_law 347 = .ok (.aload_n 0, 1) := by decide +kernel
theorem dL_law_348 : decode cL_law 348 = .ok (.iload_n 3, 1) := by decide +kernel
theorem dL_law_349 : decode cL_law 349 = .ok (.iconst 1, 1) := by decide +kernel
theorem dL_law_350 : decode cL_law 350 = .ok (.iadd, 1) := by decide +kernel
theorem dL_law_351 : decode cL_law 351 = .ok (.iaload, 1) := by decide +kernel
theorem dL_law_352 : decode cL_law 352 = .ok (.invokevirtual 32, 3) := by decide +kernel
theorem dL_law_355 : decode cL_law 355 = .ok (.aload_n 2, 1) := by decide +kernel
theorem dL_law_356 : decode cL_law 356 = .ok (.aload_n 0, 1) := by decide +kernel
theorem dL_law_357 : decode cL_law 357 = .ok (.iload_n 3, 1) := by decide +kernel
theorem dL_law_358 : decode cL_law 358 = .ok (.iconst 1, 1) := by decide +kernel
theorem dL_law_359 : decode cL_law 359 = .ok (.iadd, 1) := by decide +kernel
theorem dL_law_360 : decode cL_law 360 = .ok (.iaload, 1) := by decide +kernel
theorem dL_law_361 : decode cL_law 361 = .ok (.invokevirtual 36, 3) := by decide +kernel
theorem dL_law_364 : decode cL_law 364 = .ok (.if_icmp .eq 741, 3) := by decide +kernel
theorem dL_law_367 : decode cL_law 367 = .ok (.iconst 0, 1) := by decide +kernel
theorem dL_law_368 : decode cL_law 368 = .ok (.ireturn, 1) := by decide +kernel
theorem dL_law_369 : decode cL_law 369 = .ok (.aload_n 1, 1) := by decide +kernel
theorem dL_law_370 : decode cL_law 370 = .ok (.aload_n 0, 1) := by decide +kernel
theorem dL_law_371 : decode cL_law 371 = .ok (.iload_n 3, 1) := by decide +kernel
theorem dL_law_372 : decode cL_law 372 = .ok (.iconst 1, 1) := by decide +kernel
theorem dL_law_373 : decode cL_law 373 = .ok (.iadd, 1) := by decide +kernel
theorem dL_law_374 : decode cL_law 374 = .ok (.iaload, 1) := by decide +kernel
theorem dL_law_375 : decode cL_law 375 = .ok (.invokevirtual 37, 3) := by decide +kernel
theorem dL_law_378 : decode cL_law 378 = .ok (.aload_n 2, 1) := by decide +kernel
theorem dL_law_379 : decode cL_law 379 = .ok (.aload_n 0, 1) := by decide +kernel
theorem dL_law_380 : decode cL_law 380 = .ok (.iload_n 3, 1) := by decide +kernel
theorem dL_law_381 : decode cL_law 381 = .ok (.iconst 1, 1) := by decide +kernel
theorem dL_law_382 : decode cL_law 382 = .ok (.iadd, 1) := by decide +kernel
theorem dL_law_383 : decode cL_law 383 = .ok (.iaload, 1) := by decide +kernel
theorem dL_law_384 : decode cL_law 384 = .ok (.invokevirtual 40, 3) := by decide +kernel
theorem dL_law_387 : decode cL_law 387 = .ok (.if_icmp .eq 718, 3) := by decide +kernel
theorem dL_law_390 : decode cL_law 390 = .ok (.iconst 0, 1) := by decide +kernel
theorem dL_law_391 : decode cL_law 391 = .ok (.ireturn, 1) := by decide +kernel
theorem dL_law_392 : decode cL_law 392 = .ok (.aload_n 1, 1) := by decide +kernel
theorem dL_law_393 : decode cL_law 393 = .ok (.aload_n 0, 1) := by decide +kernel
theorem dL_law_394 : decode cL_law 394 = .ok (.iload_n 3, 1) := by decide +kernel
theorem dL_law_395 : decode cL_law 395 = .ok (.iconst 1, 1) := by decide +kernel
theorem dL_law_396 : decode cL_law 396 = .ok (.iadd, 1) := by decide +kernel
theorem dL_law_397 : decode cL_law 397 = .ok (.iaload, 1) := by decide +kernel
theorem dL_law_398 : decode cL_law 398 = .ok (.invokevirtual 41, 3) := by decide +kernel
theorem dL_law_401 : decode cL_law 401 = .ok (.aload_n 2, 1) := by decide +kernel
theorem dL_law_402 : decode cL_law 402 = .ok (.aload_n 0, 1) := by decide +kernel
theorem dL_law_403 : decode cL_law 403 = .ok (.iload_n 3, 1) := by decide +kernel
theorem dL_law_404 : decode cL_law 404 = .ok (.iconst 1, 1) := by decide +kernel
theorem dL_law_405 : decode cL_law 405 = .ok (.iadd, 1) := by decide +kernel
theorem dL_law_406 : decode cL_law 406 = .ok (.iaload, 1) := by decide +kernel
theorem dL_law_407 : decode cL_law 407 = .ok (.invokevirtual 44, 3) := by decide +kernel
theorem dL_law_410 : decode cL_law 410 = .ok (.if_icmp .eq 695, 3) := by decide +kernel
theorem dL_law_413 : decode cL_law 413 = .ok (.iconst 0, 1) := by decide +kernel
theorem dL_law_414 : decode cL_law 414 = .ok (.ireturn, 1) := by decide +kernel
theorem dL_law_415 : decode cL_law 415 = .ok (.aload_n 1, 1) := by decide +kernel
theorem dL_law_416 : decode cL_law 416 = .ok (.aload_n 0, 1) := by decide +kernel
theorem dL_law_417 : decode cL_law 417 = .ok (.iload_n 3, 1) := by decide +kernel
theorem dL_law_418 : decode cL_law 418 = .ok (.iconst 1, 1) := by decide +kernel
theorem dL_law_419 : decode cL_law 419 = .ok (.iadd, 1) := by decide +kernel
theorem dL_law_420 : decode cL_law 420 = .ok (.iaload, 1) := by decide +kernel
theorem dL_law_421 : decode cL_law 421 = .ok (.aload_n 0, 1) := by decide +kernel
theorem dL_law_422 : decode cL_law 422 = .ok (.iload_n 3, 1) := by decide +kernel
theorem dL_law_423 : decode cL_law 423 = .ok (.iconst 2, 1) := by decide +kernel
theorem dL_law_424 : decode cL_law 424 = .ok (.iadd, 1) := by decide +kernel
theorem dL_law_425 : decode cL_law 425 = .ok (.iaload, 1) := by decide +kernel
theorem dL_law_426 : decode cL_law 426 = .ok (.invokevirtual 45, 3) := by decide +kernel
theorem dL_law_429 : decode cL_law 429 = .ok (.aload_n 2, 1) := by decide +kernel
theorem dL_law_430 : decode cL_law 430 = .ok (.aload_n 0, 1) := by decide +kernel
theorem dL_law_431 : decode cL_law 431 = .ok (.iload_n 3, 1) := by decide +kernel
theorem dL_law_432 : decode cL_law 432 = .ok (.iconst 1, 1) := by decide +kernel
theorem dL_law_433 : decode cL_law 433 = .ok (.iadd, 1) := by decide +kernel
theorem dL_law_434 : decode cL_law 434 = .ok (.iaload, 1) := by decide +kernel
theorem dL_law_435 : decode cL_law 435 = .ok (.aload_n 0, 1) := by decide +kernel
theorem dL_law_436 : decode cL_law 436 = .ok (.iload_n 3, 1) := by decide +kernel
theorem dL_law_437 : decode cL_law 437 = .ok (.iconst 2, 1) := by decide +kernel
theorem dL_law_438 : decode cL_law 438 = .ok (.iadd, 1) := by decide +kernel
theorem dL_law_439 : decode cL_law 439 = .ok (.iaload, 1) := by decide +kernel
theorem dL_law_440 : decode cL_law 440 = .ok (.invokevirtual 49, 3) := by decide +kernel
theorem dL_law_443 : decode cL_law 443 = .ok (.if_icmp .eq 662, 3) := by decide +kernel
theorem dL_law_446 : decode cL_law 446 = .ok (.iconst 0, 1) := by decide +kernel
theorem dL_law_447 : decode cL_law 447 = .ok (.ireturn, 1) := by decide +kernel
theorem dL_law_448 : decode cL_law 448 = .ok (.aload_n 1, 1) := by decide +kernel
theorem dL_law_449 : decode cL_law 449 = .ok (.aload_n 0, 1) := by decide +kernel
theorem dL_law_450 : decode cL_law 450 = .ok (.iload_n 3, 1) := by decide +kernel
theorem dL_law_451 : decode cL_law 451 = .ok (.iconst 1, 1) := by decide +kernel
theorem dL_law_452 : decode cL_law 452 = .ok (.iadd, 1) := by decide +kernel
theorem dL_law_453 : decode cL_law 453 = .ok (.iaload, 1) := by decide +kernel
theorem dL_law_454 : decode cL_law 454 = .ok (.aload_n 0, 1) := by decide +kernel
theorem dL_law_455 : decode cL_law 455 = .ok (.iload_n 3, 1) := by decide +kernel
theorem dL_law_456 : decode cL_law 456 = .ok (.iconst 2, 1) := by decide +kernel
theorem dL_law_457 : decode cL_law 457 = .ok (.iadd, 1) := by decide +kernel
theorem dL_law_458 : decode cL_law 458 = .ok (.iaload, 1) := by decide +kernel
theorem dL_law_459 : decode cL_law 459 = .ok (.invokevirtual 50, 3) := by decide +kernel
theorem dL_law_462 : decode cL_law 462 = .ok (.aload_n 2, 1) := by decide +kernel
theorem dL_law_463 : decode cL_law 463 = .ok (.aload_n 0, 1) := by decide +kernel
theorem dL_law_464 : decode cL_law 464 = .ok (.iload_n 3, 1) := by decide +kernel
theorem dL_law_465 : decode cL_law 465 = .ok (.iconst 1, 1) := by decide +kernel
theorem dL_law_466 : decode cL_law 466 = .ok (.iadd, 1) := by decide +kernel
theorem dL_law_467 : decode cL_law 467 = .ok (.iaload, 1) := by decide +kernel
theorem dL_law_468 : decode cL_law 468 = .ok (.aload_n 0, 1) := by decide +kernel
theorem dL_law_469 : decode cL_law 469 = .ok (.iload_n 3, 1) := by decide +kernel
theorem dL_law_470 : decode cL_law 470 = .ok (.iconst 2, 1) := by decide +kernel
theorem dL_law_471 : decode cL_law 471 = .ok (.iadd, 1) := by decide +kernel
theorem dL_law_472 : decode cL_law 472 = .ok (.iaload, 1) := by decide +kernel
theorem dL_law_473 : decode cL_law 473 = .ok (.invokevirtual 53, 3) := by decide +kernel
theorem dL_law_476 : decode cL_law 476 = .ok (.if_icmp .eq 629, 3) := by decide +kernel
theorem dL_law_479 : decode cL_law 479 = .ok (.iconst 0, 1) := by decide +kernel
theorem dL_law_480 : decode cL_law 480 = .ok (.ireturn, 1) := by decide +kernel
theorem dL_law_481 : decode cL_law 481 = .ok (.aload_n 1, 1) := by decide +kernel
theorem dL_law_482 : decode cL_law 482 = .ok (.aload_n 0, 1) := by decide +kernel
theorem dL_law_483 : decode cL_law 483 = .ok (.iload_n 3, 1) := by decide +kernel
theorem dL_law_484 : decode cL_law 484 = .ok (.iconst 1, 1) := by decide +kernel
theorem dL_law_485 : decode cL_law 485 = .ok (.iadd, 1) := by decide +kernel
theorem dL_law_486 : decode cL_law 486 = .ok (.iaload, 1) := by decide +kernel
theorem dL_law_487 : decode cL_law 487 = .ok (.aload_n 0, 1) := by decide +kernel
theorem dL_law_488 : decode cL_law 488 = .ok (.iload_n 3, 1) := by decide +kernel
theorem dL_law_489 : decode cL_law 489 = .ok (.iconst 2, 1) := by decide +kernel
theorem dL_law_490 : decode cL_law 490 = .ok (.iadd, 1) := by decide +kernel
theorem dL_law_491 : decode cL_law 491 = .ok (.iaload, 1) := by decide +kernel
theorem dL_law_492 : decode cL_law 492 = .ok (.invokevirtual 54, 3) := by decide +kernel
theorem dL_law_495 : decode cL_law 495 = .ok (.aload_n 2, 1) := by decide +kernel
theorem dL_law_496 : decode cL_law 496 = .ok (.aload_n 0, 1) := by decide +kernel
theorem dL_law_497 : decode cL_law 497 = .ok (.iload_n 3, 1) := by decide +kernel
theorem dL_law_498 : decode cL_law 498 = .ok (.iconst 1, 1) := by decide +kernel
theorem dL_law_499 : decode cL_law 499 = .ok (.iadd, 1) := by decide +kernel
theorem dL_law_500 : decode cL_law 500 = .ok (.iaload, 1) := by decide +kernel
theorem dL_law_501 : decode cL_law 501 = .ok (.aload_n 0, 1) := by decide +kernel
theorem dL_law_502 : decode cL_law 502 = .ok (.iload_n 3, 1) := by decide +kernel
theorem dL_law_503 : decode cL_law 503 = .ok (.iconst 2, 1) := by decide +kernel
theorem dL_law_504 : decode cL_law 504 = .ok (.iadd, 1) := by decide +kernel
theorem dL_law_505 : decode cL_law 505 = .ok (.iaload, 1) := by decide +kernel
theorem dL_law_506 : decode cL_law 506 = .ok (.invokevirtual 57, 3) := by decide +kernel
theorem dL_law_509 : decode cL_law 509 = .ok (.if_icmp .eq 596, 3) := by decide +kernel
theorem dL_law_512 : decode cL_law 512 = .ok (.iconst 0, 1) := by decide +kernel
theorem dL_law_513 : decode cL_law 513 = .ok (.ireturn, 1) := by decide +kernel
theorem dL_law_514 : decode cL_law 514 = .ok (.aload_n 1, 1) := by decide +kernel
theorem dL_law_515 : decode cL_law 515 = .ok (.aload_n 0, 1) := by decide +kernel
theorem dL_law_516 : decode cL_law 516 = .ok (.iload_n 3, 1) := by decide +kernel
theorem dL_law_517 : decode cL_law 517 = .ok (.iconst 1, 1) := by decide +kernel
theorem dL_law_518 : decode cL_law 518 = .ok (.iadd, 1) := by decide +kernel
theorem dL_law_519 : decode cL_law 519 = .ok (.iaload, 1) := by decide +kernel
theorem dL_law_520 : decode cL_law 520 = .ok (.aload_n 0, 1) := by decide +kernel
theorem dL_law_521 : decode cL_law 521 = .ok (.iload_n 3, 1) := by decide +kernel
theorem dL_law_522 : decode cL_law 522 = .ok (.iconst 2, 1) := by decide +kernel
theorem dL_law_523 : decode cL_law 523 = .ok (.iadd, 1) := by decide +kernel
theorem dL_law_524 : decode cL_law 524 = .ok (.iaload, 1) := by decide +kernel
theorem dL_law_525 : decode cL_law 525 = .ok (.invokevirtual 58, 3) := by decide +kernel
theorem dL_law_528 : decode cL_law 528 = .ok (.aload_n 2, 1) := by decide +kernel
theorem dL_law_529 : decode cL_law 529 = .ok (.aload_n 0, 1) := by decide +kernel
theorem dL_law_530 : decode cL_law 530 = .ok (.iload_n 3, 1) := by decide +kernel
theorem dL_law_531 : decode cL_law 531 = .ok (.iconst 1, 1) := by decide +kernel
theorem dL_law_532 : decode cL_law 532 = .ok (.iadd, 1) := by decide +kernel
theorem dL_law_533 : decode cL_law 533 = .ok (.iaload, 1) := by decide +kernel
theorem dL_law_534 : decode cL_law 534 = .ok (.aload_n 0, 1) := by decide +kernel
theorem dL_law_535 : decode cL_law 535 = .ok (.iload_n 3, 1) := by decide +kernel
theorem dL_law_536 : decode cL_law 536 = .ok (.iconst 2, 1) := by decide +kernel
theorem dL_law_537 : decode cL_law 537 = .ok (.iadd, 1) := by decide +kernel
theorem dL_law_538 : decode cL_law 538 = .ok (.iaload, 1) := by decide +kernel
theorem dL_law_539 : decode cL_law 539 = .ok (.invokevirtual 61, 3) := by decide +kernel
theorem dL_law_542 : decode cL_law 542 = .ok (.if_icmp .eq 563, 3) := by decide +kernel
theorem dL_law_545 : decode cL_law 545 = .ok (.iconst 0, 1) := by decide +kernel
theorem dL_law_546 : decode cL_law 546 = .ok (.ireturn, 1) := by decide +kernel
theorem dL_law_547 : decode cL_law 547 = .ok (.aload_n 1, 1) := by decide +kernel
theorem dL_law_548 : decode cL_law 548 = .ok (.aload_n 0, 1) := by decide +kernel
theorem dL_law_549 : decode cL_law 549 = .ok (.iload_n 3, 1) := by decide +kernel
theorem dL_law_550 : decode cL_law 550 = .ok (.iconst 1, 1) := by decide +kernel
theorem dL_law_551 : decode cL_law 551 = .ok (.iadd, 1) := by decide +kernel
theorem dL_law_552 : decode cL_law 552 = .ok (.iaload, 1) := by decide +kernel
theorem dL_law_553 : decode cL_law 553 = .ok (.aload_n 0, 1) := by decide +kernel
theorem dL_law_554 : decode cL_law 554 = .ok (.iload_n 3, 1) := by decide +kernel
theorem dL_law_555 : decode cL_law 555 = .ok (.iconst 2, 1) := by decide +kernel
theorem dL_law_556 : decode cL_law 556 = .ok (.iadd, 1) := by decide +kernel
theorem dL_law_557 : decode cL_law 557 = .ok (.iaload, 1) := by decide +kernel
theorem dL_law_558 : decode cL_law 558 = .ok (.aload_n 0, 1) := by decide +kernel
theorem dL_law_559 : decode cL_law 559 = .ok (.iload_n 3, 1) := by decide +kernel
theorem dL_law_560 : decode cL_law 560 = .ok (.iconst 3, 1) := by decide +kernel
theorem dL_law_561 : decode cL_law 561 = .ok (.iadd, 1) := by decide +kernel
theorem dL_law_562 : decode cL_law 562 = .ok (.iaload, 1) := by decide +kernel
theorem dL_law_563 : decode cL_law 563 = .ok (.aload_n 0, 1) := by decide +kernel
theorem dL_law_564 : decode cL_law 564 = .ok (.iload_n 3, 1) := by decide +kernel
theorem dL_law_565 : decode cL_law 565 = .ok (.iconst 4, 1) := by decide +kernel
theorem dL_law_566 : decode cL_law 566 = .ok (.iadd, 1) := by decide +kernel
theorem dL_law_567 : decode cL_law 567 = .ok (.iaload, 1) := by decide +kernel
theorem dL_law_568 : decode cL_law 568 = .ok (.invokevirtual 62, 3) := by decide +kernel
theorem dL_law_571 : decode cL_law 571 = .ok (.aload_n 2, 1) := by decide +kernel
theorem dL_law_572 : decode cL_law 572 = .ok (.aload_n 0, 1) := by decide +kernel
theorem dL_law_573 : decode cL_law 573 = .ok (.iload_n 3, 1) := by decide +kernel
theorem dL_law_574 : decode cL_law 574 = .ok (.iconst 1, 1) := by decide +kernel
theorem dL_law_575 : decode cL_law 575 = .ok (.iadd, 1) := by decide +kernel
theorem dL_law_576 : decode cL_law 576 = .ok (.iaload, 1) := by decide +kernel
theorem dL_law_577 : decode cL_law 577 = .ok (.aload_n 0, 1) := by decide +kernel
theorem dL_law_578 : decode cL_law 578 = .ok (.iload_n 3, 1) := by decide +kernel
theorem dL_law_579 : decode cL_law 579 = .ok (.iconst 2, 1) := by decide +kernel
theorem dL_law_580 : decode cL_law 580 = .ok (.iadd, 1) := by decide +kernel
theorem dL_law_581 : decode cL_law 581 = .ok (.iaload, 1) := by decide +kernel
theorem dL_law_582 : decode cL_law 582 = .ok (.aload_n 0, 1) := by decide +kernel
theorem dL_law_583 : decode cL_law 583 = .ok (.iload_n 3, 1) := by decide +kernel
theorem dL_law_584 : decode cL_law 584 = .ok (.iconst 3, 1) := by decide +kernel
theorem dL_law_585 : decode cL_law 585 = .ok (.iadd, 1) := by decide +kernel
theorem dL_law_586 : decode cL_law 586 = .ok (.iaload, 1) := by decide +kernel
theorem dL_law_587 : decode cL_law 587 = .ok (.aload_n 0, 1) := by decide +kernel
theorem dL_law_588 : decode cL_law 588 = .ok (.iload_n 3, 1) := by decide +kernel
theorem dL_law_589 : decode cL_law 589 = .ok (.iconst 4, 1) := by decide +kernel
theorem dL_law_590 : decode cL_law 590 = .ok (.iadd, 1) := by decide +kernel
theorem dL_law_591 : decode cL_law 591 = .ok (.iaload, 1) := by decide +kernel
theorem dL_law_592 : decode cL_law 592 = .ok (.invokevirtual 66, 3) := by decide +kernel
theorem dL_law_595 : decode cL_law 595 = .ok (.if_icmp .eq 510, 3) := by decide +kernel
theorem dL_law_598 : decode cL_law 598 = .ok (.iconst 0, 1) := by decide +kernel
theorem dL_law_599 : decode cL_law 599 = .ok (.ireturn, 1) := by decide +kernel
theorem dL_law_600 : decode cL_law 600 = .ok (.aload_n 1, 1) := by decide +kernel
theorem dL_law_601 : decode cL_law 601 = .ok (.aload_n 0, 1) := by decide +kernel
theorem dL_law_602 : decode cL_law 602 = .ok (.iload_n 3, 1) := by decide +kernel
theorem dL_law_603 : decode cL_law 603 = .ok (.iconst 1, 1) := by decide +kernel
theorem dL_law_604 : decode cL_law 604 = .ok (.iadd, 1) := by decide +kernel
theorem dL_law_605 : decode cL_law 605 = .ok (.iaload, 1) := by decide +kernel
theorem dL_law_606 : decode cL_law 606 = .ok (.invokevirtual 67, 3) := by decide +kernel
theorem dL_law_609 : decode cL_law 609 = .ok (.aload_n 2, 1) := by decide +kernel
theorem dL_law_610 : decode cL_law 610 = .ok (.aload_n 0, 1) := by decide +kernel
theorem dL_law_611 : decode cL_law 611 = .ok (.iload_n 3, 1) := by decide +kernel
theorem dL_law_612 : decode cL_law 612 = .ok (.iconst 1, 1) := by decide +kernel
theorem dL_law_613 : decode cL_law 613 = .ok (.iadd, 1) := by decide +kernel
theorem dL_law_614 : decode cL_law 614 = .ok (.iaload, 1) := by decide +kernel
theorem dL_law_615 : decode cL_law 615 = .ok (.invokevirtual 70, 3) := by decide +kernel
theorem dL_law_618 : decode cL_law 618 = .ok (.if_icmp .eq 487, 3) := by decide +kernel
theorem dL_law_621 : decode cL_law 621 = .ok (.iconst 0, 1) := by decide +kernel
theorem dL_law_622 : decode cL_law 622 = .ok (.ireturn, 1) := by decide +kernel
theorem dL_law_623 : decode cL_law 623 = .ok (.aload_n 1, 1) := by decide +kernel
theorem dL_law_624 : decode cL_law 624 = .ok (.aload_n 0, 1) := by decide +kernel
theorem dL_law_625 : decode cL_law 625 = .ok (.iload_n 3, 1) := by decide +kernel
theorem dL_law_626 : decode cL_law 626 = .ok (.iconst 1, 1) := by decide +kernel
theorem dL_law_627 : decode cL_law 627 = .ok (.iadd, 1) := by decide +kernel
theorem dL_law_628 : decode cL_law 628 = .ok (.iaload, 1) := by decide +kernel
theorem dL_law_629 : decode cL_law 629 = .ok (.aload_n 0, 1) := by decide +kernel
theorem dL_law_630 : decode cL_law 630 = .ok (.iload_n 3, 1) := by decide +kernel
theorem dL_law_631 : decode cL_law 631 = .ok (.iconst 2, 1) := by decide +kernel
theorem dL_law_632 : decode cL_law 632 = .ok (.iadd, 1) := by decide +kernel
theorem dL_law_633 : decode cL_law 633 = .ok (.iaload, 1) := by decide +kernel
theorem dL_law_634 : decode cL_law 634 = .ok (.invokevirtual 71, 3) := by decide +kernel
theorem dL_law_637 : decode cL_law 637 = .ok (.aload_n 2, 1) := by decide +kernel
theorem dL_law_638 : decode cL_law 638 = .ok (.aload_n 0, 1) := by decide +kernel
theorem dL_law_639 : decode cL_law 639 = .ok (.iload_n 3, 1) := by decide +kernel
theorem dL_law_640 : decode cL_law 640 = .ok (.iconst 1, 1) := by decide +kernel
theorem dL_law_641 : decode cL_law 641 = .ok (.iadd, 1) := by decide +kernel
theorem dL_law_642 : decode cL_law 642 = .ok (.iaload, 1) := by decide +kernel
theorem dL_law_643 : decode cL_law 643 = .ok (.aload_n 0, 1) := by decide +kernel
theorem dL_law_644 : decode cL_law 644 = .ok (.iload_n 3, 1) := by decide +kernel
theorem dL_law_645 : decode cL_law 645 = .ok (.iconst 2, 1) := by decide +kernel
theorem dL_law_646 : decode cL_law 646 = .ok (.iadd, 1) := by decide +kernel
theorem dL_law_647 : decode cL_law 647 = .ok (.iaload, 1) := by decide +kernel
theorem dL_law_648 : decode cL_law 648 = .ok (.invokevirtual 74, 3) := by decide +kernel
theorem dL_law_651 : decode cL_law 651 = .ok (.if_icmp .eq 454, 3) := by decide +kernel
theorem dL_law_654 : decode cL_law 654 = .ok (.iconst 0, 1) := by decide +kernel
theorem dL_law_655 : decode cL_law 655 = .ok (.ireturn, 1) := by decide +kernel
theorem dL_law_656 : decode cL_law 656 = .ok (.aload_n 1, 1) := by decide +kernel
theorem dL_law_657 : decode cL_law 657 = .ok (.invokevirtual 75, 3) := by decide +kernel
theorem dL_law_660 : decode cL_law 660 = .ok (.aload_n 2, 1) := by decide +kernel
theorem dL_law_661 : decode cL_law 661 = .ok (.invokevirtual 79, 3) := by decide +kernel
theorem dL_law_664 : decode cL_law 664 = .ok (.if_icmp .eq 441, 3) := by decide +kernel
theorem dL_law_667 : decode cL_law 667 = .ok (.iconst 0, 1) := by decide +kernel
theorem dL_law_668 : decode cL_law 668 = .ok (.ireturn, 1) := by decide +kernel
theorem dL_law_669 : decode cL_law 669 = .ok (.aload_n 1, 1) := by decide +kernel
theorem dL_law_670 : decode cL_law 670 = .ok (.aload_n 0, 1) := by decide +kernel
theorem dL_law_671 : decode cL_law 671 = .ok (.iload_n 3, 1) := by decide +kernel
theorem dL_law_672 : decode cL_law 672 = .ok (.iconst 1, 1) := by decide +kernel
theorem dL_law_673 : decode cL_law 673 = .ok (.iadd, 1) := by decide +kernel
theorem dL_law_674 : decode cL_law 674 = .ok (.iaload, 1) := by decide +kernel
theorem dL_law_675 : decode cL_law 675 = .ok (.aload_n 0, 1) := by decide +kernel
theorem dL_law_676 : decode cL_law 676 = .ok (.iload_n 3, 1) := by decide +kernel
theorem dL_law_677 : decode cL_law 677 = .ok (.iconst 2, 1) := by decide +kernel
theorem dL_law_678 : decode cL_law 678 = .ok (.iadd, 1) := by decide +kernel
theorem dL_law_679 : decode cL_law 679 = .ok (.iaload, 1) := by decide +kernel
theorem dL_law_680 : decode cL_law 680 = .ok (.aload_n 0, 1) := by decide +kernel
theorem dL_law_681 : decode cL_law 681 = .ok (.iload_n 3, 1) := by decide +kernel
theorem dL_law_682 : decode cL_law 682 = .ok (.iconst 3, 1) := by decide +kernel
theorem dL_law_683 : decode cL_law 683 = .ok (.iadd, 1) := by decide +kernel
theorem dL_law_684 : decode cL_law 684 = .ok (.iaload, 1) := by decide +kernel
theorem dL_law_685 : decode cL_law 685 = .ok (.invokevirtual 80, 3) := by decide +kernel
theorem dL_law_688 : decode cL_law 688 = .ok (.aload_n 2, 1) := by decide +kernel
theorem dL_law_689 : decode cL_law 689 = .ok (.aload_n 0, 1) := by decide +kernel
theorem dL_law_690 : decode cL_law 690 = .ok (.iload_n 3, 1) := by decide +kernel
theorem dL_law_691 : decode cL_law 691 = .ok (.iconst 1, 1) := by decide +kernel
theorem dL_law_692 : decode cL_law 692 = .ok (.iadd, 1) := by decide +kernel
theorem dL_law_693 : decode cL_law 693 = .ok (.iaload, 1) := by decide +kernel
theorem dL_law_694 : decode cL_law 694 = .ok (.aload_n 0, 1) := by decide +kernel
theorem dL_law_695 : decode cL_law 695 = .ok (.iload_n 3, 1) := by decide +kernel
theorem dL_law_696 : decode cL_law 696 = .ok (.iconst 2, 1) := by decide +kernel
theorem dL_law_697 : decode cL_law 697 = .ok (.iadd, 1) := by decide +kernel
theorem dL_law_698 : decode cL_law 698 = .ok (.iaload, 1) := by decide +kernel
theorem dL_law_699 : decode cL_law 699 = .ok (.aload_n 0, 1) := by decide +kernel
theorem dL_law_700 : decode cL_law 700 = .ok (.iload_n 3, 1) := by decide +kernel
theorem dL_law_701 : decode cL_law 701 = .ok (.iconst 3, 1) := by decide +kernel
theorem dL_law_702 : decode cL_law 702 = .ok (.iadd, 1) := by decide +kernel
theorem dL_law_703 : decode cL_law 703 = .ok (.iaload, 1) := by decide +kernel
theorem dL_law_704 : decode cL_law 704 = .ok (.invokevirtual 84, 3) := by decide +kernel
theorem dL_law_707 : decode cL_law 707 = .ok (.if_icmp .eq 398, 3) := by decide +kernel
theorem dL_law_710 : decode cL_law 710 = .ok (.iconst 0, 1) := by decide +kernel
theorem dL_law_711 : decode cL_law 711 = .ok (.ireturn, 1) := by decide +kernel
theorem dL_law_712 : decode cL_law 712 = .ok (.aload_n 1, 1) := by decide +kernel
theorem dL_law_713 : decode cL_law 713 = .ok (.aload_n 0, 1) := by decide +kernel
theorem dL_law_714 : decode cL_law 714 = .ok (.iload_n 3, 1) := by decide +kernel
theorem dL_law_715 : decode cL_law 715 = .ok (.iconst 1, 1) := by decide +kernel
theorem dL_law_716 : decode cL_law 716 = .ok (.iadd, 1) := by decide +kernel
theorem dL_law_717 : decode cL_law 717 = .ok (.iaload, 1) := by decide +kernel
theorem dL_law_718 : decode cL_law 718 = .ok (.aload_n 0, 1) := by decide +kernel
theorem dL_law_719 : decode cL_law 719 = .ok (.iload_n 3, 1) := by decide +kernel
theorem dL_law_720 : decode cL_law 720 = .ok (.iconst 2, 1) := by decide +kernel
theorem dL_law_721 : decode cL_law 721 = .ok (.iadd, 1) := by decide +kernel
theorem dL_law_722 : decode cL_law 722 = .ok (.iaload, 1) := by decide +kernel
theorem dL_law_723 : decode cL_law 723 = .ok (.invokevirtual 85, 3) := by decide +kernel
theorem dL_law_726 : decode cL_law 726 = .ok (.aload_n 2, 1) := by decide +kernel
theorem dL_law_727 : decode cL_law 727 = .ok (.aload_n 0, 1) := by decide +kernel
theorem dL_law_728 : decode cL_law 728 = .ok (.iload_n 3, 1) := by decide +kernel
theorem dL_law_729 : decode cL_law 729 = .ok (.iconst 1, 1) := by decide +kernel
theorem dL_law_730 : decode cL_law 730 = .ok (.iadd, 1) := by decide +kernel
theorem dL_law_731 : decode cL_law 731 = .ok (.iaload, 1) := by decide +kernel
theorem dL_law_732 : decode cL_law 732 = .ok (.aload_n 0, 1) := by decide +kernel
theorem dL_law_733 : decode cL_law 733 = .ok (.iload_n 3, 1) := by decide +kernel
theorem dL_law_734 : decode cL_law 734 = .ok (.iconst 2, 1) := by decide +kernel
theorem dL_law_735 : decode cL_law 735 = .ok (.iadd, 1) := by decide +kernel
theorem dL_law_736 : decode cL_law 736 = .ok (.iaload, 1) := by decide +kernel
theorem dL_law_737 : decode cL_law 737 = .ok (.invokevirtual 88, 3) := by decide +kernel
theorem dL_law_740 : decode cL_law 740 = .ok (.if_icmp .eq 365, 3) := by decide +kernel
theorem dL_law_743 : decode cL_law 743 = .ok (.iconst 0, 1) := by decide +kernel
theorem dL_law_744 : decode cL_law 744 = .ok (.ireturn, 1) := by decide +kernel
theorem dL_law_745 : decode cL_law 745 = .ok (.aload_n 1, 1) := by decide +kernel
theorem dL_law_746 : decode cL_law 746 = .ok (.aload_n 0, 1) := by decide +kernel
theorem dL_law_747 : decode cL_law 747 = .ok (.iload_n 3, 1) := by decide +kernel
theorem dL_law_748 : decode cL_law 748 = .ok (.iconst 1, 1) := by decide +kernel
theorem dL_law_749 : decode cL_law 749 = .ok (.iadd, 1) := by decide +kernel
theorem dL_law_750 : decode cL_law 750 = .ok (.iaload, 1) := by decide +kernel
theorem dL_law_751 : decode cL_law 751 = .ok (.aload_n 0, 1) := by decide +kernel
theorem dL_law_752 : decode cL_law 752 = .ok (.iload_n 3, 1) := by decide +kernel
theorem dL_law_753 : decode cL_law 753 = .ok (.iconst 2, 1) := by decide +kernel
theorem dL_law_754 : decode cL_law 754 = .ok (.iadd, 1) := by decide +kernel
theorem dL_law_755 : decode cL_law 755 = .ok (.iaload, 1) := by decide +kernel
theorem dL_law_756 : decode cL_law 756 = .ok (.invokevirtual 89, 3) := by decide +kernel
theorem dL_law_759 : decode cL_law 759 = .ok (.aload_n 2, 1) := by decide +kernel
theorem dL_law_760 : decode cL_law 760 = .ok (.aload_n 0, 1) := by decide +kernel
theorem dL_law_761 : decode cL_law 761 = .ok (.iload_n 3, 1) := by decide +kernel
theorem dL_law_762 : decode cL_law 762 = .ok (.iconst 1, 1) := by decide +kernel
theorem dL_law_763 : decode cL_law 763 = .ok (.iadd, 1) := by decide +kernel
theorem dL_law_764 : decode cL_law 764 = .ok (.iaload, 1) := by decide +kernel
theorem dL_law_765 : decode cL_law 765 = .ok (.aload_n 0, 1) := by decide +kernel
theorem dL_law_766 : decode cL_law 766 = .ok (.iload_n 3, 1) := by decide +kernel
theorem dL_law_767 : decode cL_law 767 = .ok (.iconst 2, 1) := by decide +kernel
theorem dL_law_768 : decode cL_law 768 = .ok (.iadd, 1) := by decide +kernel
theorem dL_law_769 : decode cL_law 769 = .ok (.iaload, 1) := by decide +kernel
theorem dL_law_770 : decode cL_law 770 = .ok (.invokevirtual 92, 3) := by decide +kernel
theorem dL_law_773 : decode cL_law 773 = .ok (.if_icmp .eq 332, 3) := by decide +kernel
theorem dL_law_776 : decode cL_law 776 = .ok (.iconst 0, 1) := by decide +kernel
theorem dL_law_777 : decode cL_law 777 = .ok (.ireturn, 1) := by decide +kernel
theorem dL_law_778 : decode cL_law 778 = .ok (.aload_n 1, 1) := by decide +kernel
theorem dL_law_779 : decode cL_law 779 = .ok (.aload_n 0, 1) := by decide +kernel
theorem dL_law_780 : decode cL_law 780 = .ok (.iload_n 3, 1) := by decide +kernel
theorem dL_law_781 : decode cL_law 781 = .ok (.iconst 1, 1) := by decide +kernel
theorem dL_law_782 : decode cL_law 782 = .ok (.iadd, 1) := by decide +kernel
theorem dL_law_783 : decode cL_law 783 = .ok (.iaload, 1) := by decide +kernel
theorem dL_law_784 : decode cL_law 784 = .ok (.aload_n 0, 1) := by decide +kernel
theorem dL_law_785 : decode cL_law 785 = .ok (.iload_n 3, 1) := by decide +kernel
theorem dL_law_786 : decode cL_law 786 = .ok (.iconst 2, 1) := by decide +kernel
theorem dL_law_787 : decode cL_law 787 = .ok (.iadd, 1) := by decide +kernel
theorem dL_law_788 : decode cL_law 788 = .ok (.iaload, 1) := by decide +kernel
theorem dL_law_789 : decode cL_law 789 = .ok (.aload_n 0, 1) := by decide +kernel
theorem dL_law_790 : decode cL_law 790 = .ok (.iload_n 3, 1) := by decide +kernel
theorem dL_law_791 : decode cL_law 791 = .ok (.iconst 3, 1) := by decide +kernel
theorem dL_law_792 : decode cL_law 792 = .ok (.iadd, 1) := by decide +kernel
theorem dL_law_793 : decode cL_law 793 = .ok (.iaload, 1) := by decide +kernel
theorem dL_law_794 : decode cL_law 794 = .ok (.invokevirtual 93, 3) := by decide +kernel
theorem dL_law_797 : decode cL_law 797 = .ok (.aload_n 2, 1) := by decide +kernel
theorem dL_law_798 : decode cL_law 798 = .ok (.aload_n 0, 1) := by decide +kernel
theorem dL_law_799 : decode cL_law 799 = .ok (.iload_n 3, 1) := by decide +kernel
theorem dL_law_800 : decode cL_law 800 = .ok (.iconst 1, 1) := by decide +kernel
theorem dL_law_801 : decode cL_law 801 = .ok (.iadd, 1) := by decide +kernel
theorem dL_law_802 : decode cL_law 802 = .ok (.iaload, 1) := by decide +kernel
theorem dL_law_803 : decode cL_law 803 = .ok (.aload_n 0, 1) := by decide +kernel
theorem dL_law_804 : decode cL_law 804 = .ok (.iload_n 3, 1) := by decide +kernel
theorem dL_law_805 : decode cL_law 805 = .ok (.iconst 2, 1) := by decide +kernel
theorem dL_law_806 : decode cL_law 806 = .ok (.iadd, 1) := by decide +kernel
theorem dL_law_807 : decode cL_law 807 = .ok (.iaload, 1) := by decide +kernel
theorem dL_law_808 : decode cL_law 808 = .ok (.aload_n 0, 1) := by decide +kernel
theorem dL_law_809 : decode cL_law 809 = .ok (.iload_n 3, 1) := by decide +kernel
theorem dL_law_810 : decode cL_law 810 = .ok (.iconst 3, 1) := by decide +kernel
theorem dL_law_811 : decode cL_law 811 = .ok (.iadd, 1) := by decide +kernel
theorem dL_law_812 : decode cL_law 812 = .ok (.iaload, 1) := by decide +kernel
theorem dL_law_813 : decode cL_law 813 = .ok (.invokevirtual 97, 3) := by decide +kernel
theorem dL_law_816 : decode cL_law 816 = .ok (.lcmp, 1) := by decide +kernel
theorem dL_law_817 : decode cL_law 817 = .ok (.ifCond .eq 288, 3) := by decide +kernel
theorem dL_law_820 : decode cL_law 820 = .ok (.iconst 0, 1) := by decide +kernel
theorem dL_law_821 : decode cL_law 821 = .ok (.ireturn, 1) := by decide +kernel
theorem dL_law_822 : decode cL_law 822 = .ok (.aload_n 1, 1) := by decide +kernel
theorem dL_law_823 : decode cL_law 823 = .ok (.aload_n 0, 1) := by decide +kernel
theorem dL_law_824 : decode cL_law 824 = .ok (.iload_n 3, 1) := by decide +kernel
theorem dL_law_825 : decode cL_law 825 = .ok (.iconst 1, 1) := by decide +kernel
theorem dL_law_826 : decode cL_law 826 = .ok (.iadd, 1) := by decide +kernel
theorem dL_law_827 : decode cL_law 827 = .ok (.iaload, 1) := by decide +kernel
theorem dL_law_828 : decode cL_law 828 = .ok (.invokevirtual 98, 3) := by decide +kernel
theorem dL_law_831 : decode cL_law 831 = .ok (.aload_n 2, 1) := by decide +kernel
theorem dL_law_832 : decode cL_law 832 = .ok (.aload_n 0, 1) := by decide +kernel
theorem dL_law_833 : decode cL_law 833 = .ok (.iload_n 3, 1) := by decide +kernel
theorem dL_law_834 : decode cL_law 834 = .ok (.iconst 1, 1) := by decide +kernel
theorem dL_law_835 : decode cL_law 835 = .ok (.iadd, 1) := by decide +kernel
theorem dL_law_836 : decode cL_law 836 = .ok (.iaload, 1) := by decide +kernel
theorem dL_law_837 : decode cL_law 837 = .ok (.invokevirtual 101, 3) := by decide +kernel
theorem dL_law_840 : decode cL_law 840 = .ok (.if_icmp .eq 265, 3) := by decide +kernel
theorem dL_law_843 : decode cL_law 843 = .ok (.iconst 0, 1) := by decide +kernel
theorem dL_law_844 : decode cL_law 844 = .ok (.ireturn, 1) := by decide +kernel
theorem dL_law_845 : decode cL_law 845 = .ok (.aload_n 1, 1) := by decide +kernel
theorem dL_law_846 : decode cL_law 846 = .ok (.aload_n 0, 1) := by decide +kernel
theorem dL_law_847 : decode cL_law 847 = .ok (.iload_n 3, 1) := by decide +kernel
theorem dL_law_848 : decode cL_law 848 = .ok (.iconst 1, 1) := by decide +kernel
theorem dL_law_849 : decode cL_law 849 = .ok (.iadd, 1) := by decide +kernel
theorem dL_law_850 : decode cL_law 850 = .ok (.iaload, 1) := by decide +kernel
theorem dL_law_851 : decode cL_law 851 = .ok (.aload_n 0, 1) := by decide +kernel
theorem dL_law_852 : decode cL_law 852 = .ok (.iload_n 3, 1) := by decide +kernel
theorem dL_law_853 : decode cL_law 853 = .ok (.iconst 2, 1) := by decide +kernel
theorem dL_law_854 : decode cL_law 854 = .ok (.iadd, 1) := by decide +kernel
theorem dL_law_855 : decode cL_law 855 = .ok (.iaload, 1) := by decide +kernel
theorem dL_law_856 : decode cL_law 856 = .ok (.aload_n 0, 1) := by decide +kernel
theorem dL_law_857 : decode cL_law 857 = .ok (.iload_n 3, 1) := by decide +kernel
theorem dL_law_858 : decode cL_law 858 = .ok (.iconst 3, 1) := by decide +kernel
theorem dL_law_859 : decode cL_law 859 = .ok (.iadd, 1) := by decide +kernel
theorem dL_law_860 : decode cL_law 860 = .ok (.iaload, 1) := by decide +kernel
theorem dL_law_861 : decode cL_law 861 = .ok (.invokevirtual 102, 3) := by decide +kernel
theorem dL_law_864 : decode cL_law 864 = .ok (.aload_n 2, 1) := by decide +kernel
theorem dL_law_865 : decode cL_law 865 = .ok (.aload_n 0, 1) := by decide +kernel
theorem dL_law_866 : decode cL_law 866 = .ok (.iload_n 3, 1) := by decide +kernel
theorem dL_law_867 : decode cL_law 867 = .ok (.iconst 1, 1) := by decide +kernel
theorem dL_law_868 : decode cL_law 868 = .ok (.iadd, 1) := by decide +kernel
theorem dL_law_869 : decode cL_law 869 = .ok (.iaload, 1) := by decide +kernel
theorem dL_law_870 : decode cL_law 870 = .ok (.aload_n 0, 1) := by decide +kernel
theorem dL_law_871 : decode cL_law 871 = .ok (.iload_n 3, 1) := by decide +kernel
theorem dL_law_872 : decode cL_law 872 = .ok (.iconst 2, 1) := by decide +kernel
theorem dL_law_873 : decode cL_law 873 = .ok (.iadd, 1) := by decide +kernel
theorem dL_law_874 : decode cL_law 874 = .ok (.iaload, 1) := by decide +kernel
theorem dL_law_875 : decode cL_law 875 = .ok (.aload_n 0, 1) := by decide +kernel
theorem dL_law_876 : decode cL_law 876 = .ok (.iload_n 3, 1) := by decide +kernel
theorem dL_law_877 : decode cL_law 877 = .ok (.iconst 3, 1) := by decide +kernel
theorem dL_law_878 : decode cL_law 878 = .ok (.iadd, 1) := by decide +kernel
theorem dL_law_879 : decode cL_law 879 = .ok (.iaload, 1) := by decide +kernel
theorem dL_law_880 : decode cL_law 880 = .ok (.invokevirtual 105, 3) := by decide +kernel
theorem dL_law_883 : decode cL_law 883 = .ok (.if_icmp .eq 222, 3) := by decide +kernel
theorem dL_law_886 : decode cL_law 886 = .ok (.iconst 0, 1) := by decide +kernel
theorem dL_law_887 : decode cL_law 887 = .ok (.ireturn, 1) := by decide +kernel
theorem dL_law_888 : decode cL_law 888 = .ok (.aload_n 1, 1) := by decide +kernel
theorem dL_law_889 : decode cL_law 889 = .ok (.aload_n 0, 1) := by decide +kernel
theorem dL_law_890 : decode cL_law 890 = .ok (.iload_n 3, 1) := by decide +kernel
theorem dL_law_891 : decode cL_law 891 = .ok (.iconst 1, 1) := by decide +kernel
theorem dL_law_892 : decode cL_law 892 = .ok (.iadd, 1) := by decide +kernel
theorem dL_law_893 : decode cL_law 893 = .ok (.iaload, 1) := by decide +kernel
theorem dL_law_894 : decode cL_law 894 = .ok (.aload_n 0, 1) := by decide +kernel
theorem dL_law_895 : decode cL_law 895 = .ok (.iload_n 3, 1) := by decide +kernel
theorem dL_law_896 : decode cL_law 896 = .ok (.iconst 2, 1) := by decide +kernel
theorem dL_law_897 : decode cL_law 897 = .ok (.iadd, 1) := by decide +kernel
theorem dL_law_898 : decode cL_law 898 = .ok (.iaload, 1) := by decide +kernel
theorem dL_law_899 : decode cL_law 899 = .ok (.invokevirtual 106, 3) := by decide +kernel
theorem dL_law_902 : decode cL_law 902 = .ok (.aload_n 2, 1) := by decide +kernel
theorem dL_law_903 : decode cL_law 903 = .ok (.aload_n 0, 1) := by decide +kernel
theorem dL_law_904 : decode cL_law 904 = .ok (.iload_n 3, 1) := by decide +kernel
theorem dL_law_905 : decode cL_law 905 = .ok (.iconst 1, 1) := by decide +kernel
theorem dL_law_906 : decode cL_law 906 = .ok (.iadd, 1) := by decide +kernel
theorem dL_law_907 : decode cL_law 907 = .ok (.iaload, 1) := by decide +kernel
theorem dL_law_908 : decode cL_law 908 = .ok (.aload_n 0, 1) := by decide +kernel
theorem dL_law_909 : decode cL_law 909 = .ok (.iload_n 3, 1) := by decide +kernel
theorem dL_law_910 : decode cL_law 910 = .ok (.iconst 2, 1) := by decide +kernel
theorem dL_law_911 : decode cL_law 911 = .ok (.iadd, 1) := by decide +kernel
theorem dL_law_912 : decode cL_law 912 = .ok (.iaload, 1) := by decide +kernel
theorem dL_law_913 : decode cL_law 913 = .ok (.invokevirtual 109, 3) := by decide +kernel
theorem dL_law_916 : decode cL_law 916 = .ok (.if_icmp .eq 189, 3) := by decide +kernel
theorem dL_law_919 : decode cL_law 919 = .ok (.iconst 0, 1) := by decide +kernel
theorem dL_law_920 : decode cL_law 920 = .ok (.ireturn, 1) := by decide +kernel
theorem dL_law_921 : decode cL_law 921 = .ok (.aload_n 1, 1) := by decide +kernel
theorem dL_law_922 : decode cL_law 922 = .ok (.aload_n 0, 1) := by decide +kernel
theorem dL_law_923 : decode cL_law 923 = .ok (.iload_n 3, 1) := by decide +kernel
theorem dL_law_924 : decode cL_law 924 = .ok (.iconst 1, 1) := by decide +kernel
theorem dL_law_925 : decode cL_law 925 = .ok (.iadd, 1) := by decide +kernel
theorem dL_law_926 : decode cL_law 926 = .ok (.iaload, 1) := by decide +kernel
theorem dL_law_927 : decode cL_law 927 = .ok (.invokevirtual 110, 3) := by decide +kernel
theorem dL_law_930 : decode cL_law 930 = .ok (.aload_n 2, 1) := by decide +kernel
theorem dL_law_931 : decode cL_law 931 = .ok (.aload_n 0, 1) := by decide +kernel
theorem dL_law_932 : decode cL_law 932 = .ok (.iload_n 3, 1) := by decide +kernel
theorem dL_law_933 : decode cL_law 933 = .ok (.iconst 1, 1) := by decide +kernel
theorem dL_law_934 : decode cL_law 934 = .ok (.iadd, 1) := by decide +kernel
theorem dL_law_935 : decode cL_law 935 = .ok (.iaload, 1) := by decide +kernel
theorem dL_law_936 : decode cL_law 936 = .ok (.invokevirtual 113, 3) := by decide +kernel
theorem dL_law_939 : decode cL_law 939 = .ok (.if_icmp .eq 166, 3) := by decide +kernel
theorem dL_law_942 : decode cL_law 942 = .ok (.iconst 0, 1) := by decide +kernel
theorem dL_law_943 : decode cL_law 943 = .ok (.ireturn, 1) := by decide +kernel
theorem dL_law_944 : decode cL_law 944 = .ok (.aload_n 1, 1) := by decide +kernel
theorem dL_law_945 : decode cL_law 945 = .ok (.aload_n 0, 1) := by decide +kernel
theorem dL_law_946 : decode cL_law 946 = .ok (.iload_n 3, 1) := by decide +kernel
theorem dL_law_947 : decode cL_law 947 = .ok (.iconst 1, 1) := by decide +kernel
theorem dL_law_948 : decode cL_law 948 = .ok (.iadd, 1) := by decide +kernel
theorem dL_law_949 : decode cL_law 949 = .ok (.iaload, 1) := by decide +kernel
theorem dL_law_950 : decode cL_law 950 = .ok (.aload_n 0, 1) := by decide +kernel
theorem dL_law_951 : decode cL_law 951 = .ok (.iload_n 3, 1) := by decide +kernel
theorem dL_law_952 : decode cL_law 952 = .ok (.iconst 2, 1) := by decide +kernel
theorem dL_law_953 : decode cL_law 953 = .ok (.iadd, 1) := by decide +kernel
theorem dL_law_954 : decode cL_law 954 = .ok (.iaload, 1) := by decide +kernel
theorem dL_law_955 : decode cL_law 955 = .ok (.aload_n 0, 1) := by decide +kernel
theorem dL_law_956 : decode cL_law 956 = .ok (.iload_n 3, 1) := by decide +kernel
theorem dL_law_957 : decode cL_law 957 = .ok (.iconst 3, 1) := by decide +kernel
theorem dL_law_958 : decode cL_law 958 = .ok (.iadd, 1) := by decide +kernel
theorem dL_law_959 : decode cL_law 959 = .ok (.iaload, 1) := by decide +kernel
theorem dL_law_960 : decode cL_law 960 = .ok (.invokevirtual 114, 3) := by decide +kernel
theorem dL_law_963 : decode cL_law 963 = .ok (.aload_n 2, 1) := by decide +kernel
theorem dL_law_964 : decode cL_law 964 = .ok (.aload_n 0, 1) := by decide +kernel
theorem dL_law_965 : decode cL_law 965 = .ok (.iload_n 3, 1) := by decide +kernel
theorem dL_law_966 : decode cL_law 966 = .ok (.iconst 1, 1) := by decide +kernel
theorem dL_law_967 : decode cL_law 967 = .ok (.iadd, 1) := by decide +kernel
theorem dL_law_968 : decode cL_law 968 = .ok (.iaload, 1) := by decide +kernel
theorem dL_law_969 : decode cL_law 969 = .ok (.aload_n 0, 1) := by decide +kernel
theorem dL_law_970 : decode cL_law 970 = .ok (.iload_n 3, 1) := by decide +kernel
theorem dL_law_971 : decode cL_law 971 = .ok (.iconst 2, 1) := by decide +kernel
theorem dL_law_972 : decode cL_law 972 = .ok (.iadd, 1) := by decide +kernel
theorem dL_law_973 : decode cL_law 973 = .ok (.iaload, 1) := by decide +kernel
theorem dL_law_974 : decode cL_law 974 = .ok (.aload_n 0, 1) := by decide +kernel
theorem dL_law_975 : decode cL_law 975 = .ok (.iload_n 3, 1) := by decide +kernel
theorem dL_law_976 : decode cL_law 976 = .ok (.iconst 3, 1) := by decide +kernel
theorem dL_law_977 : decode cL_law 977 = .ok (.iadd, 1) := by decide +kernel
theorem dL_law_978 : decode cL_law 978 = .ok (.iaload, 1) := by decide +kernel
theorem dL_law_979 : decode cL_law 979 = .ok (.invokevirtual 117, 3) := by decide +kernel
theorem dL_law_982 : decode cL_law 982 = .ok (.if_icmp .eq 123, 3) := by decide +kernel
theorem dL_law_985 : decode cL_law 985 = .ok (.iconst 0, 1) := by decide +kernel
theorem dL_law_986 : decode cL_law 986 = .ok (.ireturn, 1) := by decide +kernel
theorem dL_law_987 : decode cL_law 987 = .ok (.aload_n 1, 1) := by decide +kernel
theorem dL_law_988 : decode cL_law 988 = .ok (.aload_n 0, 1) := by decide +kernel
theorem dL_law_989 : decode cL_law 989 = .ok (.iload_n 3, 1) := by decide +kernel
theorem dL_law_990 : decode cL_law 990 = .ok (.iconst 1, 1) := by decide +kernel
theorem dL_law_991 : decode cL_law 991 = .ok (.iadd, 1) := by decide +kernel
theorem dL_law_992 : decode cL_law 992 = .ok (.iaload, 1) := by decide +kernel
theorem dL_law_993 : decode cL_law 993 = .ok (.invokevirtual 118, 3) := by decide +kernel
theorem dL_law_996 : decode cL_law 996 = .ok (.aload_n 2, 1) := by decide +kernel
theorem dL_law_997 : decode cL_law 997 = .ok (.aload_n 0, 1) := by decide +kernel
theorem dL_law_998 : decode cL_law 998 = .ok (.iload_n 3, 1) := by decide +kernel
theorem dL_law_999 : decode cL_law 999 = .ok (.iconst 1, 1) := by decide +kernel
theorem dL_law_1000 : decode cL_law 1000 = .ok (.iadd, 1) := by decide +kernel
theorem dL_law_1001 : decode cL_law 1001 = .ok (.iaload, 1) := by decide +kernel
theorem dL_law_1002 : decode cL_law 1002 = .ok (.invokevirtual 121, 3) := by decide +kernel
theorem dL_law_1005 : decode cL_law 1005 = .ok (.if_icmp .eq 100, 3) := by decide +kernel
theorem dL_law_1008 : decode cL_law 1008 = .ok (.iconst 0, 1) := by decide +kernel
theorem dL_law_1009 : decode cL_law 1009 = .ok (.ireturn, 1) := by decide +kernel
theorem dL_law_1010 : decode cL_law 1010 = .ok (.aload_n 1, 1) := by decide +kernel
theorem dL_law_1011 : decode cL_law 1011 = .ok (.aload_n 0, 1) := by decide +kernel
theorem dL_law_1012 : decode cL_law 1012 = .ok (.iload_n 3, 1) := by decide +kernel
theorem dL_law_1013 : decode cL_law 1013 = .ok (.iconst 1, 1) := by decide +kernel
theorem dL_law_1014 : decode cL_law 1014 = .ok (.iadd, 1) := by decide +kernel
theorem dL_law_1015 : decode cL_law 1015 = .ok (.iaload, 1) := by decide +kernel
theorem dL_law_1016 : decode cL_law 1016 = .ok (.invokevirtual 122, 3) := by decide +kernel
theorem dL_law_1019 : decode cL_law 1019 = .ok (.aload_n 2, 1) := by decide +kernel
theorem dL_law_1020 : decode cL_law 1020 = .ok (.aload_n 0, 1) := by decide +kernel
theorem dL_law_1021 : decode cL_law 1021 = .ok (.iload_n 3, 1) := by decide +kernel
theorem dL_law_1022 : decode cL_law 1022 = .ok (.iconst 1, 1) := by decide +kernel
theorem dL_law_1023 : decode cL_law 1023 = .ok (.iadd, 1) := by decide +kernel
theorem dL_law_1024 : decode cL_law 1024 = .ok (.iaload, 1) := by decide +kernel
theorem dL_law_1025 : decode cL_law 1025 = .ok (.invokevirtual 126, 3) := by decide +kernel
theorem dL_law_1028 : decode cL_law 1028 = .ok (.if_icmp .eq 77, 3) := by decide +kernel
theorem dL_law_1031 : decode cL_law 1031 = .ok (.iconst 0, 1) := by decide +kernel
theorem dL_law_1032 : decode cL_law 1032 = .ok (.ireturn, 1) := by decide +kernel
theorem dL_law_1033 : decode cL_law 1033 = .ok (.aload_n 1, 1) := by decide +kernel
theorem dL_law_1034 : decode cL_law 1034 = .ok (.invokevirtual 127, 3) := by decide +kernel
theorem dL_law_1037 : decode cL_law 1037 = .ok (.aload_n 2, 1) := by decide +kernel
theorem dL_law_1038 : decode cL_law 1038 = .ok (.invokevirtual 130, 3) := by decide +kernel
theorem dL_law_1041 : decode cL_law 1041 = .ok (.if_icmp .eq 64, 3) := by decide +kernel
theorem dL_law_1044 : decode cL_law 1044 = .ok (.iconst 0, 1) := by decide +kernel
theorem dL_law_1045 : decode cL_law 1045 = .ok (.ireturn, 1) := by decide +kernel
theorem dL_law_1046 : decode cL_law 1046 = .ok (.aload_n 1, 1) := by decide +kernel
theorem dL_law_1047 : decode cL_law 1047 = .ok (.invokevirtual 131, 3) := by decide +kernel
theorem dL_law_1050 : decode cL_law 1050 = .ok (.aload_n 2, 1) := by decide +kernel
theorem dL_law_1051 : decode cL_law 1051 = .ok (.invokevirtual 135, 3) := by decide +kernel
theorem dL_law_1054 : decode cL_law 1054 = .ok (.if_icmp .eq 51, 3) := by decide +kernel
theorem dL_law_1057 : decode cL_law 1057 = .ok (.iconst 0, 1) := by decide +kernel
theorem dL_law_1058 : decode cL_law 1058 = .ok (.ireturn, 1) := by decide +kernel
theorem dL_law_1059 : decode cL_law 1059 = .ok (.aload_n 1, 1) := by decide +kernel
theorem dL_law_1060 : decode cL_law 1060 = .ok (.aload_n 0, 1) := by decide +kernel
theorem dL_law_1061 : decode cL_law 1061 = .ok (.iload_n 3, 1) := by decide +kernel
theorem dL_law_1062 : decode cL_law 1062 = .ok (.iconst 1, 1) := by decide +kernel
theorem dL_law_1063 : decode cL_law 1063 = .ok (.iadd, 1) := by decide +kernel
theorem dL_law_1064 : decode cL_law 1064 = .ok (.iaload, 1) := by decide +kernel
theorem dL_law_1065 : decode cL_law 1065 = .ok (.invokevirtual 136, 3) := by decide +kernel
theorem dL_law_1068 : decode cL_law 1068 = .ok (.aload_n 2, 1) := by decide +kernel
theorem dL_law_1069 : decode cL_law 1069 = .ok (.aload_n 0, 1) := by decide +kernel
theorem dL_law_1070 : decode cL_law 1070 = .ok (.iload_n 3, 1) := by decide +kernel
theorem dL_law_1071 : decode cL_law 1071 = .ok (.iconst 1, 1) := by decide +kernel
theorem dL_law_1072 : decode cL_law 1072 = .ok (.iadd, 1) := by decide +kernel
theorem dL_law_1073 : decode cL_law 1073 = .ok (.iaload, 1) := by decide +kernel
theorem dL_law_1074 : decode cL_law 1074 = .ok (.invokevirtual 139, 3) := by decide +kernel
theorem dL_law_1077 : decode cL_law 1077 = .ok (.if_icmp .eq 28, 3) := by decide +kernel
theorem dL_law_1080 : decode cL_law 1080 = .ok (.iconst 0, 1) := by decide +kernel
theorem dL_law_1081 : decode cL_law 1081 = .ok (.ireturn, 1) := by decide +kernel
theorem dL_law_1082 : decode cL_law 1082 = .ok (.aload_n 1, 1) := by decide +kernel
theorem dL_law_1083 : decode cL_law 1083 = .ok (.aload_n 0, 1) := by decide +kernel
theorem dL_law_1084 : decode cL_law 1084 = .ok (.iload_n 3, 1) := by decide +kernel
theorem dL_law_1085 : decode cL_law 1085 = .ok (.iconst 1, 1) := by decide +kernel
theorem dL_law_1086 : decode cL_law 1086 = .ok (.iadd, 1) := by decide +kernel
theorem dL_law_1087 : decode cL_law 1087 = .ok (.iaload, 1) := by decide +kernel
theorem dL_law_1088 : decode cL_law 1088 = .ok (.invokevirtual 140, 3) := by decide +kernel
theorem dL_law_1091 : decode cL_law 1091 = .ok (.aload_n 2, 1) := by decide +kernel
theorem dL_law_1092 : decode cL_law 1092 = .ok (.aload_n 0, 1) := by decide +kernel
theorem dL_law_1093 : decode cL_law 1093 = .ok (.iload_n 3, 1) := by decide +kernel
theorem dL_law_1094 : decode cL_law 1094 = .ok (.iconst 1, 1) := by decide +kernel
theorem dL_law_1095 : decode cL_law 1095 = .ok (.iadd, 1) := by decide +kernel
theorem dL_law_1096 : decode cL_law 1096 = .ok (.iaload, 1) := by decide +kernel
theorem dL_law_1097 : decode cL_law 1097 = .ok (.invokevirtual 143, 3) := by decide +kernel
theorem dL_law_1100 : decode cL_law 1100 = .ok (.if_icmp .eq 5, 3) := by decide +kernel
theorem dL_law_1103 : decode cL_law 1103 = .ok (.iconst 0, 1) := by decide +kernel
theorem dL_law_1104 : decode cL_law 1104 = .ok (.ireturn, 1) := by decide +kernel
theorem dL_law_1105 : decode cL_law 1105 = .ok (.iinc 3 6, 3) := by decide +kernel
theorem dL_law_1108 : decode cL_law 1108 = .ok (.goto (-1090), 3) := by decide +kernel
theorem dL_law_1111 : decode cL_law 1111 = .ok (.iconst 1, 1) := by decide +kernel
theorem dL_law_1112 : decode cL_law 1112 = .ok (.ireturn, 1) := by decide +kernel
end
