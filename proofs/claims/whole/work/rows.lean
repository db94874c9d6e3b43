section
-- ===== PART A: goes FIRST, ahead of the names: the tables' words, and 'selects' of the private methods out of them =====
/-- a private method of a class that the tables say can be made, by its rows of tables_1 -/
def lw_okq (q : MethodName × Nat) : Prop := (q.1.cls ≠ "java/lang/invoke/MethodHandle" ∧ q.1.cls ≠ "java/lang/invoke/VarHandle") ∧ Cond.instantiable q.1.cls q.2 ∈ tables_1 ∧ Cond.privateMethod q.1 ∈ tables_1 ∧ Cond.instanceMethod q.1 ∈ tables_1
theorem lw_p0 : lw_okq (⟨"DryPlaces$Teller", "face", "(LDryPlaces$World;II)V"⟩, 3) := ⟨⟨by decide +kernel, by decide +kernel⟩, List.mem_of_getElem? (i := 260) (by decide +kernel), List.mem_of_getElem? (i := 418) (by decide +kernel), List.mem_of_getElem? (i := 419) (by decide +kernel)⟩
theorem lw_p1 : lw_okq (⟨"DryPlaces$Teller", "ask", "(II)I"⟩, 3) := ⟨⟨by decide +kernel, by decide +kernel⟩, List.mem_of_getElem? (i := 260) (by decide +kernel), List.mem_of_getElem? (i := 451) (by decide +kernel), List.mem_of_getElem? (i := 452) (by decide +kernel)⟩
theorem lw_p2 : lw_okq (⟨"DryPlaces$Teller", "run", "(II)I"⟩, 3) := ⟨⟨by decide +kernel, by decide +kernel⟩, List.mem_of_getElem? (i := 260) (by decide +kernel), List.mem_of_getElem? (i := 455) (by decide +kernel), List.mem_of_getElem? (i := 456) (by decide +kernel)⟩
theorem lw_p3 : lw_okq (⟨"DryPlaces$Keeper", "purchase", "(II)V"⟩, 5) := ⟨⟨by decide +kernel, by decide +kernel⟩, List.mem_of_getElem? (i := 276) (by decide +kernel), List.mem_of_getElem? (i := 495) (by decide +kernel), List.mem_of_getElem? (i := 496) (by decide +kernel)⟩
theorem lw_p4 : lw_okq (⟨"DryPlaces$Keeper", "note", "(III)V"⟩, 5) := ⟨⟨by decide +kernel, by decide +kernel⟩, List.mem_of_getElem? (i := 276) (by decide +kernel), List.mem_of_getElem? (i := 499) (by decide +kernel), List.mem_of_getElem? (i := 500) (by decide +kernel)⟩
theorem lw_p5 : lw_okq (⟨"DryPlaces$Keeper", "partWith", "(II)V"⟩, 5) := ⟨⟨by decide +kernel, by decide +kernel⟩, List.mem_of_getElem? (i := 276) (by decide +kernel), List.mem_of_getElem? (i := 503) (by decide +kernel), List.mem_of_getElem? (i := 504) (by decide +kernel)⟩
theorem lw_p6 : lw_okq (⟨"DryPlaces$Keeper", "keepDiary", "()V"⟩, 5) := ⟨⟨by decide +kernel, by decide +kernel⟩, List.mem_of_getElem? (i := 276) (by decide +kernel), List.mem_of_getElem? (i := 523) (by decide +kernel), List.mem_of_getElem? (i := 524) (by decide +kernel)⟩
theorem lw_p7 : lw_okq (⟨"DryPlaces$Keeper", "creepIn", "(I)I"⟩, 5) := ⟨⟨by decide +kernel, by decide +kernel⟩, List.mem_of_getElem? (i := 276) (by decide +kernel), List.mem_of_getElem? (i := 538) (by decide +kernel), List.mem_of_getElem? (i := 539) (by decide +kernel)⟩
theorem lw_p8 : lw_okq (⟨"DryPlaces$Keeper", "isHit", "(I)Z"⟩, 5) := ⟨⟨by decide +kernel, by decide +kernel⟩, List.mem_of_getElem? (i := 276) (by decide +kernel), List.mem_of_getElem? (i := 555) (by decide +kernel), List.mem_of_getElem? (i := 556) (by decide +kernel)⟩
theorem lw_p9 : lw_okq (⟨"DryPlaces$Keeper", "receive", "(I)V"⟩, 5) := ⟨⟨by decide +kernel, by decide +kernel⟩, List.mem_of_getElem? (i := 276) (by decide +kernel), List.mem_of_getElem? (i := 566) (by decide +kernel), List.mem_of_getElem? (i := 567) (by decide +kernel)⟩
theorem lw_p10 : lw_okq (⟨"DryPlaces$Tape", "skipBlanks", "()V"⟩, 6) := ⟨⟨by decide +kernel, by decide +kernel⟩, List.mem_of_getElem? (i := 197) (by decide +kernel), List.mem_of_getElem? (i := 611) (by decide +kernel), List.mem_of_getElem? (i := 612) (by decide +kernel)⟩
theorem lw_p11 : lw_okq (⟨"DryPlaces$Tape", "isLetter", "(I)Z"⟩, 6) := ⟨⟨by decide +kernel, by decide +kernel⟩, List.mem_of_getElem? (i := 197) (by decide +kernel), List.mem_of_getElem? (i := 615) (by decide +kernel), List.mem_of_getElem? (i := 616) (by decide +kernel)⟩
theorem lw_p12 : lw_okq (⟨"DryPlaces$Tape", "readWord", "(I)V"⟩, 6) := ⟨⟨by decide +kernel, by decide +kernel⟩, List.mem_of_getElem? (i := 197) (by decide +kernel), List.mem_of_getElem? (i := 619) (by decide +kernel), List.mem_of_getElem? (i := 620) (by decide +kernel)⟩
theorem lw_p13 : lw_okq (⟨"DryPlaces$Tape", "isWordAt", "(III)Z"⟩, 6) := ⟨⟨by decide +kernel, by decide +kernel⟩, List.mem_of_getElem? (i := 197) (by decide +kernel), List.mem_of_getElem? (i := 672) (by decide +kernel), List.mem_of_getElem? (i := 673) (by decide +kernel)⟩
theorem lw_p14 : lw_okq (⟨"DryPlaces$Tape", "isDigit", "(I)Z"⟩, 6) := ⟨⟨by decide +kernel, by decide +kernel⟩, List.mem_of_getElem? (i := 197) (by decide +kernel), List.mem_of_getElem? (i := 676) (by decide +kernel), List.mem_of_getElem? (i := 677) (by decide +kernel)⟩
theorem lw_p15 : lw_okq (⟨"DryPlaces$Tape", "readNumber", "(I)V"⟩, 6) := ⟨⟨by decide +kernel, by decide +kernel⟩, List.mem_of_getElem? (i := 197) (by decide +kernel), List.mem_of_getElem? (i := 680) (by decide +kernel), List.mem_of_getElem? (i := 681) (by decide +kernel)⟩
def lw_privs_1 : List (MethodName × Nat) := [(⟨"DryPlaces$Teller", "face", "(LDryPlaces$World;II)V"⟩, 3), (⟨"DryPlaces$Teller", "ask", "(II)I"⟩, 3), (⟨"DryPlaces$Teller", "run", "(II)I"⟩, 3), (⟨"DryPlaces$Keeper", "purchase", "(II)V"⟩, 5), (⟨"DryPlaces$Keeper", "note", "(III)V"⟩, 5), (⟨"DryPlaces$Keeper", "partWith", "(II)V"⟩, 5), (⟨"DryPlaces$Keeper", "keepDiary", "()V"⟩, 5), (⟨"DryPlaces$Keeper", "creepIn", "(I)I"⟩, 5), (⟨"DryPlaces$Keeper", "isHit", "(I)Z"⟩, 5), (⟨"DryPlaces$Keeper", "receive", "(I)V"⟩, 5), (⟨"DryPlaces$Tape", "skipBlanks", "()V"⟩, 6), (⟨"DryPlaces$Tape", "isLetter", "(I)Z"⟩, 6), (⟨"DryPlaces$Tape", "readWord", "(I)V"⟩, 6), (⟨"DryPlaces$Tape", "isWordAt", "(III)Z"⟩, 6), (⟨"DryPlaces$Tape", "isDigit", "(I)Z"⟩, 6), (⟨"DryPlaces$Tape", "readNumber", "(I)V"⟩, 6)]
theorem lw_r1 : ∀ q ∈ lw_privs_1, lw_okq q := List.forall_mem_cons.mpr ⟨lw_p0, List.forall_mem_cons.mpr ⟨lw_p1, List.forall_mem_cons.mpr ⟨lw_p2, List.forall_mem_cons.mpr ⟨lw_p3, List.forall_mem_cons.mpr ⟨lw_p4, List.forall_mem_cons.mpr ⟨lw_p5, List.forall_mem_cons.mpr ⟨lw_p6, List.forall_mem_cons.mpr ⟨lw_p7, List.forall_mem_cons.mpr ⟨lw_p8, List.forall_mem_cons.mpr ⟨lw_p9, List.forall_mem_cons.mpr ⟨lw_p10, List.forall_mem_cons.mpr ⟨lw_p11, List.forall_mem_cons.mpr ⟨lw_p12, List.forall_mem_cons.mpr ⟨lw_p13, List.forall_mem_cons.mpr ⟨lw_p14, List.forall_mem_cons.mpr ⟨lw_p15, fun _ h => absurd h List.not_mem_nil⟩⟩⟩⟩⟩⟩⟩⟩⟩⟩⟩⟩⟩⟩⟩⟩
theorem lw_p16 : lw_okq (⟨"DryPlaces$Parser", "canBegin", "(I)Z"⟩, 7) := ⟨⟨by decide +kernel, by decide +kernel⟩, List.mem_of_getElem? (i := 227) (by decide +kernel), List.mem_of_getElem? (i := 740) (by decide +kernel), List.mem_of_getElem? (i := 741) (by decide +kernel)⟩
theorem lw_p17 : lw_okq (⟨"DryPlaces$Parser", "refuse", "(I)Z"⟩, 7) := ⟨⟨by decide +kernel, by decide +kernel⟩, List.mem_of_getElem? (i := 227) (by decide +kernel), List.mem_of_getElem? (i := 744) (by decide +kernel), List.mem_of_getElem? (i := 745) (by decide +kernel)⟩
theorem lw_p18 : lw_okq (⟨"DryPlaces$Parser", "readLaw", "()Z"⟩, 7) := ⟨⟨by decide +kernel, by decide +kernel⟩, List.mem_of_getElem? (i := 227) (by decide +kernel), List.mem_of_getElem? (i := 749) (by decide +kernel), List.mem_of_getElem? (i := 750) (by decide +kernel)⟩
theorem lw_p19 : lw_okq (⟨"DryPlaces$Parser", "step", "()V"⟩, 7) := ⟨⟨by decide +kernel, by decide +kernel⟩, List.mem_of_getElem? (i := 227) (by decide +kernel), List.mem_of_getElem? (i := 757) (by decide +kernel), List.mem_of_getElem? (i := 758) (by decide +kernel)⟩
theorem lw_p20 : lw_okq (⟨"DryPlaces$Parser", "readSum", "()Z"⟩, 7) := ⟨⟨by decide +kernel, by decide +kernel⟩, List.mem_of_getElem? (i := 227) (by decide +kernel), List.mem_of_getElem? (i := 761) (by decide +kernel), List.mem_of_getElem? (i := 762) (by decide +kernel)⟩
theorem lw_p21 : lw_okq (⟨"DryPlaces$Parser", "readUnit", "()Z"⟩, 7) := ⟨⟨by decide +kernel, by decide +kernel⟩, List.mem_of_getElem? (i := 227) (by decide +kernel), List.mem_of_getElem? (i := 765) (by decide +kernel), List.mem_of_getElem? (i := 766) (by decide +kernel)⟩
theorem lw_p22 : lw_okq (⟨"DryPlaces$Parser", "isReckoning", "()Z"⟩, 7) := ⟨⟨by decide +kernel, by decide +kernel⟩, List.mem_of_getElem? (i := 227) (by decide +kernel), List.mem_of_getElem? (i := 773) (by decide +kernel), List.mem_of_getElem? (i := 774) (by decide +kernel)⟩
theorem lw_p23 : lw_okq (⟨"DryPlaces$Parser", "takeNumber", "(III)I"⟩, 7) := ⟨⟨by decide +kernel, by decide +kernel⟩, List.mem_of_getElem? (i := 227) (by decide +kernel), List.mem_of_getElem? (i := 777) (by decide +kernel), List.mem_of_getElem? (i := 778) (by decide +kernel)⟩
theorem lw_p24 : lw_okq (⟨"DryPlaces$Parser", "addWaiting", "(I)V"⟩, 7) := ⟨⟨by decide +kernel, by decide +kernel⟩, List.mem_of_getElem? (i := 227) (by decide +kernel), List.mem_of_getElem? (i := 782) (by decide +kernel), List.mem_of_getElem? (i := 783) (by decide +kernel)⟩
theorem lw_p25 : lw_okq (⟨"DryPlaces$Parser", "readCondition", "(I)Z"⟩, 7) := ⟨⟨by decide +kernel, by decide +kernel⟩, List.mem_of_getElem? (i := 227) (by decide +kernel), List.mem_of_getElem? (i := 790) (by decide +kernel), List.mem_of_getElem? (i := 791) (by decide +kernel)⟩
theorem lw_p26 : lw_okq (⟨"DryPlaces$Parser", "readOne", "(I)Z"⟩, 7) := ⟨⟨by decide +kernel, by decide +kernel⟩, List.mem_of_getElem? (i := 227) (by decide +kernel), List.mem_of_getElem? (i := 794) (by decide +kernel), List.mem_of_getElem? (i := 795) (by decide +kernel)⟩
theorem lw_p27 : lw_okq (⟨"DryPlaces$Parser", "take", "(I)Z"⟩, 7) := ⟨⟨by decide +kernel, by decide +kernel⟩, List.mem_of_getElem? (i := 227) (by decide +kernel), List.mem_of_getElem? (i := 798) (by decide +kernel), List.mem_of_getElem? (i := 799) (by decide +kernel)⟩
theorem lw_p28 : lw_okq (⟨"DryPlaces$Parser", "comparison", "()I"⟩, 7) := ⟨⟨by decide +kernel, by decide +kernel⟩, List.mem_of_getElem? (i := 227) (by decide +kernel), List.mem_of_getElem? (i := 802) (by decide +kernel), List.mem_of_getElem? (i := 803) (by decide +kernel)⟩
theorem lw_p29 : lw_okq (⟨"DryPlaces$Parser", "readPassage", "()Z"⟩, 7) := ⟨⟨by decide +kernel, by decide +kernel⟩, List.mem_of_getElem? (i := 227) (by decide +kernel), List.mem_of_getElem? (i := 810) (by decide +kernel), List.mem_of_getElem? (i := 811) (by decide +kernel)⟩
theorem lw_p30 : lw_okq (⟨"DryPlaces$Parser", "takeRoom", "(I)I"⟩, 7) := ⟨⟨by decide +kernel, by decide +kernel⟩, List.mem_of_getElem? (i := 227) (by decide +kernel), List.mem_of_getElem? (i := 814) (by decide +kernel), List.mem_of_getElem? (i := 815) (by decide +kernel)⟩
theorem lw_p31 : lw_okq (⟨"DryPlaces$Parser", "readEntry", "()Z"⟩, 7) := ⟨⟨by decide +kernel, by decide +kernel⟩, List.mem_of_getElem? (i := 227) (by decide +kernel), List.mem_of_getElem? (i := 822) (by decide +kernel), List.mem_of_getElem? (i := 823) (by decide +kernel)⟩
def lw_privs_2 : List (MethodName × Nat) := [(⟨"DryPlaces$Parser", "canBegin", "(I)Z"⟩, 7), (⟨"DryPlaces$Parser", "refuse", "(I)Z"⟩, 7), (⟨"DryPlaces$Parser", "readLaw", "()Z"⟩, 7), (⟨"DryPlaces$Parser", "step", "()V"⟩, 7), (⟨"DryPlaces$Parser", "readSum", "()Z"⟩, 7), (⟨"DryPlaces$Parser", "readUnit", "()Z"⟩, 7), (⟨"DryPlaces$Parser", "isReckoning", "()Z"⟩, 7), (⟨"DryPlaces$Parser", "takeNumber", "(III)I"⟩, 7), (⟨"DryPlaces$Parser", "addWaiting", "(I)V"⟩, 7), (⟨"DryPlaces$Parser", "readCondition", "(I)Z"⟩, 7), (⟨"DryPlaces$Parser", "readOne", "(I)Z"⟩, 7), (⟨"DryPlaces$Parser", "take", "(I)Z"⟩, 7), (⟨"DryPlaces$Parser", "comparison", "()I"⟩, 7), (⟨"DryPlaces$Parser", "readPassage", "()Z"⟩, 7), (⟨"DryPlaces$Parser", "takeRoom", "(I)I"⟩, 7), (⟨"DryPlaces$Parser", "readEntry", "()Z"⟩, 7)]
theorem lw_r2 : ∀ q ∈ lw_privs_2, lw_okq q := List.forall_mem_cons.mpr ⟨lw_p16, List.forall_mem_cons.mpr ⟨lw_p17, List.forall_mem_cons.mpr ⟨lw_p18, List.forall_mem_cons.mpr ⟨lw_p19, List.forall_mem_cons.mpr ⟨lw_p20, List.forall_mem_cons.mpr ⟨lw_p21, List.forall_mem_cons.mpr ⟨lw_p22, List.forall_mem_cons.mpr ⟨lw_p23, List.forall_mem_cons.mpr ⟨lw_p24, List.forall_mem_cons.mpr ⟨lw_p25, List.forall_mem_cons.mpr ⟨lw_p26, List.forall_mem_cons.mpr ⟨lw_p27, List.forall_mem_cons.mpr ⟨lw_p28, List.forall_mem_cons.mpr ⟨lw_p29, List.forall_mem_cons.mpr ⟨lw_p30, List.forall_mem_cons.mpr ⟨lw_p31, fun _ h => absurd h List.not_mem_nil⟩⟩⟩⟩⟩⟩⟩⟩⟩⟩⟩⟩⟩⟩⟩⟩
theorem lw_p32 : lw_okq (⟨"DryPlaces$Parser", "actOfWord", "()I"⟩, 7) := ⟨⟨by decide +kernel, by decide +kernel⟩, List.mem_of_getElem? (i := 227) (by decide +kernel), List.mem_of_getElem? (i := 826) (by decide +kernel), List.mem_of_getElem? (i := 827) (by decide +kernel)⟩
theorem lw_p33 : lw_okq (⟨"DryPlaces$Parser", "takePlace", "(I)I"⟩, 7) := ⟨⟨by decide +kernel, by decide +kernel⟩, List.mem_of_getElem? (i := 227) (by decide +kernel), List.mem_of_getElem? (i := 830) (by decide +kernel), List.mem_of_getElem? (i := 831) (by decide +kernel)⟩
theorem lw_p34 : lw_okq (⟨"DryPlaces$Parser", "takeDetail", "(I)I"⟩, 7) := ⟨⟨by decide +kernel, by decide +kernel⟩, List.mem_of_getElem? (i := 227) (by decide +kernel), List.mem_of_getElem? (i := 834) (by decide +kernel), List.mem_of_getElem? (i := 835) (by decide +kernel)⟩
theorem lw_p35 : lw_okq (⟨"DryPlaces$Parser", "readVoucher", "()Z"⟩, 7) := ⟨⟨by decide +kernel, by decide +kernel⟩, List.mem_of_getElem? (i := 227) (by decide +kernel), List.mem_of_getElem? (i := 842) (by decide +kernel), List.mem_of_getElem? (i := 843) (by decide +kernel)⟩
theorem lw_p36 : lw_okq (⟨"DryPlaces", "priceOf", "(I)I"⟩, 16) := ⟨⟨by decide +kernel, by decide +kernel⟩, List.mem_of_getElem? (i := 23) (by decide +kernel), List.mem_of_getElem? (i := 1016) (by decide +kernel), List.mem_of_getElem? (i := 1017) (by decide +kernel)⟩
theorem lw_p37 : lw_okq (⟨"DryPlaces$Tour", "measure", "([I)V"⟩, 2) := ⟨⟨by decide +kernel, by decide +kernel⟩, List.mem_of_getElem? (i := 298) (by decide +kernel), List.mem_of_getElem? (i := 1029) (by decide +kernel), List.mem_of_getElem? (i := 1030) (by decide +kernel)⟩
theorem lw_p38 : lw_okq (⟨"DryPlaces$Tour", "goOn", "(II)V"⟩, 2) := ⟨⟨by decide +kernel, by decide +kernel⟩, List.mem_of_getElem? (i := 298) (by decide +kernel), List.mem_of_getElem? (i := 1036) (by decide +kernel), List.mem_of_getElem? (i := 1037) (by decide +kernel)⟩
theorem lw_p39 : lw_okq (⟨"DryPlaces", "vouchersOfAll", "(I)I"⟩, 16) := ⟨⟨by decide +kernel, by decide +kernel⟩, List.mem_of_getElem? (i := 23) (by decide +kernel), List.mem_of_getElem? (i := 1049) (by decide +kernel), List.mem_of_getElem? (i := 1050) (by decide +kernel)⟩
theorem lw_p40 : lw_okq (⟨"DryPlaces", "heapOf", "(I)I"⟩, 16) := ⟨⟨by decide +kernel, by decide +kernel⟩, List.mem_of_getElem? (i := 23) (by decide +kernel), List.mem_of_getElem? (i := 1077) (by decide +kernel), List.mem_of_getElem? (i := 1078) (by decide +kernel)⟩
theorem lw_p41 : lw_okq (⟨"DryPlacesModel", "isIn", "(III)Z"⟩, 55) := ⟨⟨by decide +kernel, by decide +kernel⟩, List.mem_of_getElem? (i := 1106) (by decide +kernel), List.mem_of_getElem? (i := 1290) (by decide +kernel), List.mem_of_getElem? (i := 1291) (by decide +kernel)⟩
theorem lw_p42 : lw_okq (⟨"DryPlacesModel", "rowAt", "(II)I"⟩, 55) := ⟨⟨by decide +kernel, by decide +kernel⟩, List.mem_of_getElem? (i := 1106) (by decide +kernel), List.mem_of_getElem? (i := 1294) (by decide +kernel), List.mem_of_getElem? (i := 1295) (by decide +kernel)⟩
theorem lw_p43 : lw_okq (⟨"DryPlacesModel", "isPlace", "(I)Z"⟩, 55) := ⟨⟨by decide +kernel, by decide +kernel⟩, List.mem_of_getElem? (i := 1106) (by decide +kernel), List.mem_of_getElem? (i := 1302) (by decide +kernel), List.mem_of_getElem? (i := 1303) (by decide +kernel)⟩
theorem lw_p44 : lw_okq (⟨"DryPlacesModel", "types", "(I)V"⟩, 55) := ⟨⟨by decide +kernel, by decide +kernel⟩, List.mem_of_getElem? (i := 1106) (by decide +kernel), List.mem_of_getElem? (i := 1315) (by decide +kernel), List.mem_of_getElem? (i := 1316) (by decide +kernel)⟩
theorem lw_p45 : lw_okq (⟨"DryPlacesModel", "readsText", "(I)I"⟩, 55) := ⟨⟨by decide +kernel, by decide +kernel⟩, List.mem_of_getElem? (i := 1106) (by decide +kernel), List.mem_of_getElem? (i := 1327) (by decide +kernel), List.mem_of_getElem? (i := 1328) (by decide +kernel)⟩
theorem lw_p46 : lw_okq (⟨"DryPlacesModel", "reads", "()V"⟩, 55) := ⟨⟨by decide +kernel, by decide +kernel⟩, List.mem_of_getElem? (i := 1106) (by decide +kernel), List.mem_of_getElem? (i := 1331) (by decide +kernel), List.mem_of_getElem? (i := 1332) (by decide +kernel)⟩
theorem lw_p47 : lw_okq (⟨"DryPlacesModel", "raw", "(I)I"⟩, 55) := ⟨⟨by decide +kernel, by decide +kernel⟩, List.mem_of_getElem? (i := 1106) (by decide +kernel), List.mem_of_getElem? (i := 1335) (by decide +kernel), List.mem_of_getElem? (i := 1336) (by decide +kernel)⟩
def lw_privs_3 : List (MethodName × Nat) := [(⟨"DryPlaces$Parser", "actOfWord", "()I"⟩, 7), (⟨"DryPlaces$Parser", "takePlace", "(I)I"⟩, 7), (⟨"DryPlaces$Parser", "takeDetail", "(I)I"⟩, 7), (⟨"DryPlaces$Parser", "readVoucher", "()Z"⟩, 7), (⟨"DryPlaces", "priceOf", "(I)I"⟩, 16), (⟨"DryPlaces$Tour", "measure", "([I)V"⟩, 2), (⟨"DryPlaces$Tour", "goOn", "(II)V"⟩, 2), (⟨"DryPlaces", "vouchersOfAll", "(I)I"⟩, 16), (⟨"DryPlaces", "heapOf", "(I)I"⟩, 16), (⟨"DryPlacesModel", "isIn", "(III)Z"⟩, 55), (⟨"DryPlacesModel", "rowAt", "(II)I"⟩, 55), (⟨"DryPlacesModel", "isPlace", "(I)Z"⟩, 55), (⟨"DryPlacesModel", "types", "(I)V"⟩, 55), (⟨"DryPlacesModel", "readsText", "(I)I"⟩, 55), (⟨"DryPlacesModel", "reads", "()V"⟩, 55), (⟨"DryPlacesModel", "raw", "(I)I"⟩, 55)]
theorem lw_r3 : ∀ q ∈ lw_privs_3, lw_okq q := List.forall_mem_cons.mpr ⟨lw_p32, List.forall_mem_cons.mpr ⟨lw_p33, List.forall_mem_cons.mpr ⟨lw_p34, List.forall_mem_cons.mpr ⟨lw_p35, List.forall_mem_cons.mpr ⟨lw_p36, List.forall_mem_cons.mpr ⟨lw_p37, List.forall_mem_cons.mpr ⟨lw_p38, List.forall_mem_cons.mpr ⟨lw_p39, List.forall_mem_cons.mpr ⟨lw_p40, List.forall_mem_cons.mpr ⟨lw_p41, List.forall_mem_cons.mpr ⟨lw_p42, List.forall_mem_cons.mpr ⟨lw_p43, List.forall_mem_cons.mpr ⟨lw_p44, List.forall_mem_cons.mpr ⟨lw_p45, List.forall_mem_cons.mpr ⟨lw_p46, List.forall_mem_cons.mpr ⟨lw_p47, fun _ h => absurd h List.not_mem_nil⟩⟩⟩⟩⟩⟩⟩⟩⟩⟩⟩⟩⟩⟩⟩⟩
theorem lw_p48 : lw_okq (⟨"DryPlacesModel", "isLetter", "(I)Z"⟩, 55) := ⟨⟨by decide +kernel, by decide +kernel⟩, List.mem_of_getElem? (i := 1106) (by decide +kernel), List.mem_of_getElem? (i := 1339) (by decide +kernel), List.mem_of_getElem? (i := 1340) (by decide +kernel)⟩
theorem lw_p49 : lw_okq (⟨"DryPlacesModel", "wordAt", "(II)I"⟩, 55) := ⟨⟨by decide +kernel, by decide +kernel⟩, List.mem_of_getElem? (i := 1106) (by decide +kernel), List.mem_of_getElem? (i := 1343) (by decide +kernel), List.mem_of_getElem? (i := 1344) (by decide +kernel)⟩
theorem lw_p50 : lw_okq (⟨"DryPlacesModel", "isDigit", "(I)Z"⟩, 55) := ⟨⟨by decide +kernel, by decide +kernel⟩, List.mem_of_getElem? (i := 1106) (by decide +kernel), List.mem_of_getElem? (i := 1347) (by decide +kernel), List.mem_of_getElem? (i := 1348) (by decide +kernel)⟩
theorem lw_p51 : lw_okq (⟨"DryPlacesModel", "isMarkSign", "(I)Z"⟩, 55) := ⟨⟨by decide +kernel, by decide +kernel⟩, List.mem_of_getElem? (i := 1106) (by decide +kernel), List.mem_of_getElem? (i := 1351) (by decide +kernel), List.mem_of_getElem? (i := 1352) (by decide +kernel)⟩
theorem lw_p52 : lw_okq (⟨"DryPlacesModel", "readPassages", "()I"⟩, 55) := ⟨⟨by decide +kernel, by decide +kernel⟩, List.mem_of_getElem? (i := 1106) (by decide +kernel), List.mem_of_getElem? (i := 1355) (by decide +kernel), List.mem_of_getElem? (i := 1356) (by decide +kernel)⟩
theorem lw_p53 : lw_okq (⟨"DryPlacesModel", "isWord", "(I)Z"⟩, 55) := ⟨⟨by decide +kernel, by decide +kernel⟩, List.mem_of_getElem? (i := 1106) (by decide +kernel), List.mem_of_getElem? (i := 1359) (by decide +kernel), List.mem_of_getElem? (i := 1360) (by decide +kernel)⟩
theorem lw_p54 : lw_okq (⟨"DryPlacesModel", "errs", "(I)I"⟩, 55) := ⟨⟨by decide +kernel, by decide +kernel⟩, List.mem_of_getElem? (i := 1106) (by decide +kernel), List.mem_of_getElem? (i := 1363) (by decide +kernel), List.mem_of_getElem? (i := 1364) (by decide +kernel)⟩
theorem lw_p55 : lw_okq (⟨"DryPlacesModel", "readPassage", "()I"⟩, 55) := ⟨⟨by decide +kernel, by decide +kernel⟩, List.mem_of_getElem? (i := 1106) (by decide +kernel), List.mem_of_getElem? (i := 1367) (by decide +kernel), List.mem_of_getElem? (i := 1368) (by decide +kernel)⟩
theorem lw_p56 : lw_okq (⟨"DryPlacesModel", "readTold", "(III)I"⟩, 55) := ⟨⟨by decide +kernel, by decide +kernel⟩, List.mem_of_getElem? (i := 1106) (by decide +kernel), List.mem_of_getElem? (i := 1371) (by decide +kernel), List.mem_of_getElem? (i := 1372) (by decide +kernel)⟩
theorem lw_p57 : lw_okq (⟨"DryPlacesModel", "readNumber", "(II)I"⟩, 55) := ⟨⟨by decide +kernel, by decide +kernel⟩, List.mem_of_getElem? (i := 1106) (by decide +kernel), List.mem_of_getElem? (i := 1375) (by decide +kernel), List.mem_of_getElem? (i := 1376) (by decide +kernel)⟩
theorem lw_p58 : lw_okq (⟨"DryPlacesModel", "readOther", "(III)I"⟩, 55) := ⟨⟨by decide +kernel, by decide +kernel⟩, List.mem_of_getElem? (i := 1106) (by decide +kernel), List.mem_of_getElem? (i := 1379) (by decide +kernel), List.mem_of_getElem? (i := 1380) (by decide +kernel)⟩
theorem lw_p59 : lw_okq (⟨"DryPlacesModel", "takesPassage", "(II)V"⟩, 55) := ⟨⟨by decide +kernel, by decide +kernel⟩, List.mem_of_getElem? (i := 1106) (by decide +kernel), List.mem_of_getElem? (i := 1383) (by decide +kernel), List.mem_of_getElem? (i := 1384) (by decide +kernel)⟩
theorem lw_p60 : lw_okq (⟨"DryPlacesModel", "readMark", "(I)I"⟩, 55) := ⟨⟨by decide +kernel, by decide +kernel⟩, List.mem_of_getElem? (i := 1106) (by decide +kernel), List.mem_of_getElem? (i := 1387) (by decide +kernel), List.mem_of_getElem? (i := 1388) (by decide +kernel)⟩
theorem lw_p61 : lw_okq (⟨"DryPlacesModel", "isSign", "(I)Z"⟩, 55) := ⟨⟨by decide +kernel, by decide +kernel⟩, List.mem_of_getElem? (i := 1106) (by decide +kernel), List.mem_of_getElem? (i := 1391) (by decide +kernel), List.mem_of_getElem? (i := 1392) (by decide +kernel)⟩
theorem lw_p62 : lw_okq (⟨"DryPlacesModel", "readDiary", "()I"⟩, 55) := ⟨⟨by decide +kernel, by decide +kernel⟩, List.mem_of_getElem? (i := 1106) (by decide +kernel), List.mem_of_getElem? (i := 1395) (by decide +kernel), List.mem_of_getElem? (i := 1396) (by decide +kernel)⟩
theorem lw_p63 : lw_okq (⟨"DryPlacesModel", "readDeed", "(I)I"⟩, 55) := ⟨⟨by decide +kernel, by decide +kernel⟩, List.mem_of_getElem? (i := 1106) (by decide +kernel), List.mem_of_getElem? (i := 1399) (by decide +kernel), List.mem_of_getElem? (i := 1400) (by decide +kernel)⟩
def lw_privs_4 : List (MethodName × Nat) := [(⟨"DryPlacesModel", "isLetter", "(I)Z"⟩, 55), (⟨"DryPlacesModel", "wordAt", "(II)I"⟩, 55), (⟨"DryPlacesModel", "isDigit", "(I)Z"⟩, 55), (⟨"DryPlacesModel", "isMarkSign", "(I)Z"⟩, 55), (⟨"DryPlacesModel", "readPassages", "()I"⟩, 55), (⟨"DryPlacesModel", "isWord", "(I)Z"⟩, 55), (⟨"DryPlacesModel", "errs", "(I)I"⟩, 55), (⟨"DryPlacesModel", "readPassage", "()I"⟩, 55), (⟨"DryPlacesModel", "readTold", "(III)I"⟩, 55), (⟨"DryPlacesModel", "readNumber", "(II)I"⟩, 55), (⟨"DryPlacesModel", "readOther", "(III)I"⟩, 55), (⟨"DryPlacesModel", "takesPassage", "(II)V"⟩, 55), (⟨"DryPlacesModel", "readMark", "(I)I"⟩, 55), (⟨"DryPlacesModel", "isSign", "(I)Z"⟩, 55), (⟨"DryPlacesModel", "readDiary", "()I"⟩, 55), (⟨"DryPlacesModel", "readDeed", "(I)I"⟩, 55)]
theorem lw_r4 : ∀ q ∈ lw_privs_4, lw_okq q := List.forall_mem_cons.mpr ⟨lw_p48, List.forall_mem_cons.mpr ⟨lw_p49, List.forall_mem_cons.mpr ⟨lw_p50, List.forall_mem_cons.mpr ⟨lw_p51, List.forall_mem_cons.mpr ⟨lw_p52, List.forall_mem_cons.mpr ⟨lw_p53, List.forall_mem_cons.mpr ⟨lw_p54, List.forall_mem_cons.mpr ⟨lw_p55, List.forall_mem_cons.mpr ⟨lw_p56, List.forall_mem_cons.mpr ⟨lw_p57, List.forall_mem_cons.mpr ⟨lw_p58, List.forall_mem_cons.mpr ⟨lw_p59, List.forall_mem_cons.mpr ⟨lw_p60, List.forall_mem_cons.mpr ⟨lw_p61, List.forall_mem_cons.mpr ⟨lw_p62, List.forall_mem_cons.mpr ⟨lw_p63, fun _ h => absurd h List.not_mem_nil⟩⟩⟩⟩⟩⟩⟩⟩⟩⟩⟩⟩⟩⟩⟩⟩
theorem lw_p64 : lw_okq (⟨"DryPlacesModel", "kindOfDeed", "()I"⟩, 55) := ⟨⟨by decide +kernel, by decide +kernel⟩, List.mem_of_getElem? (i := 1106) (by decide +kernel), List.mem_of_getElem? (i := 1403) (by decide +kernel), List.mem_of_getElem? (i := 1404) (by decide +kernel)⟩
theorem lw_p65 : lw_okq (⟨"DryPlacesModel", "readDeedMore", "(I)I"⟩, 55) := ⟨⟨by decide +kernel, by decide +kernel⟩, List.mem_of_getElem? (i := 1106) (by decide +kernel), List.mem_of_getElem? (i := 1407) (by decide +kernel), List.mem_of_getElem? (i := 1408) (by decide +kernel)⟩
theorem lw_p66 : lw_okq (⟨"DryPlacesModel", "readVouches", "()I"⟩, 55) := ⟨⟨by decide +kernel, by decide +kernel⟩, List.mem_of_getElem? (i := 1106) (by decide +kernel), List.mem_of_getElem? (i := 1411) (by decide +kernel), List.mem_of_getElem? (i := 1412) (by decide +kernel)⟩
theorem lw_p67 : lw_okq (⟨"DryPlacesModel", "readVouch", "()I"⟩, 55) := ⟨⟨by decide +kernel, by decide +kernel⟩, List.mem_of_getElem? (i := 1106) (by decide +kernel), List.mem_of_getElem? (i := 1415) (by decide +kernel), List.mem_of_getElem? (i := 1416) (by decide +kernel)⟩
theorem lw_p68 : lw_okq (⟨"DryPlacesModel", "readLaw", "()I"⟩, 55) := ⟨⟨by decide +kernel, by decide +kernel⟩, List.mem_of_getElem? (i := 1106) (by decide +kernel), List.mem_of_getElem? (i := 1419) (by decide +kernel), List.mem_of_getElem? (i := 1420) (by decide +kernel)⟩
theorem lw_p69 : lw_okq (⟨"DryPlacesModel", "isLineWord", "()Z"⟩, 55) := ⟨⟨by decide +kernel, by decide +kernel⟩, List.mem_of_getElem? (i := 1106) (by decide +kernel), List.mem_of_getElem? (i := 1423) (by decide +kernel), List.mem_of_getElem? (i := 1424) (by decide +kernel)⟩
theorem lw_p70 : lw_okq (⟨"DryPlacesModel", "readSum", "()I"⟩, 55) := ⟨⟨by decide +kernel, by decide +kernel⟩, List.mem_of_getElem? (i := 1106) (by decide +kernel), List.mem_of_getElem? (i := 1427) (by decide +kernel), List.mem_of_getElem? (i := 1428) (by decide +kernel)⟩
theorem lw_p71 : lw_okq (⟨"DryPlacesModel", "readProduct", "()I"⟩, 55) := ⟨⟨by decide +kernel, by decide +kernel⟩, List.mem_of_getElem? (i := 1106) (by decide +kernel), List.mem_of_getElem? (i := 1431) (by decide +kernel), List.mem_of_getElem? (i := 1432) (by decide +kernel)⟩
theorem lw_p72 : lw_okq (⟨"DryPlacesModel", "readUnit", "()I"⟩, 55) := ⟨⟨by decide +kernel, by decide +kernel⟩, List.mem_of_getElem? (i := 1106) (by decide +kernel), List.mem_of_getElem? (i := 1435) (by decide +kernel), List.mem_of_getElem? (i := 1436) (by decide +kernel)⟩
theorem lw_p73 : lw_okq (⟨"DryPlacesModel", "canAsk", "(I)Z"⟩, 55) := ⟨⟨by decide +kernel, by decide +kernel⟩, List.mem_of_getElem? (i := 1106) (by decide +kernel), List.mem_of_getElem? (i := 1439) (by decide +kernel), List.mem_of_getElem? (i := 1440) (by decide +kernel)⟩
theorem lw_p74 : lw_okq (⟨"DryPlacesModel", "emits", "(II)V"⟩, 55) := ⟨⟨by decide +kernel, by decide +kernel⟩, List.mem_of_getElem? (i := 1106) (by decide +kernel), List.mem_of_getElem? (i := 1443) (by decide +kernel), List.mem_of_getElem? (i := 1444) (by decide +kernel)⟩
theorem lw_p75 : lw_okq (⟨"DryPlacesModel", "readAny", "()I"⟩, 55) := ⟨⟨by decide +kernel, by decide +kernel⟩, List.mem_of_getElem? (i := 1106) (by decide +kernel), List.mem_of_getElem? (i := 1447) (by decide +kernel), List.mem_of_getElem? (i := 1448) (by decide +kernel)⟩
theorem lw_p76 : lw_okq (⟨"DryPlacesModel", "waits", "(I)V"⟩, 55) := ⟨⟨by decide +kernel, by decide +kernel⟩, List.mem_of_getElem? (i := 1106) (by decide +kernel), List.mem_of_getElem? (i := 1451) (by decide +kernel), List.mem_of_getElem? (i := 1452) (by decide +kernel)⟩
theorem lw_p77 : lw_okq (⟨"DryPlacesModel", "readCompared", "()I"⟩, 55) := ⟨⟨by decide +kernel, by decide +kernel⟩, List.mem_of_getElem? (i := 1106) (by decide +kernel), List.mem_of_getElem? (i := 1455) (by decide +kernel), List.mem_of_getElem? (i := 1456) (by decide +kernel)⟩
theorem lw_p78 : lw_okq (⟨"DryPlacesModel", "settles", "(I)V"⟩, 55) := ⟨⟨by decide +kernel, by decide +kernel⟩, List.mem_of_getElem? (i := 1106) (by decide +kernel), List.mem_of_getElem? (i := 1459) (by decide +kernel), List.mem_of_getElem? (i := 1460) (by decide +kernel)⟩
theorem lw_p79 : lw_okq (⟨"DryPlacesModel", "takesLaw", "(I)V"⟩, 55) := ⟨⟨by decide +kernel, by decide +kernel⟩, List.mem_of_getElem? (i := 1106) (by decide +kernel), List.mem_of_getElem? (i := 1463) (by decide +kernel), List.mem_of_getElem? (i := 1464) (by decide +kernel)⟩
def lw_privs_5 : List (MethodName × Nat) := [(⟨"DryPlacesModel", "kindOfDeed", "()I"⟩, 55), (⟨"DryPlacesModel", "readDeedMore", "(I)I"⟩, 55), (⟨"DryPlacesModel", "readVouches", "()I"⟩, 55), (⟨"DryPlacesModel", "readVouch", "()I"⟩, 55), (⟨"DryPlacesModel", "readLaw", "()I"⟩, 55), (⟨"DryPlacesModel", "isLineWord", "()Z"⟩, 55), (⟨"DryPlacesModel", "readSum", "()I"⟩, 55), (⟨"DryPlacesModel", "readProduct", "()I"⟩, 55), (⟨"DryPlacesModel", "readUnit", "()I"⟩, 55), (⟨"DryPlacesModel", "canAsk", "(I)Z"⟩, 55), (⟨"DryPlacesModel", "emits", "(II)V"⟩, 55), (⟨"DryPlacesModel", "readAny", "()I"⟩, 55), (⟨"DryPlacesModel", "waits", "(I)V"⟩, 55), (⟨"DryPlacesModel", "readCompared", "()I"⟩, 55), (⟨"DryPlacesModel", "settles", "(I)V"⟩, 55), (⟨"DryPlacesModel", "takesLaw", "(I)V"⟩, 55)]
theorem lw_r5 : ∀ q ∈ lw_privs_5, lw_okq q := List.forall_mem_cons.mpr ⟨lw_p64, List.forall_mem_cons.mpr ⟨lw_p65, List.forall_mem_cons.mpr ⟨lw_p66, List.forall_mem_cons.mpr ⟨lw_p67, List.forall_mem_cons.mpr ⟨lw_p68, List.forall_mem_cons.mpr ⟨lw_p69, List.forall_mem_cons.mpr ⟨lw_p70, List.forall_mem_cons.mpr ⟨lw_p71, List.forall_mem_cons.mpr ⟨lw_p72, List.forall_mem_cons.mpr ⟨lw_p73, List.forall_mem_cons.mpr ⟨lw_p74, List.forall_mem_cons.mpr ⟨lw_p75, List.forall_mem_cons.mpr ⟨lw_p76, List.forall_mem_cons.mpr ⟨lw_p77, List.forall_mem_cons.mpr ⟨lw_p78, List.forall_mem_cons.mpr ⟨lw_p79, fun _ h => absurd h List.not_mem_nil⟩⟩⟩⟩⟩⟩⟩⟩⟩⟩⟩⟩⟩⟩⟩⟩
theorem lw_p80 : lw_okq (⟨"DryPlacesModel", "takesOther", "(II)V"⟩, 55) := ⟨⟨by decide +kernel, by decide +kernel⟩, List.mem_of_getElem? (i := 1106) (by decide +kernel), List.mem_of_getElem? (i := 1467) (by decide +kernel), List.mem_of_getElem? (i := 1468) (by decide +kernel)⟩
theorem lw_p81 : lw_okq (⟨"DryPlacesModel", "isTold", "(III)Z"⟩, 55) := ⟨⟨by decide +kernel, by decide +kernel⟩, List.mem_of_getElem? (i := 1106) (by decide +kernel), List.mem_of_getElem? (i := 1479) (by decide +kernel), List.mem_of_getElem? (i := 1480) (by decide +kernel)⟩
theorem lw_p82 : lw_okq (⟨"DryPlacesModel", "isCell", "(I)Z"⟩, 55) := ⟨⟨by decide +kernel, by decide +kernel⟩, List.mem_of_getElem? (i := 1106) (by decide +kernel), List.mem_of_getElem? (i := 1483) (by decide +kernel), List.mem_of_getElem? (i := 1484) (by decide +kernel)⟩
theorem lw_p83 : lw_okq (⟨"DryPlacesModel", "canAct", "(III)Z"⟩, 55) := ⟨⟨by decide +kernel, by decide +kernel⟩, List.mem_of_getElem? (i := 1106) (by decide +kernel), List.mem_of_getElem? (i := 1487) (by decide +kernel), List.mem_of_getElem? (i := 1488) (by decide +kernel)⟩
theorem lw_p84 : lw_okq (⟨"DryPlacesModel", "worthOf", "(I)I"⟩, 55) := ⟨⟨by decide +kernel, by decide +kernel⟩, List.mem_of_getElem? (i := 1106) (by decide +kernel), List.mem_of_getElem? (i := 1491) (by decide +kernel), List.mem_of_getElem? (i := 1492) (by decide +kernel)⟩
theorem lw_p85 : lw_okq (⟨"DryPlacesModel", "asks", "(II)V"⟩, 55) := ⟨⟨by decide +kernel, by decide +kernel⟩, List.mem_of_getElem? (i := 1106) (by decide +kernel), List.mem_of_getElem? (i := 1495) (by decide +kernel), List.mem_of_getElem? (i := 1496) (by decide +kernel)⟩
theorem lw_p86 : lw_okq (⟨"DryPlacesModel", "dryOf", "(I)I"⟩, 55) := ⟨⟨by decide +kernel, by decide +kernel⟩, List.mem_of_getElem? (i := 1106) (by decide +kernel), List.mem_of_getElem? (i := 1499) (by decide +kernel), List.mem_of_getElem? (i := 1500) (by decide +kernel)⟩
theorem lw_p87 : lw_okq (⟨"DryPlacesModel", "onesOf", "(I)I"⟩, 55) := ⟨⟨by decide +kernel, by decide +kernel⟩, List.mem_of_getElem? (i := 1106) (by decide +kernel), List.mem_of_getElem? (i := 1503) (by decide +kernel), List.mem_of_getElem? (i := 1504) (by decide +kernel)⟩
theorem lw_p88 : lw_okq (⟨"DryPlacesModel", "edgesOf", "(I)I"⟩, 55) := ⟨⟨by decide +kernel, by decide +kernel⟩, List.mem_of_getElem? (i := 1106) (by decide +kernel), List.mem_of_getElem? (i := 1507) (by decide +kernel), List.mem_of_getElem? (i := 1508) (by decide +kernel)⟩
theorem lw_p89 : lw_okq (⟨"DryPlacesModel", "isDryCell", "(II)Z"⟩, 55) := ⟨⟨by decide +kernel, by decide +kernel⟩, List.mem_of_getElem? (i := 1106) (by decide +kernel), List.mem_of_getElem? (i := 1511) (by decide +kernel), List.mem_of_getElem? (i := 1512) (by decide +kernel)⟩
theorem lw_p90 : lw_okq (⟨"DryPlacesModel", "has", "(II)Z"⟩, 55) := ⟨⟨by decide +kernel, by decide +kernel⟩, List.mem_of_getElem? (i := 1106) (by decide +kernel), List.mem_of_getElem? (i := 1515) (by decide +kernel), List.mem_of_getElem? (i := 1516) (by decide +kernel)⟩
theorem lw_p91 : lw_okq (⟨"DryPlacesModel", "wetBeside", "(II)I"⟩, 55) := ⟨⟨by decide +kernel, by decide +kernel⟩, List.mem_of_getElem? (i := 1106) (by decide +kernel), List.mem_of_getElem? (i := 1519) (by decide +kernel), List.mem_of_getElem? (i := 1520) (by decide +kernel)⟩
theorem lw_p92 : lw_okq (⟨"DryPlacesModel", "isDry", "(III)Z"⟩, 55) := ⟨⟨by decide +kernel, by decide +kernel⟩, List.mem_of_getElem? (i := 1106) (by decide +kernel), List.mem_of_getElem? (i := 1523) (by decide +kernel), List.mem_of_getElem? (i := 1524) (by decide +kernel)⟩
theorem lw_p93 : lw_okq (⟨"DryPlacesModel", "lightOf", "(I)I"⟩, 55) := ⟨⟨by decide +kernel, by decide +kernel⟩, List.mem_of_getElem? (i := 1106) (by decide +kernel), List.mem_of_getElem? (i := 1527) (by decide +kernel), List.mem_of_getElem? (i := 1528) (by decide +kernel)⟩
theorem lw_p94 : lw_okq (⟨"DryPlacesModel", "lawTells", "(III)I"⟩, 55) := ⟨⟨by decide +kernel, by decide +kernel⟩, List.mem_of_getElem? (i := 1106) (by decide +kernel), List.mem_of_getElem? (i := 1531) (by decide +kernel), List.mem_of_getElem? (i := 1532) (by decide +kernel)⟩
theorem lw_p95 : lw_okq (⟨"DryPlacesModel", "lineOf", "(I)I"⟩, 55) := ⟨⟨by decide +kernel, by decide +kernel⟩, List.mem_of_getElem? (i := 1106) (by decide +kernel), List.mem_of_getElem? (i := 1535) (by decide +kernel), List.mem_of_getElem? (i := 1536) (by decide +kernel)⟩
def lw_privs_6 : List (MethodName × Nat) := [(⟨"DryPlacesModel", "takesOther", "(II)V"⟩, 55), (⟨"DryPlacesModel", "isTold", "(III)Z"⟩, 55), (⟨"DryPlacesModel", "isCell", "(I)Z"⟩, 55), (⟨"DryPlacesModel", "canAct", "(III)Z"⟩, 55), (⟨"DryPlacesModel", "worthOf", "(I)I"⟩, 55), (⟨"DryPlacesModel", "asks", "(II)V"⟩, 55), (⟨"DryPlacesModel", "dryOf", "(I)I"⟩, 55), (⟨"DryPlacesModel", "onesOf", "(I)I"⟩, 55), (⟨"DryPlacesModel", "edgesOf", "(I)I"⟩, 55), (⟨"DryPlacesModel", "isDryCell", "(II)Z"⟩, 55), (⟨"DryPlacesModel", "has", "(II)Z"⟩, 55), (⟨"DryPlacesModel", "wetBeside", "(II)I"⟩, 55), (⟨"DryPlacesModel", "isDry", "(III)Z"⟩, 55), (⟨"DryPlacesModel", "lightOf", "(I)I"⟩, 55), (⟨"DryPlacesModel", "lawTells", "(III)I"⟩, 55), (⟨"DryPlacesModel", "lineOf", "(I)I"⟩, 55)]
theorem lw_r6 : ∀ q ∈ lw_privs_6, lw_okq q := List.forall_mem_cons.mpr ⟨lw_p80, List.forall_mem_cons.mpr ⟨lw_p81, List.forall_mem_cons.mpr ⟨lw_p82, List.forall_mem_cons.mpr ⟨lw_p83, List.forall_mem_cons.mpr ⟨lw_p84, List.forall_mem_cons.mpr ⟨lw_p85, List.forall_mem_cons.mpr ⟨lw_p86, List.forall_mem_cons.mpr ⟨lw_p87, List.forall_mem_cons.mpr ⟨lw_p88, List.forall_mem_cons.mpr ⟨lw_p89, List.forall_mem_cons.mpr ⟨lw_p90, List.forall_mem_cons.mpr ⟨lw_p91, List.forall_mem_cons.mpr ⟨lw_p92, List.forall_mem_cons.mpr ⟨lw_p93, List.forall_mem_cons.mpr ⟨lw_p94, List.forall_mem_cons.mpr ⟨lw_p95, fun _ h => absurd h List.not_mem_nil⟩⟩⟩⟩⟩⟩⟩⟩⟩⟩⟩⟩⟩⟩⟩⟩
theorem lw_p96 : lw_okq (⟨"DryPlacesModel", "runs", "(III)I"⟩, 55) := ⟨⟨by decide +kernel, by decide +kernel⟩, List.mem_of_getElem? (i := 1106) (by decide +kernel), List.mem_of_getElem? (i := 1539) (by decide +kernel), List.mem_of_getElem? (i := 1540) (by decide +kernel)⟩
theorem lw_p97 : lw_okq (⟨"DryPlacesModel", "twoOf", "(III)I"⟩, 55) := ⟨⟨by decide +kernel, by decide +kernel⟩, List.mem_of_getElem? (i := 1106) (by decide +kernel), List.mem_of_getElem? (i := 1543) (by decide +kernel), List.mem_of_getElem? (i := 1544) (by decide +kernel)⟩
theorem lw_p98 : lw_okq (⟨"DryPlacesModel", "held", "(III)I"⟩, 55) := ⟨⟨by decide +kernel, by decide +kernel⟩, List.mem_of_getElem? (i := 1106) (by decide +kernel), List.mem_of_getElem? (i := 1547) (by decide +kernel), List.mem_of_getElem? (i := 1548) (by decide +kernel)⟩
theorem lw_p99 : lw_okq (⟨"DryPlacesModel", "keepsAhead", "()V"⟩, 55) := ⟨⟨by decide +kernel, by decide +kernel⟩, List.mem_of_getElem? (i := 1106) (by decide +kernel), List.mem_of_getElem? (i := 1551) (by decide +kernel), List.mem_of_getElem? (i := 1552) (by decide +kernel)⟩
theorem lw_p100 : lw_okq (⟨"DryPlacesModel", "acts", "(III)V"⟩, 55) := ⟨⟨by decide +kernel, by decide +kernel⟩, List.mem_of_getElem? (i := 1106) (by decide +kernel), List.mem_of_getElem? (i := 1555) (by decide +kernel), List.mem_of_getElem? (i := 1556) (by decide +kernel)⟩
theorem lw_p101 : lw_okq (⟨"DryPlacesModel", "isBought", "(I)V"⟩, 55) := ⟨⟨by decide +kernel, by decide +kernel⟩, List.mem_of_getElem? (i := 1106) (by decide +kernel), List.mem_of_getElem? (i := 1559) (by decide +kernel), List.mem_of_getElem? (i := 1560) (by decide +kernel)⟩
theorem lw_p102 : lw_okq (⟨"DryPlacesModel", "notes", "(III)V"⟩, 55) := ⟨⟨by decide +kernel, by decide +kernel⟩, List.mem_of_getElem? (i := 1106) (by decide +kernel), List.mem_of_getElem? (i := 1563) (by decide +kernel), List.mem_of_getElem? (i := 1564) (by decide +kernel)⟩
theorem lw_p103 : lw_okq (⟨"DryPlacesModel", "sells", "(I)V"⟩, 55) := ⟨⟨by decide +kernel, by decide +kernel⟩, List.mem_of_getElem? (i := 1106) (by decide +kernel), List.mem_of_getElem? (i := 1567) (by decide +kernel), List.mem_of_getElem? (i := 1568) (by decide +kernel)⟩
theorem lw_p104 : lw_okq (⟨"DryPlacesModel", "getsPaid", "(I)V"⟩, 55) := ⟨⟨by decide +kernel, by decide +kernel⟩, List.mem_of_getElem? (i := 1106) (by decide +kernel), List.mem_of_getElem? (i := 1571) (by decide +kernel), List.mem_of_getElem? (i := 1572) (by decide +kernel)⟩
theorem lw_p105 : lw_okq (⟨"DryPlacesModel", "lesser", "(II)I"⟩, 55) := ⟨⟨by decide +kernel, by decide +kernel⟩, List.mem_of_getElem? (i := 1106) (by decide +kernel), List.mem_of_getElem? (i := 1575) (by decide +kernel), List.mem_of_getElem? (i := 1576) (by decide +kernel)⟩
theorem lw_p106 : lw_okq (⟨"DryPlacesModel", "hoses", "(II)V"⟩, 55) := ⟨⟨by decide +kernel, by decide +kernel⟩, List.mem_of_getElem? (i := 1106) (by decide +kernel), List.mem_of_getElem? (i := 1579) (by decide +kernel), List.mem_of_getElem? (i := 1580) (by decide +kernel)⟩
theorem lw_p107 : lw_okq (⟨"DryPlacesModel", "wets", "(II)V"⟩, 55) := ⟨⟨by decide +kernel, by decide +kernel⟩, List.mem_of_getElem? (i := 1106) (by decide +kernel), List.mem_of_getElem? (i := 1583) (by decide +kernel), List.mem_of_getElem? (i := 1584) (by decide +kernel)⟩
theorem lw_p108 : lw_okq (⟨"DryPlacesModel", "goesBy", "()I"⟩, 55) := ⟨⟨by decide +kernel, by decide +kernel⟩, List.mem_of_getElem? (i := 1106) (by decide +kernel), List.mem_of_getElem? (i := 1591) (by decide +kernel), List.mem_of_getElem? (i := 1592) (by decide +kernel)⟩
theorem lw_p109 : lw_okq (⟨"DryPlacesModel", "isShown", "(I)Z"⟩, 55) := ⟨⟨by decide +kernel, by decide +kernel⟩, List.mem_of_getElem? (i := 1106) (by decide +kernel), List.mem_of_getElem? (i := 1595) (by decide +kernel), List.mem_of_getElem? (i := 1596) (by decide +kernel)⟩
theorem lw_p110 : lw_okq (⟨"DryPlacesModel", "creepsOn", "(I)I"⟩, 55) := ⟨⟨by decide +kernel, by decide +kernel⟩, List.mem_of_getElem? (i := 1106) (by decide +kernel), List.mem_of_getElem? (i := 1599) (by decide +kernel), List.mem_of_getElem? (i := 1600) (by decide +kernel)⟩
theorem lw_p111 : lw_okq (⟨"DryPlacesModel", "creepsOf", "(II)I"⟩, 55) := ⟨⟨by decide +kernel, by decide +kernel⟩, List.mem_of_getElem? (i := 1106) (by decide +kernel), List.mem_of_getElem? (i := 1603) (by decide +kernel), List.mem_of_getElem? (i := 1604) (by decide +kernel)⟩
def lw_privs_7 : List (MethodName × Nat) := [(⟨"DryPlacesModel", "runs", "(III)I"⟩, 55), (⟨"DryPlacesModel", "twoOf", "(III)I"⟩, 55), (⟨"DryPlacesModel", "held", "(III)I"⟩, 55), (⟨"DryPlacesModel", "keepsAhead", "()V"⟩, 55), (⟨"DryPlacesModel", "acts", "(III)V"⟩, 55), (⟨"DryPlacesModel", "isBought", "(I)V"⟩, 55), (⟨"DryPlacesModel", "notes", "(III)V"⟩, 55), (⟨"DryPlacesModel", "sells", "(I)V"⟩, 55), (⟨"DryPlacesModel", "getsPaid", "(I)V"⟩, 55), (⟨"DryPlacesModel", "lesser", "(II)I"⟩, 55), (⟨"DryPlacesModel", "hoses", "(II)V"⟩, 55), (⟨"DryPlacesModel", "wets", "(II)V"⟩, 55), (⟨"DryPlacesModel", "goesBy", "()I"⟩, 55), (⟨"DryPlacesModel", "isShown", "(I)Z"⟩, 55), (⟨"DryPlacesModel", "creepsOn", "(I)I"⟩, 55), (⟨"DryPlacesModel", "creepsOf", "(II)I"⟩, 55)]
theorem lw_r7 : ∀ q ∈ lw_privs_7, lw_okq q := List.forall_mem_cons.mpr ⟨lw_p96, List.forall_mem_cons.mpr ⟨lw_p97, List.forall_mem_cons.mpr ⟨lw_p98, List.forall_mem_cons.mpr ⟨lw_p99, List.forall_mem_cons.mpr ⟨lw_p100, List.forall_mem_cons.mpr ⟨lw_p101, List.forall_mem_cons.mpr ⟨lw_p102, List.forall_mem_cons.mpr ⟨lw_p103, List.forall_mem_cons.mpr ⟨lw_p104, List.forall_mem_cons.mpr ⟨lw_p105, List.forall_mem_cons.mpr ⟨lw_p106, List.forall_mem_cons.mpr ⟨lw_p107, List.forall_mem_cons.mpr ⟨lw_p108, List.forall_mem_cons.mpr ⟨lw_p109, List.forall_mem_cons.mpr ⟨lw_p110, List.forall_mem_cons.mpr ⟨lw_p111, fun _ h => absurd h List.not_mem_nil⟩⟩⟩⟩⟩⟩⟩⟩⟩⟩⟩⟩⟩⟩⟩⟩
theorem lw_p112 : lw_okq (⟨"DryPlacesModel", "draw", "(I)I"⟩, 55) := ⟨⟨by decide +kernel, by decide +kernel⟩, List.mem_of_getElem? (i := 1106) (by decide +kernel), List.mem_of_getElem? (i := 1607) (by decide +kernel), List.mem_of_getElem? (i := 1608) (by decide +kernel)⟩
theorem lw_p113 : lw_okq (⟨"DryPlacesModel", "comesOf", "(I)I"⟩, 55) := ⟨⟨by decide +kernel, by decide +kernel⟩, List.mem_of_getElem? (i := 1106) (by decide +kernel), List.mem_of_getElem? (i := 1613) (by decide +kernel), List.mem_of_getElem? (i := 1614) (by decide +kernel)⟩
theorem lw_p114 : lw_okq (⟨"DryPlacesModel", "thinks", "()V"⟩, 55) := ⟨⟨by decide +kernel, by decide +kernel⟩, List.mem_of_getElem? (i := 1106) (by decide +kernel), List.mem_of_getElem? (i := 1637) (by decide +kernel), List.mem_of_getElem? (i := 1638) (by decide +kernel)⟩
theorem lw_p115 : lw_okq (⟨"DryPlacesModel", "endsThought", "()V"⟩, 55) := ⟨⟨by decide +kernel, by decide +kernel⟩, List.mem_of_getElem? (i := 1106) (by decide +kernel), List.mem_of_getElem? (i := 1641) (by decide +kernel), List.mem_of_getElem? (i := 1642) (by decide +kernel)⟩
theorem lw_p116 : lw_okq (⟨"DryPlacesModel", "islandsOf", "(I)I"⟩, 55) := ⟨⟨by decide +kernel, by decide +kernel⟩, List.mem_of_getElem? (i := 1106) (by decide +kernel), List.mem_of_getElem? (i := 1649) (by decide +kernel), List.mem_of_getElem? (i := 1650) (by decide +kernel)⟩
theorem lw_p117 : lw_okq (⟨"DryPlacesModel", "findsParts", "(IZ)V"⟩, 55) := ⟨⟨by decide +kernel, by decide +kernel⟩, List.mem_of_getElem? (i := 1106) (by decide +kernel), List.mem_of_getElem? (i := 1653) (by decide +kernel), List.mem_of_getElem? (i := 1654) (by decide +kernel)⟩
theorem lw_p118 : lw_okq (⟨"DryPlacesModel", "isBeside", "(II)Z"⟩, 55) := ⟨⟨by decide +kernel, by decide +kernel⟩, List.mem_of_getElem? (i := 1106) (by decide +kernel), List.mem_of_getElem? (i := 1657) (by decide +kernel), List.mem_of_getElem? (i := 1658) (by decide +kernel)⟩
theorem lw_p119 : lw_okq (⟨"DryPlacesModel", "apart", "(II)I"⟩, 55) := ⟨⟨by decide +kernel, by decide +kernel⟩, List.mem_of_getElem? (i := 1106) (by decide +kernel), List.mem_of_getElem? (i := 1661) (by decide +kernel), List.mem_of_getElem? (i := 1662) (by decide +kernel)⟩
theorem lw_p120 : lw_okq (⟨"DryPlacesModel", "holesOf", "(I)I"⟩, 55) := ⟨⟨by decide +kernel, by decide +kernel⟩, List.mem_of_getElem? (i := 1106) (by decide +kernel), List.mem_of_getElem? (i := 1665) (by decide +kernel), List.mem_of_getElem? (i := 1666) (by decide +kernel)⟩
theorem lw_p121 : lw_okq (⟨"DryPlacesModel", "comesOut", "(I)Z"⟩, 55) := ⟨⟨by decide +kernel, by decide +kernel⟩, List.mem_of_getElem? (i := 1106) (by decide +kernel), List.mem_of_getElem? (i := 1669) (by decide +kernel), List.mem_of_getElem? (i := 1670) (by decide +kernel)⟩
theorem lw_p122 : lw_okq (⟨"DryPlacesModel", "isAtEdge", "(I)Z"⟩, 55) := ⟨⟨by decide +kernel, by decide +kernel⟩, List.mem_of_getElem? (i := 1106) (by decide +kernel), List.mem_of_getElem? (i := 1673) (by decide +kernel), List.mem_of_getElem? (i := 1674) (by decide +kernel)⟩
theorem lw_p123 : lw_okq (⟨"DryPlacesModel", "depthOf", "(I)I"⟩, 55) := ⟨⟨by decide +kernel, by decide +kernel⟩, List.mem_of_getElem? (i := 1106) (by decide +kernel), List.mem_of_getElem? (i := 1677) (by decide +kernel), List.mem_of_getElem? (i := 1678) (by decide +kernel)⟩
theorem lw_p124 : lw_okq (⟨"DryPlacesModel", "takesOwn", "(I)V"⟩, 55) := ⟨⟨by decide +kernel, by decide +kernel⟩, List.mem_of_getElem? (i := 1106) (by decide +kernel), List.mem_of_getElem? (i := 1681) (by decide +kernel), List.mem_of_getElem? (i := 1682) (by decide +kernel)⟩
theorem lw_p125 : lw_okq (⟨"DryPlacesModel", "isOwnLeft", "()Z"⟩, 55) := ⟨⟨by decide +kernel, by decide +kernel⟩, List.mem_of_getElem? (i := 1106) (by decide +kernel), List.mem_of_getElem? (i := 1685) (by decide +kernel), List.mem_of_getElem? (i := 1686) (by decide +kernel)⟩
theorem lw_p126 : lw_okq (⟨"DryPlacesModel", "shrinks", "()V"⟩, 55) := ⟨⟨by decide +kernel, by decide +kernel⟩, List.mem_of_getElem? (i := 1106) (by decide +kernel), List.mem_of_getElem? (i := 1689) (by decide +kernel), List.mem_of_getElem? (i := 1690) (by decide +kernel)⟩
theorem lw_p127 : lw_okq (⟨"DryPlacesModel", "pushes", "()V"⟩, 55) := ⟨⟨by decide +kernel, by decide +kernel⟩, List.mem_of_getElem? (i := 1106) (by decide +kernel), List.mem_of_getElem? (i := 1697) (by decide +kernel), List.mem_of_getElem? (i := 1698) (by decide +kernel)⟩
def lw_privs_8 : List (MethodName × Nat) := [(⟨"DryPlacesModel", "draw", "(I)I"⟩, 55), (⟨"DryPlacesModel", "comesOf", "(I)I"⟩, 55), (⟨"DryPlacesModel", "thinks", "()V"⟩, 55), (⟨"DryPlacesModel", "endsThought", "()V"⟩, 55), (⟨"DryPlacesModel", "islandsOf", "(I)I"⟩, 55), (⟨"DryPlacesModel", "findsParts", "(IZ)V"⟩, 55), (⟨"DryPlacesModel", "isBeside", "(II)Z"⟩, 55), (⟨"DryPlacesModel", "apart", "(II)I"⟩, 55), (⟨"DryPlacesModel", "holesOf", "(I)I"⟩, 55), (⟨"DryPlacesModel", "comesOut", "(I)Z"⟩, 55), (⟨"DryPlacesModel", "isAtEdge", "(I)Z"⟩, 55), (⟨"DryPlacesModel", "depthOf", "(I)I"⟩, 55), (⟨"DryPlacesModel", "takesOwn", "(I)V"⟩, 55), (⟨"DryPlacesModel", "isOwnLeft", "()Z"⟩, 55), (⟨"DryPlacesModel", "shrinks", "()V"⟩, 55), (⟨"DryPlacesModel", "pushes", "()V"⟩, 55)]
theorem lw_r8 : ∀ q ∈ lw_privs_8, lw_okq q := List.forall_mem_cons.mpr ⟨lw_p112, List.forall_mem_cons.mpr ⟨lw_p113, List.forall_mem_cons.mpr ⟨lw_p114, List.forall_mem_cons.mpr ⟨lw_p115, List.forall_mem_cons.mpr ⟨lw_p116, List.forall_mem_cons.mpr ⟨lw_p117, List.forall_mem_cons.mpr ⟨lw_p118, List.forall_mem_cons.mpr ⟨lw_p119, List.forall_mem_cons.mpr ⟨lw_p120, List.forall_mem_cons.mpr ⟨lw_p121, List.forall_mem_cons.mpr ⟨lw_p122, List.forall_mem_cons.mpr ⟨lw_p123, List.forall_mem_cons.mpr ⟨lw_p124, List.forall_mem_cons.mpr ⟨lw_p125, List.forall_mem_cons.mpr ⟨lw_p126, List.forall_mem_cons.mpr ⟨lw_p127, fun _ h => absurd h List.not_mem_nil⟩⟩⟩⟩⟩⟩⟩⟩⟩⟩⟩⟩⟩⟩⟩⟩
theorem lw_p128 : lw_okq (⟨"DryPlacesModel", "mirrors", "()V"⟩, 55) := ⟨⟨by decide +kernel, by decide +kernel⟩, List.mem_of_getElem? (i := 1106) (by decide +kernel), List.mem_of_getElem? (i := 1701) (by decide +kernel), List.mem_of_getElem? (i := 1702) (by decide +kernel)⟩
theorem lw_p129 : lw_okq (⟨"DryPlacesModel", "turnsRight", "()V"⟩, 55) := ⟨⟨by decide +kernel, by decide +kernel⟩, List.mem_of_getElem? (i := 1106) (by decide +kernel), List.mem_of_getElem? (i := 1705) (by decide +kernel), List.mem_of_getElem? (i := 1706) (by decide +kernel)⟩
theorem lw_p130 : lw_okq (⟨"DryPlacesModel", "isAim", "()Z"⟩, 55) := ⟨⟨by decide +kernel, by decide +kernel⟩, List.mem_of_getElem? (i := 1106) (by decide +kernel), List.mem_of_getElem? (i := 1709) (by decide +kernel), List.mem_of_getElem? (i := 1710) (by decide +kernel)⟩
theorem lw_p131 : lw_okq (⟨"DryPlacesModel", "firstSquare", "(II)I"⟩, 55) := ⟨⟨by decide +kernel, by decide +kernel⟩, List.mem_of_getElem? (i := 1106) (by decide +kernel), List.mem_of_getElem? (i := 1717) (by decide +kernel), List.mem_of_getElem? (i := 1718) (by decide +kernel)⟩
theorem lw_p132 : lw_okq (⟨"DryPlacesModel", "isSquare", "(III)Z"⟩, 55) := ⟨⟨by decide +kernel, by decide +kernel⟩, List.mem_of_getElem? (i := 1106) (by decide +kernel), List.mem_of_getElem? (i := 1721) (by decide +kernel), List.mem_of_getElem? (i := 1722) (by decide +kernel)⟩
theorem lw_p133 : lw_okq (⟨"DryPlacesModel", "restOf", "(II)I"⟩, 55) := ⟨⟨by decide +kernel, by decide +kernel⟩, List.mem_of_getElem? (i := 1106) (by decide +kernel), List.mem_of_getElem? (i := 1725) (by decide +kernel), List.mem_of_getElem? (i := 1726) (by decide +kernel)⟩
theorem lw_p134 : lw_okq (⟨"DryPlacesModel", "firstRound", "(II)I"⟩, 55) := ⟨⟨by decide +kernel, by decide +kernel⟩, List.mem_of_getElem? (i := 1106) (by decide +kernel), List.mem_of_getElem? (i := 1729) (by decide +kernel), List.mem_of_getElem? (i := 1730) (by decide +kernel)⟩
theorem lw_p135 : lw_okq (⟨"DryPlacesModel", "isRound", "(III)Z"⟩, 55) := ⟨⟨by decide +kernel, by decide +kernel⟩, List.mem_of_getElem? (i := 1106) (by decide +kernel), List.mem_of_getElem? (i := 1733) (by decide +kernel), List.mem_of_getElem? (i := 1734) (by decide +kernel)⟩
theorem lw_p136 : lw_okq (⟨"DryPlacesModel", "couplesBy", "(IIII)I"⟩, 55) := ⟨⟨by decide +kernel, by decide +kernel⟩, List.mem_of_getElem? (i := 1106) (by decide +kernel), List.mem_of_getElem? (i := 1741) (by decide +kernel), List.mem_of_getElem? (i := 1742) (by decide +kernel)⟩
theorem lw_p137 : lw_okq (⟨"DryPlacesModel", "pushedRow", "(IIII)I"⟩, 55) := ⟨⟨by decide +kernel, by decide +kernel⟩, List.mem_of_getElem? (i := 1106) (by decide +kernel), List.mem_of_getElem? (i := 1745) (by decide +kernel), List.mem_of_getElem? (i := 1746) (by decide +kernel)⟩
theorem lw_p138 : lw_okq (⟨"DryPlacesModel", "greater", "(II)I"⟩, 55) := ⟨⟨by decide +kernel, by decide +kernel⟩, List.mem_of_getElem? (i := 1106) (by decide +kernel), List.mem_of_getElem? (i := 1749) (by decide +kernel), List.mem_of_getElem? (i := 1750) (by decide +kernel)⟩
theorem lw_p139 : lw_okq (⟨"DryPlacesModel", "stepsBy", "(III)I"⟩, 55) := ⟨⟨by decide +kernel, by decide +kernel⟩, List.mem_of_getElem? (i := 1106) (by decide +kernel), List.mem_of_getElem? (i := 1757) (by decide +kernel), List.mem_of_getElem? (i := 1758) (by decide +kernel)⟩
theorem lw_p140 : lw_okq (⟨"DryPlacesModel", "turnsBy", "(III)I"⟩, 55) := ⟨⟨by decide +kernel, by decide +kernel⟩, List.mem_of_getElem? (i := 1106) (by decide +kernel), List.mem_of_getElem? (i := 1762) (by decide +kernel), List.mem_of_getElem? (i := 1763) (by decide +kernel)⟩
theorem lw_p141 : lw_okq (⟨"DryPlacesModel", "comesTo", "(II)Z"⟩, 55) := ⟨⟨by decide +kernel, by decide +kernel⟩, List.mem_of_getElem? (i := 1106) (by decide +kernel), List.mem_of_getElem? (i := 1766) (by decide +kernel), List.mem_of_getElem? (i := 1767) (by decide +kernel)⟩
theorem lw_p142 : lw_okq (⟨"DryPlacesModel", "beside", "(II)I"⟩, 55) := ⟨⟨by decide +kernel, by decide +kernel⟩, List.mem_of_getElem? (i := 1106) (by decide +kernel), List.mem_of_getElem? (i := 1770) (by decide +kernel), List.mem_of_getElem? (i := 1771) (by decide +kernel)⟩
theorem lw_p143 : lw_okq (⟨"DryPlacesModel", "sumOf", "(II)I"⟩, 55) := ⟨⟨by decide +kernel, by decide +kernel⟩, List.mem_of_getElem? (i := 1106) (by decide +kernel), List.mem_of_getElem? (i := 1778) (by decide +kernel), List.mem_of_getElem? (i := 1779) (by decide +kernel)⟩
def lw_privs_9 : List (MethodName × Nat) := [(⟨"DryPlacesModel", "mirrors", "()V"⟩, 55), (⟨"DryPlacesModel", "turnsRight", "()V"⟩, 55), (⟨"DryPlacesModel", "isAim", "()Z"⟩, 55), (⟨"DryPlacesModel", "firstSquare", "(II)I"⟩, 55), (⟨"DryPlacesModel", "isSquare", "(III)Z"⟩, 55), (⟨"DryPlacesModel", "restOf", "(II)I"⟩, 55), (⟨"DryPlacesModel", "firstRound", "(II)I"⟩, 55), (⟨"DryPlacesModel", "isRound", "(III)Z"⟩, 55), (⟨"DryPlacesModel", "couplesBy", "(IIII)I"⟩, 55), (⟨"DryPlacesModel", "pushedRow", "(IIII)I"⟩, 55), (⟨"DryPlacesModel", "greater", "(II)I"⟩, 55), (⟨"DryPlacesModel", "stepsBy", "(III)I"⟩, 55), (⟨"DryPlacesModel", "turnsBy", "(III)I"⟩, 55), (⟨"DryPlacesModel", "comesTo", "(II)Z"⟩, 55), (⟨"DryPlacesModel", "beside", "(II)I"⟩, 55), (⟨"DryPlacesModel", "sumOf", "(II)I"⟩, 55)]
theorem lw_r9 : ∀ q ∈ lw_privs_9, lw_okq q := List.forall_mem_cons.mpr ⟨lw_p128, List.forall_mem_cons.mpr ⟨lw_p129, List.forall_mem_cons.mpr ⟨lw_p130, List.forall_mem_cons.mpr ⟨lw_p131, List.forall_mem_cons.mpr ⟨lw_p132, List.forall_mem_cons.mpr ⟨lw_p133, List.forall_mem_cons.mpr ⟨lw_p134, List.forall_mem_cons.mpr ⟨lw_p135, List.forall_mem_cons.mpr ⟨lw_p136, List.forall_mem_cons.mpr ⟨lw_p137, List.forall_mem_cons.mpr ⟨lw_p138, List.forall_mem_cons.mpr ⟨lw_p139, List.forall_mem_cons.mpr ⟨lw_p140, List.forall_mem_cons.mpr ⟨lw_p141, List.forall_mem_cons.mpr ⟨lw_p142, List.forall_mem_cons.mpr ⟨lw_p143, fun _ h => absurd h List.not_mem_nil⟩⟩⟩⟩⟩⟩⟩⟩⟩⟩⟩⟩⟩⟩⟩⟩
theorem lw_p144 : lw_okq (⟨"DryPlacesModel", "switchOf", "(I)I"⟩, 55) := ⟨⟨by decide +kernel, by decide +kernel⟩, List.mem_of_getElem? (i := 1106) (by decide +kernel), List.mem_of_getElem? (i := 1782) (by decide +kernel), List.mem_of_getElem? (i := 1783) (by decide +kernel)⟩
theorem lw_p145 : lw_okq (⟨"DryPlacesModel", "areLike", "(II)Z"⟩, 55) := ⟨⟨by decide +kernel, by decide +kernel⟩, List.mem_of_getElem? (i := 1106) (by decide +kernel), List.mem_of_getElem? (i := 1786) (by decide +kernel), List.mem_of_getElem? (i := 1787) (by decide +kernel)⟩
theorem lw_p146 : lw_okq (⟨"DryPlacesModel", "ownedSet", "()I"⟩, 55) := ⟨⟨by decide +kernel, by decide +kernel⟩, List.mem_of_getElem? (i := 1106) (by decide +kernel), List.mem_of_getElem? (i := 1794) (by decide +kernel), List.mem_of_getElem? (i := 1795) (by decide +kernel)⟩
theorem lw_p147 : lw_okq (⟨"DryPlacesModel", "sumOver", "(IZ)I"⟩, 55) := ⟨⟨by decide +kernel, by decide +kernel⟩, List.mem_of_getElem? (i := 1106) (by decide +kernel), List.mem_of_getElem? (i := 1798) (by decide +kernel), List.mem_of_getElem? (i := 1799) (by decide +kernel)⟩
theorem lw_p148 : lw_okq (⟨"DryPlacesModel", "findsWays", "()V"⟩, 55) := ⟨⟨by decide +kernel, by decide +kernel⟩, List.mem_of_getElem? (i := 1106) (by decide +kernel), List.mem_of_getElem? (i := 1806) (by decide +kernel), List.mem_of_getElem? (i := 1807) (by decide +kernel)⟩
theorem lw_p149 : lw_okq (⟨"DryPlacesModel", "leastTo", "(III)I"⟩, 55) := ⟨⟨by decide +kernel, by decide +kernel⟩, List.mem_of_getElem? (i := 1106) (by decide +kernel), List.mem_of_getElem? (i := 1810) (by decide +kernel), List.mem_of_getElem? (i := 1811) (by decide +kernel)⟩
theorem lw_p150 : lw_okq (⟨"DryPlacesModel", "vouchersOf", "(I)I"⟩, 55) := ⟨⟨by decide +kernel, by decide +kernel⟩, List.mem_of_getElem? (i := 1106) (by decide +kernel), List.mem_of_getElem? (i := 1818) (by decide +kernel), List.mem_of_getElem? (i := 1819) (by decide +kernel)⟩
theorem lw_p151 : lw_okq (⟨"DryPlacesModel", "isLie", "(II)Z"⟩, 55) := ⟨⟨by decide +kernel, by decide +kernel⟩, List.mem_of_getElem? (i := 1106) (by decide +kernel), List.mem_of_getElem? (i := 1826) (by decide +kernel), List.mem_of_getElem? (i := 1827) (by decide +kernel)⟩
theorem lw_p152 : lw_okq (⟨"DryPlacesModel", "keeps", "(I)I"⟩, 55) := ⟨⟨by decide +kernel, by decide +kernel⟩, List.mem_of_getElem? (i := 1106) (by decide +kernel), List.mem_of_getElem? (i := 1842) (by decide +kernel), List.mem_of_getElem? (i := 1843) (by decide +kernel)⟩
theorem lw_p153 : lw_okq (⟨"DryPlacesModel", "keepsTold", "()V"⟩, 55) := ⟨⟨by decide +kernel, by decide +kernel⟩, List.mem_of_getElem? (i := 1106) (by decide +kernel), List.mem_of_getElem? (i := 1846) (by decide +kernel), List.mem_of_getElem? (i := 1847) (by decide +kernel)⟩
theorem lw_p154 : lw_okq (⟨"DryPlacesModel", "keepsLaw", "()V"⟩, 55) := ⟨⟨by decide +kernel, by decide +kernel⟩, List.mem_of_getElem? (i := 1106) (by decide +kernel), List.mem_of_getElem? (i := 1850) (by decide +kernel), List.mem_of_getElem? (i := 1851) (by decide +kernel)⟩
def lw_privs_10 : List (MethodName × Nat) := [(⟨"DryPlacesModel", "switchOf", "(I)I"⟩, 55), (⟨"DryPlacesModel", "areLike", "(II)Z"⟩, 55), (⟨"DryPlacesModel", "ownedSet", "()I"⟩, 55), (⟨"DryPlacesModel", "sumOver", "(IZ)I"⟩, 55), (⟨"DryPlacesModel", "findsWays", "()V"⟩, 55), (⟨"DryPlacesModel", "leastTo", "(III)I"⟩, 55), (⟨"DryPlacesModel", "vouchersOf", "(I)I"⟩, 55), (⟨"DryPlacesModel", "isLie", "(II)Z"⟩, 55), (⟨"DryPlacesModel", "keeps", "(I)I"⟩, 55), (⟨"DryPlacesModel", "keepsTold", "()V"⟩, 55), (⟨"DryPlacesModel", "keepsLaw", "()V"⟩, 55)]
theorem lw_r10 : ∀ q ∈ lw_privs_10, lw_okq q := List.forall_mem_cons.mpr ⟨lw_p144, List.forall_mem_cons.mpr ⟨lw_p145, List.forall_mem_cons.mpr ⟨lw_p146, List.forall_mem_cons.mpr ⟨lw_p147, List.forall_mem_cons.mpr ⟨lw_p148, List.forall_mem_cons.mpr ⟨lw_p149, List.forall_mem_cons.mpr ⟨lw_p150, List.forall_mem_cons.mpr ⟨lw_p151, List.forall_mem_cons.mpr ⟨lw_p152, List.forall_mem_cons.mpr ⟨lw_p153, List.forall_mem_cons.mpr ⟨lw_p154, fun _ h => absurd h List.not_mem_nil⟩⟩⟩⟩⟩⟩⟩⟩⟩⟩⟩
def lw_privs : List (MethodName × Nat) := lw_privs_1 ++ (lw_privs_2 ++ (lw_privs_3 ++ (lw_privs_4 ++ (lw_privs_5 ++ (lw_privs_6 ++ (lw_privs_7 ++ (lw_privs_8 ++ (lw_privs_9 ++ (lw_privs_10)))))))))
def lw_tbl : List Cond := k2_sels lw_privs ++ tables_1
theorem lw_privs_ok : ∀ q ∈ lw_privs, lw_okq q := by
  show ∀ q ∈ lw_privs_1 ++ (lw_privs_2 ++ (lw_privs_3 ++ (lw_privs_4 ++ (lw_privs_5 ++ (lw_privs_6 ++ (lw_privs_7 ++ (lw_privs_8 ++ (lw_privs_9 ++ (lw_privs_10))))))))), lw_okq q
  exact List.forall_mem_append.mpr ⟨lw_r1, List.forall_mem_append.mpr ⟨lw_r2, List.forall_mem_append.mpr ⟨lw_r3, List.forall_mem_append.mpr ⟨lw_r4, List.forall_mem_append.mpr ⟨lw_r5, List.forall_mem_append.mpr ⟨lw_r6, List.forall_mem_append.mpr ⟨lw_r7, List.forall_mem_append.mpr ⟨lw_r8, List.forall_mem_append.mpr ⟨lw_r9, lw_r10⟩⟩⟩⟩⟩⟩⟩⟩⟩
-- ===== end of PART A; then your names; then what follows =====
/-! THE CLAIM OUT OF ONE WALK OF THE LAW'S BODY. Your part is whole_start (and what it stands on); all else here is the same for every law, but numbers. -/
def R_law : String := "DryPlacesLaw"
def lw_P (b : Addr) (xs : List Int32) (args : Array Value) (s : State) : Prop := args = #[.ref b] ∧ s.IntsAt b xs ∧ xs.length ≤ 3072 ∧ (Jvm.Cond.and given_1 narrow_1).before args s = true
def lw_Q (_ : Array Value) (s : State) (o : Outcome) (t : State) : Prop := o = .returned (some (.int 1)) ∧ Framed s o t [] 600000 7302250
def lw_Z (below : List Frame) (a : Array Value) (s : State) : State → Prop := fun t => ∃ o, t.status = .running ∧ Ended t below o ∧ lw_Q a s o t
/-- the law's own end, with 1 on the stack, nothing written that was there before, its room as the claim has it -/
theorem lw_ret {p : Program} {l : Launch} {e : Env} {s : State} {m : MethodId} {below : List Frame} {meth : Method} {c : Code} {b : Nat} (hx : p.tables.exec = Jvm.exec) (hb : c.code = code) (hr : meth.sig.returnType = ret) (hlocks : meth.locks = false) {pc : Nat} {H : Heap} {ls : Array Slot} (hdg : decode code pc = .ok (.ireturn, 1)) : W p l e room_1 s m #[Value.ref b] below meth c H [] 600000 7302250 (lw_Z below #[Value.ref b] s) (F0 m pc ls [.int 1]) := by
  intro T hT X
  obtain ⟨fs, hret, hrun, hended, hW, hframe⟩ := X.leave (v := some (.int 1)) (hlocks := hlocks) (fun h => by rw [hr] at h; cases h)
  have hmeth' : T.vm.method? m = some meth := X.method'
  refine ⟨T.setFrames fs, ?_, .returned (some (.int 1)), hrun, hended, rfl, ⟨_, rfl⟩, hW, hframe⟩
  jvm_step X.here [X.here.top, hx, hb, hdg, hmeth', hr, ret, narrow_b1]
  (try refine ⟨rfl, ?_⟩); (try refine ⟨rfl, ?_⟩)
  first | (intro acts; rw [hret _ acts rfl rfl rfl]) | rw [hret _ _ rfl rfl rfl]
  exact Steps.refl _
/-- what holds at the law's entry: the machine, the code, the tables' words (any of lw_tbl by 'hts w (by decide +kernel)'), the script of L ints xs at the cell b, what the Statement gives of the start (any of its parts by flat_of_before) -/
def lw_At (p : Program) (s : State) (m : MethodId) (meth : Method) (c : Code) (b L : Nat) (xs : Nat → Int32) : Prop :=
  p.tables.exec = Jvm.exec ∧ c.code = code ∧ meth.sig.returnType = ret ∧ c.maxLocals = 4 ∧ s.vm.findClass R_law = some m.cls ∧ (∀ w ∈ lw_tbl, w.before #[Value.ref b] s = true) ∧ va_X b L xs s s.heap ∧ b < s.heap.size ∧ meth.locks = false ∧ (Jvm.Cond.and given_1 narrow_1).before #[Value.ref b] s = true
end
section
def RX0 : String := "DryPlaces$Ground"
def TX0 : u_T := fun k => match k with
  | _ => ("", "", "", false)
def tyX0 : Nat → FieldType := fun k => match k with
  | _ => .int
abbrev wsX00 : List Cond := u_ws RX0 TX0 0
theorem nmX0 : ∀ a, a < 0 → ∀ b, b < 0 → a ≠ b → (TX0 a).2.1 ≠ (TX0 b).2.1 := by decide +kernel
theorem tyX0_ok : ∀ k, k < 0 → parseFieldDescriptor (TX0 k).2.2.1 = some (tyX0 k) := by decide +kernel
abbrev cX0_isDry : ByteArray := prog_2_method_2_code
def yX0_isDry : MethodName := ⟨RX0, "isDry", "(JI)Z"⟩
abbrev cX0_rowOf : ByteArray := prog_2_method_3_code
def yX0_rowOf : MethodName := ⟨RX0, "rowOf", "(JI)I"⟩
abbrev cX0_withRow : ByteArray := prog_2_method_4_code
def yX0_withRow : MethodName := ⟨RX0, "withRow", "(JII)J"⟩
abbrev cX0_up : ByteArray := prog_2_method_5_code
def yX0_up : MethodName := ⟨RX0, "up", "(J)J"⟩
abbrev cX0_down : ByteArray := prog_2_method_6_code
def yX0_down : MethodName := ⟨RX0, "down", "(J)J"⟩
abbrev cX0_left : ByteArray := prog_2_method_7_code
def yX0_left : MethodName := ⟨RX0, "left", "(J)J"⟩
abbrev cX0_right : ByteArray := prog_2_method_8_code
def yX0_right : MethodName := ⟨RX0, "right", "(J)J"⟩
abbrev cX0_beside : ByteArray := prog_2_method_9_code
def yX0_beside : MethodName := ⟨RX0, "beside", "(J)J"⟩
abbrev cX0_firstOf : ByteArray := prog_2_method_10_code
def yX0_firstOf : MethodName := ⟨RX0, "firstOf", "(J)I"⟩
abbrev cX0_wetBeside : ByteArray := prog_2_method_11_code
def yX0_wetBeside : MethodName := ⟨RX0, "wetBeside", "(JI)I"⟩
abbrev cX0_edges : ByteArray := prog_2_method_12_code
def yX0_edges : MethodName := ⟨RX0, "edges", "(J)I"⟩
abbrev cX0_partOf : ByteArray := prog_2_method_13_code
def yX0_partOf : MethodName := ⟨RX0, "partOf", "(JJ)J"⟩
abbrev cX0_parts : ByteArray := prog_2_method_14_code
def yX0_parts : MethodName := ⟨RX0, "parts", "(J)I"⟩
abbrev cX0_holes : ByteArray := prog_2_method_15_code
def yX0_holes : MethodName := ⟨RX0, "holes", "(J)I"⟩
abbrev cX0_shrunk : ByteArray := prog_2_method_16_code
def yX0_shrunk : MethodName := ⟨RX0, "shrunk", "(JI)J"⟩
abbrev cX0_depth : ByteArray := prog_2_method_17_code
def yX0_depth : MethodName := ⟨RX0, "depth", "(J)I"⟩
abbrev cX0_turnedCell : ByteArray := prog_2_method_18_code
def yX0_turnedCell : MethodName := ⟨RX0, "turnedCell", "(II)I"⟩
abbrev cX0_turnedBy : ByteArray := prog_2_method_19_code
def yX0_turnedBy : MethodName := ⟨RX0, "turnedBy", "(JI)J"⟩
abbrev cX0_cornered : ByteArray := prog_2_method_20_code
def yX0_cornered : MethodName := ⟨RX0, "cornered", "(J)J"⟩
abbrev cX0_squareCorners : ByteArray := prog_2_method_21_code
def yX0_squareCorners : MethodName := ⟨RX0, "squareCorners", "(JI)J"⟩
abbrev cX0_squareSide : ByteArray := prog_2_method_22_code
def yX0_squareSide : MethodName := ⟨RX0, "squareSide", "(J)I"⟩
abbrev cX0_squaresFrom : ByteArray := prog_2_method_23_code
def yX0_squaresFrom : MethodName := ⟨RX0, "squaresFrom", "(JI)J"⟩
abbrev cX0_pushed : ByteArray := prog_2_method_24_code
def yX0_pushed : MethodName := ⟨RX0, "pushed", "(JII)J"⟩
abbrev cX0_overlap : ByteArray := prog_2_method_25_code
def yX0_overlap : MethodName := ⟨RX0, "overlap", "(JJII)I"⟩
abbrev cX0_couples : ByteArray := prog_2_method_26_code
def yX0_couples : MethodName := ⟨RX0, "couples", "(JJI)I"⟩
abbrev cX0_bestPush : ByteArray := prog_2_method_27_code
def yX0_bestPush : MethodName := ⟨RX0, "bestPush", "(JJ)I"⟩
abbrev cX0_fewestSteps : ByteArray := prog_2_method_28_code
def yX0_fewestSteps : MethodName := ⟨RX0, "fewestSteps", "(JII)I"⟩
abbrev cX0_fewestTurnings : ByteArray := prog_2_method_29_code
def yX0_fewestTurnings : MethodName := ⟨RX0, "fewestTurnings", "(JII)I"⟩
abbrev cX0_straightFrom : ByteArray := prog_2_method_30_code
def yX0_straightFrom : MethodName := ⟨RX0, "straightFrom", "(JJ)J"⟩
abbrev cX0_sumOf : ByteArray := prog_2_method_31_code
def yX0_sumOf : MethodName := ⟨RX0, "sumOf", "(JI)I"⟩
abbrev cX0_hasSameSums : ByteArray := prog_2_method_32_code
def yX0_hasSameSums : MethodName := ⟨RX0, "hasSameSums", "(JJ)Z"⟩
abbrev cX0_firstSwitch : ByteArray := prog_2_method_33_code
def yX0_firstSwitch : MethodName := ⟨RX0, "firstSwitch", "(J)I"⟩
abbrev cX0_switchColumns : ByteArray := prog_2_method_34_code
def yX0_switchColumns : MethodName := ⟨RX0, "switchColumns", "(II)I"⟩
abbrev cX0_isLie : ByteArray := prog_2_method_35_code
def yX0_isLie : MethodName := ⟨RX0, "isLie", "(JII)Z"⟩
abbrev cX0_standings : ByteArray := prog_2_method_36_code
def yX0_standings : MethodName := ⟨RX0, "standings", "(J)I"⟩
abbrev cX0_rightHeels : ByteArray := prog_2_method_37_code
def yX0_rightHeels : MethodName := ⟨RX0, "rightHeels", "(I)J"⟩
def RX1 : String := "DryPlaces$Keeper"
def TX1 : u_T := fun k => match k with
  | 0 => ("DryPlaces$Keeper", "world", "LDryPlaces$World;", true)
  | 1 => ("DryPlaces$Keeper", "texts", "LDryPlaces$Texts;", true)
  | 2 => ("DryPlaces$Keeper", "teller", "LDryPlaces$Teller;", true)
  | 3 => ("DryPlaces$Keeper", "lines", "[I", true)
  | _ => ("DryPlaces$Keeper", "chance", "[I", true)
def tyX1 : Nat → FieldType := fun k => match k with
  | 0 => .object "DryPlaces$World"
  | 1 => .object "DryPlaces$Texts"
  | 2 => .object "DryPlaces$Teller"
  | 3 => .array .int
  | _ => .array .int
abbrev wsX10 : List Cond := u_ws RX1 TX1 5
theorem nmX1 : ∀ a, a < 5 → ∀ b, b < 5 → a ≠ b → (TX1 a).2.1 ≠ (TX1 b).2.1 := by decide +kernel
theorem tyX1_ok : ∀ k, k < 5 → parseFieldDescriptor (TX1 k).2.2.1 = some (tyX1 k) := by decide +kernel
abbrev cX1_init : ByteArray := prog_3_method_1_code
def yX1_init : MethodName := ⟨RX1, "<init>", "(LDryPlaces$World;LDryPlaces$Texts;LDryPlaces$Teller;[I)V"⟩
abbrev cX1_canDo : ByteArray := prog_3_method_2_code
def yX1_canDo : MethodName := ⟨RX1, "canDo", "(III)Z"⟩
abbrev cX1_carryOut : ByteArray := prog_3_method_3_code
def yX1_carryOut : MethodName := ⟨RX1, "carryOut", "(III)V"⟩
abbrev cX1_purchase : ByteArray := prog_3_method_4_code
def yX1_purchase : MethodName := ⟨RX1, "purchase", "(II)V"⟩
abbrev cX1_partWith : ByteArray := prog_3_method_5_code
def yX1_partWith : MethodName := ⟨RX1, "partWith", "(II)V"⟩
abbrev cX1_note : ByteArray := prog_3_method_6_code
def yX1_note : MethodName := ⟨RX1, "note", "(III)V"⟩
abbrev cX1_passDay : ByteArray := prog_3_method_7_code
def yX1_passDay : MethodName := ⟨RX1, "passDay", "()I"⟩
abbrev cX1_keepDiary : ByteArray := prog_3_method_8_code
def yX1_keepDiary : MethodName := ⟨RX1, "keepDiary", "()V"⟩
abbrev cX1_creepIn : ByteArray := prog_3_method_9_code
def yX1_creepIn : MethodName := ⟨RX1, "creepIn", "(I)I"⟩
abbrev cX1_isHit : ByteArray := prog_3_method_10_code
def yX1_isHit : MethodName := ⟨RX1, "isHit", "(I)Z"⟩
abbrev cX1_receive : ByteArray := prog_3_method_11_code
def yX1_receive : MethodName := ⟨RX1, "receive", "(I)V"⟩
def RX2 : String := "DryPlaces$Law"
def TX2 : u_T := fun k => match k with
  | 0 => ("DryPlaces$Law", "lines", "I", false)
  | 1 => ("DryPlaces$Law", "used", "I", false)
  | 2 => ("DryPlaces$Law", "word", "[I", true)
  | 3 => ("DryPlaces$Law", "value", "[I", true)
  | 4 => ("DryPlaces$Law", "when", "[I", true)
  | 5 => ("DryPlaces$Law", "stop", "[I", true)
  | 6 => ("DryPlaces$Law", "op", "[I", true)
  | _ => ("DryPlaces$Law", "arg", "[I", true)
def tyX2 : Nat → FieldType := fun k => match k with
  | 0 => .int
  | 1 => .int
  | 2 => .array .int
  | 3 => .array .int
  | 4 => .array .int
  | 5 => .array .int
  | 6 => .array .int
  | _ => .array .int
abbrev wsX20 : List Cond := u_ws RX2 TX2 8
theorem nmX2 : ∀ a, a < 8 → ∀ b, b < 8 → a ≠ b → (TX2 a).2.1 ≠ (TX2 b).2.1 := by decide +kernel
theorem tyX2_ok : ∀ k, k < 8 → parseFieldDescriptor (TX2 k).2.2.1 = some (tyX2 k) := by decide +kernel
abbrev cX2_init : ByteArray := prog_4_method_1_code
def yX2_init : MethodName := ⟨RX2, "<init>", "()V"⟩
abbrev cX2_clear : ByteArray := prog_4_method_2_code
def yX2_clear : MethodName := ⟨RX2, "clear", "()V"⟩
abbrev cX2_copy : ByteArray := prog_4_method_3_code
def yX2_copy : MethodName := ⟨RX2, "copy", "(LDryPlaces$Law;)V"⟩
abbrev cX2_begin : ByteArray := prog_4_method_4_code
def yX2_begin : MethodName := ⟨RX2, "begin", "(I)V"⟩
abbrev cX2_beginWhen : ByteArray := prog_4_method_5_code
def yX2_beginWhen : MethodName := ⟨RX2, "beginWhen", "()V"⟩
abbrev cX2_finish : ByteArray := prog_4_method_6_code
def yX2_finish : MethodName := ⟨RX2, "finish", "()V"⟩
abbrev cX2_add : ByteArray := prog_4_method_7_code
def yX2_add : MethodName := ⟨RX2, "add", "(II)V"⟩
def RX3 : String := "DryPlaces$Parser"
def TX3 : u_T := fun k => match k with
  | 0 => ("DryPlaces$Parser", "tape", "LDryPlaces$Tape;", true)
  | 1 => ("DryPlaces$Parser", "draft", "LDryPlaces$Texts;", true)
  | 2 => ("DryPlaces$Parser", "fault", "I", false)
  | 3 => ("DryPlaces$Parser", "faultAt", "I", false)
  | 4 => ("DryPlaces$Parser", "places", "I", false)
  | 5 => ("DryPlaces$Parser", "token", "I", false)
  | _ => ("DryPlaces$Parser", "kind", "I", false)
def tyX3 : Nat → FieldType := fun k => match k with
  | 0 => .object "DryPlaces$Tape"
  | 1 => .object "DryPlaces$Texts"
  | 2 => .int
  | 3 => .int
  | 4 => .int
  | 5 => .int
  | _ => .int
abbrev wsX30 : List Cond := u_ws RX3 TX3 7
theorem nmX3 : ∀ a, a < 7 → ∀ b, b < 7 → a ≠ b → (TX3 a).2.1 ≠ (TX3 b).2.1 := by decide +kernel
theorem tyX3_ok : ∀ k, k < 7 → parseFieldDescriptor (TX3 k).2.2.1 = some (tyX3 k) := by decide +kernel
abbrev cX3_init : ByteArray := prog_5_method_1_code
def yX3_init : MethodName := ⟨RX3, "<init>", "(LDryPlaces$Tape;)V"⟩
abbrev cX3_parse : ByteArray := prog_5_method_2_code
def yX3_parse : MethodName := ⟨RX3, "parse", "(II)Z"⟩
abbrev cX3_canBegin : ByteArray := prog_5_method_3_code
def yX3_canBegin : MethodName := ⟨RX3, "canBegin", "(I)Z"⟩
abbrev cX3_refuse : ByteArray := prog_5_method_4_code
def yX3_refuse : MethodName := ⟨RX3, "refuse", "(I)Z"⟩
abbrev cX3_step : ByteArray := prog_5_method_5_code
def yX3_step : MethodName := ⟨RX3, "step", "()V"⟩
abbrev cX3_take : ByteArray := prog_5_method_6_code
def yX3_take : MethodName := ⟨RX3, "take", "(I)Z"⟩
abbrev cX3_takeNumber : ByteArray := prog_5_method_7_code
def yX3_takeNumber : MethodName := ⟨RX3, "takeNumber", "(III)I"⟩
abbrev cX3_takePlace : ByteArray := prog_5_method_8_code
def yX3_takePlace : MethodName := ⟨RX3, "takePlace", "(I)I"⟩
abbrev cX3_takeRoom : ByteArray := prog_5_method_9_code
def yX3_takeRoom : MethodName := ⟨RX3, "takeRoom", "(I)I"⟩
abbrev cX3_readPassage : ByteArray := prog_5_method_10_code
def yX3_readPassage : MethodName := ⟨RX3, "readPassage", "()Z"⟩
abbrev cX3_readVoucher : ByteArray := prog_5_method_11_code
def yX3_readVoucher : MethodName := ⟨RX3, "readVoucher", "()Z"⟩
abbrev cX3_readEntry : ByteArray := prog_5_method_12_code
def yX3_readEntry : MethodName := ⟨RX3, "readEntry", "()Z"⟩
abbrev cX3_actOfWord : ByteArray := prog_5_method_13_code
def yX3_actOfWord : MethodName := ⟨RX3, "actOfWord", "()I"⟩
abbrev cX3_takeDetail : ByteArray := prog_5_method_14_code
def yX3_takeDetail : MethodName := ⟨RX3, "takeDetail", "(I)I"⟩
abbrev cX3_readLaw : ByteArray := prog_5_method_15_code
def yX3_readLaw : MethodName := ⟨RX3, "readLaw", "()Z"⟩
abbrev cX3_readCondition : ByteArray := prog_5_method_16_code
def yX3_readCondition : MethodName := ⟨RX3, "readCondition", "(I)Z"⟩
abbrev cX3_readOne : ByteArray := prog_5_method_17_code
def yX3_readOne : MethodName := ⟨RX3, "readOne", "(I)Z"⟩
abbrev cX3_comparison : ByteArray := prog_5_method_18_code
def yX3_comparison : MethodName := ⟨RX3, "comparison", "()I"⟩
abbrev cX3_readSum : ByteArray := prog_5_method_19_code
def yX3_readSum : MethodName := ⟨RX3, "readSum", "()Z"⟩
abbrev cX3_addWaiting : ByteArray := prog_5_method_20_code
def yX3_addWaiting : MethodName := ⟨RX3, "addWaiting", "(I)V"⟩
abbrev cX3_isReckoning : ByteArray := prog_5_method_21_code
def yX3_isReckoning : MethodName := ⟨RX3, "isReckoning", "()Z"⟩
abbrev cX3_readUnit : ByteArray := prog_5_method_22_code
def yX3_readUnit : MethodName := ⟨RX3, "readUnit", "()Z"⟩
def RX4 : String := "DryPlaces$Past"
def TX4 : u_T := fun k => match k with
  | 0 => ("DryPlaces$Past", "kept", "[LDryPlaces$World;", true)
  | 1 => ("DryPlaces$Past", "first", "I", false)
  | _ => ("DryPlaces$Past", "count", "I", false)
def tyX4 : Nat → FieldType := fun k => match k with
  | 0 => .array (.object "DryPlaces$World")
  | 1 => .int
  | _ => .int
abbrev wsX40 : List Cond := u_ws RX4 TX4 3
theorem nmX4 : ∀ a, a < 3 → ∀ b, b < 3 → a ≠ b → (TX4 a).2.1 ≠ (TX4 b).2.1 := by decide +kernel
theorem tyX4_ok : ∀ k, k < 3 → parseFieldDescriptor (TX4 k).2.2.1 = some (tyX4 k) := by decide +kernel
abbrev cX4_init : ByteArray := prog_6_method_1_code
def yX4_init : MethodName := ⟨RX4, "<init>", "()V"⟩
abbrev cX4_keep : ByteArray := prog_6_method_2_code
def yX4_keep : MethodName := ⟨RX4, "keep", "(LDryPlaces$World;)V"⟩
abbrev cX4_goBack : ByteArray := prog_6_method_3_code
def yX4_goBack : MethodName := ⟨RX4, "goBack", "(LDryPlaces$World;)Z"⟩
abbrev cX4_forget : ByteArray := prog_6_method_4_code
def yX4_forget : MethodName := ⟨RX4, "forget", "()V"⟩
def RX5 : String := "DryPlaces$Tape"
def TX5 : u_T := fun k => match k with
  | 0 => ("DryPlaces$Tape", "sign", "[C", true)
  | 1 => ("DryPlaces$Tape", "kind", "[I", true)
  | 2 => ("DryPlaces$Tape", "value", "[I", true)
  | 3 => ("DryPlaces$Tape", "from", "[I", true)
  | 4 => ("DryPlaces$Tape", "length", "I", false)
  | _ => ("DryPlaces$Tape", "at", "I", false)
def tyX5 : Nat → FieldType := fun k => match k with
  | 0 => .array .char
  | 1 => .array .int
  | 2 => .array .int
  | 3 => .array .int
  | 4 => .int
  | _ => .int
abbrev wsX50 : List Cond := u_ws RX5 TX5 6
theorem nmX5 : ∀ a, a < 6 → ∀ b, b < 6 → a ≠ b → (TX5 a).2.1 ≠ (TX5 b).2.1 := by decide +kernel
theorem tyX5_ok : ∀ k, k < 6 → parseFieldDescriptor (TX5 k).2.2.1 = some (tyX5 k) := by decide +kernel
abbrev cX5_init : ByteArray := prog_7_method_1_code
def yX5_init : MethodName := ⟨RX5, "<init>", "()V"⟩
abbrev cX5_hasSpaceForFive : ByteArray := prog_7_method_2_code
def yX5_hasSpaceForFive : MethodName := ⟨RX5, "hasSpaceForFive", "()Z"⟩
abbrev cX5_append : ByteArray := prog_7_method_3_code
def yX5_append : MethodName := ⟨RX5, "append", "(I)V"⟩
abbrev cX5_cutUp : ByteArray := prog_7_method_4_code
def yX5_cutUp : MethodName := ⟨RX5, "cutUp", "()V"⟩
abbrev cX5_skipBlanks : ByteArray := prog_7_method_5_code
def yX5_skipBlanks : MethodName := ⟨RX5, "skipBlanks", "()V"⟩
abbrev cX5_readWord : ByteArray := prog_7_method_6_code
def yX5_readWord : MethodName := ⟨RX5, "readWord", "(I)V"⟩
abbrev cX5_isWordAt : ByteArray := prog_7_method_7_code
def yX5_isWordAt : MethodName := ⟨RX5, "isWordAt", "(III)Z"⟩
abbrev cX5_readNumber : ByteArray := prog_7_method_8_code
def yX5_readNumber : MethodName := ⟨RX5, "readNumber", "(I)V"⟩
abbrev cX5_isLetter : ByteArray := prog_7_method_9_code
def yX5_isLetter : MethodName := ⟨RX5, "isLetter", "(I)Z"⟩
abbrev cX5_isDigit : ByteArray := prog_7_method_10_code
def yX5_isDigit : MethodName := ⟨RX5, "isDigit", "(I)Z"⟩
def RX6 : String := "DryPlaces$Teller"
def TX6 : u_T := fun k => match k with
  | 0 => ("DryPlaces$Teller", "law", "LDryPlaces$Law;", true)
  | 1 => ("DryPlaces$Teller", "known", "[I", true)
  | _ => ("DryPlaces$Teller", "stack", "[I", true)
def tyX6 : Nat → FieldType := fun k => match k with
  | 0 => .object "DryPlaces$Law"
  | 1 => .array .int
  | _ => .array .int
abbrev wsX60 : List Cond := u_ws RX6 TX6 3
theorem nmX6 : ∀ a, a < 3 → ∀ b, b < 3 → a ≠ b → (TX6 a).2.1 ≠ (TX6 b).2.1 := by decide +kernel
theorem tyX6_ok : ∀ k, k < 3 → parseFieldDescriptor (TX6 k).2.2.1 = some (tyX6 k) := by decide +kernel
abbrev cX6_init : ByteArray := prog_8_method_1_code
def yX6_init : MethodName := ⟨RX6, "<init>", "(LDryPlaces$Law;)V"⟩
abbrev cX6_worthOf : ByteArray := prog_8_method_2_code
def yX6_worthOf : MethodName := ⟨RX6, "worthOf", "(LDryPlaces$World;I)I"⟩
abbrev cX6_comersTo : ByteArray := prog_8_method_3_code
def yX6_comersTo : MethodName := ⟨RX6, "comersTo", "(LDryPlaces$World;I)I"⟩
abbrev cX6_chanceIn : ByteArray := prog_8_method_4_code
def yX6_chanceIn : MethodName := ⟨RX6, "chanceIn", "(LDryPlaces$World;II)I"⟩
abbrev cX6_held : ByteArray := prog_8_method_5_code
def yX6_held : MethodName := ⟨RX6, "held", "(II)I"⟩
abbrev cX6_face : ByteArray := prog_8_method_6_code
def yX6_face : MethodName := ⟨RX6, "face", "(LDryPlaces$World;II)V"⟩
abbrev cX6_ask : ByteArray := prog_8_method_7_code
def yX6_ask : MethodName := ⟨RX6, "ask", "(II)I"⟩
abbrev cX6_run : ByteArray := prog_8_method_8_code
def yX6_run : MethodName := ⟨RX6, "run", "(II)I"⟩
abbrev cX6_changed : ByteArray := prog_8_method_9_code
def yX6_changed : MethodName := ⟨RX6, "changed", "(III)I"⟩
abbrev cX6_joined : ByteArray := prog_8_method_10_code
def yX6_joined : MethodName := ⟨RX6, "joined", "(III)I"⟩
def RX7 : String := "DryPlaces$Texts"
def TX7 : u_T := fun k => match k with
  | 0 => ("DryPlaces$Texts", "law", "LDryPlaces$Law;", true)
  | 1 => ("DryPlaces$Texts", "told", "[I", true)
  | 2 => ("DryPlaces$Texts", "passage", "[I", true)
  | 3 => ("DryPlaces$Texts", "diary", "[I", true)
  | _ => ("DryPlaces$Texts", "vouchers", "[I", true)
def tyX7 : Nat → FieldType := fun k => match k with
  | 0 => .object "DryPlaces$Law"
  | 1 => .array .int
  | 2 => .array .int
  | 3 => .array .int
  | _ => .array .int
abbrev wsX70 : List Cond := u_ws RX7 TX7 5
theorem nmX7 : ∀ a, a < 5 → ∀ b, b < 5 → a ≠ b → (TX7 a).2.1 ≠ (TX7 b).2.1 := by decide +kernel
theorem tyX7_ok : ∀ k, k < 5 → parseFieldDescriptor (TX7 k).2.2.1 = some (tyX7 k) := by decide +kernel
abbrev cX7_init : ByteArray := prog_9_method_1_code
def yX7_init : MethodName := ⟨RX7, "<init>", "()V"⟩
abbrev cX7_count : ByteArray := prog_9_method_2_code
def yX7_count : MethodName := ⟨RX7, "count", "(I)I"⟩
abbrev cX7_clearOne : ByteArray := prog_9_method_3_code
def yX7_clearOne : MethodName := ⟨RX7, "clearOne", "(I)V"⟩
abbrev cX7_copyOne : ByteArray := prog_9_method_4_code
def yX7_copyOne : MethodName := ⟨RX7, "copyOne", "(ILDryPlaces$Texts;)V"⟩
abbrev cX7_copyAll : ByteArray := prog_9_method_5_code
def yX7_copyAll : MethodName := ⟨RX7, "copyAll", "(LDryPlaces$Texts;)V"⟩
abbrev cX7_addPassage : ByteArray := prog_9_method_6_code
def yX7_addPassage : MethodName := ⟨RX7, "addPassage", "(III)V"⟩
abbrev cX7_addVoucher : ByteArray := prog_9_method_7_code
def yX7_addVoucher : MethodName := ⟨RX7, "addVoucher", "(II)V"⟩
abbrev cX7_addEntry : ByteArray := prog_9_method_8_code
def yX7_addEntry : MethodName := ⟨RX7, "addEntry", "(IIII)V"⟩
def RX8 : String := "DryPlaces$Tour"
def TX8 : u_T := fun k => match k with
  | 0 => ("DryPlaces$Tour", "far", "[I", true)
  | _ => ("DryPlaces$Tour", "best", "[I", true)
def tyX8 : Nat → FieldType := fun k => match k with
  | 0 => .array .int
  | _ => .array .int
abbrev wsX80 : List Cond := u_ws RX8 TX8 2
theorem nmX8 : ∀ a, a < 2 → ∀ b, b < 2 → a ≠ b → (TX8 a).2.1 ≠ (TX8 b).2.1 := by decide +kernel
theorem tyX8_ok : ∀ k, k < 2 → parseFieldDescriptor (TX8 k).2.2.1 = some (tyX8 k) := by decide +kernel
abbrev cX8_init : ByteArray := prog_10_method_1_code
def yX8_init : MethodName := ⟨RX8, "<init>", "()V"⟩
abbrev cX8_lastRoom : ByteArray := prog_10_method_2_code
def yX8_lastRoom : MethodName := ⟨RX8, "lastRoom", "([II)I"⟩
abbrev cX8_lengthTo : ByteArray := prog_10_method_3_code
def yX8_lengthTo : MethodName := ⟨RX8, "lengthTo", "(I)I"⟩
abbrev cX8_measure : ByteArray := prog_10_method_4_code
def yX8_measure : MethodName := ⟨RX8, "measure", "([I)V"⟩
abbrev cX8_goOn : ByteArray := prog_10_method_5_code
def yX8_goOn : MethodName := ⟨RX8, "goOn", "(II)V"⟩
def RX9 : String := "DryPlaces$World"
def TX9 : u_T := fun k => match k with
  | 0 => ("DryPlaces$World", "count", "I", false)
  | 1 => ("DryPlaces$World", "owned", "I", false)
  | 2 => ("DryPlaces$World", "hosed", "I", false)
  | 3 => ("DryPlaces$World", "purse", "I", false)
  | 4 => ("DryPlaces$World", "seen", "I", false)
  | 5 => ("DryPlaces$World", "day", "I", false)
  | 6 => ("DryPlaces$World", "draws", "I", false)
  | 7 => ("DryPlaces$World", "written", "I", false)
  | 8 => ("DryPlaces$World", "dry", "[J", true)
  | 9 => ("DryPlaces$World", "year", "[I", true)
  | 10 => ("DryPlaces$World", "hung", "[I", true)
  | 11 => ("DryPlaces$World", "paid", "[I", true)
  | _ => ("DryPlaces$World", "light", "[I", true)
def tyX9 : Nat → FieldType := fun k => match k with
  | 0 => .int
  | 1 => .int
  | 2 => .int
  | 3 => .int
  | 4 => .int
  | 5 => .int
  | 6 => .int
  | 7 => .int
  | 8 => .array .long
  | 9 => .array .int
  | 10 => .array .int
  | 11 => .array .int
  | _ => .array .int
abbrev wsX90 : List Cond := u_ws RX9 TX9 13
theorem nmX9 : ∀ a, a < 13 → ∀ b, b < 13 → a ≠ b → (TX9 a).2.1 ≠ (TX9 b).2.1 := by decide +kernel
theorem tyX9_ok : ∀ k, k < 13 → parseFieldDescriptor (TX9 k).2.2.1 = some (tyX9 k) := by decide +kernel
abbrev cX9_init : ByteArray := prog_11_method_1_code
def yX9_init : MethodName := ⟨RX9, "<init>", "()V"⟩
abbrev cX9_copy : ByteArray := prog_11_method_2_code
def yX9_copy : MethodName := ⟨RX9, "copy", "(LDryPlaces$World;)V"⟩
abbrev cX9_add : ByteArray := prog_11_method_3_code
def yX9_add : MethodName := ⟨RX9, "add", "(I)I"⟩
abbrev cX9_has : ByteArray := prog_11_method_4_code
def yX9_has : MethodName := ⟨RX9, "has", "(I)Z"⟩
abbrev cX9_isOwned : ByteArray := prog_11_method_5_code
def yX9_isOwned : MethodName := ⟨RX9, "isOwned", "(I)Z"⟩
abbrev cX9_isHosed : ByteArray := prog_11_method_6_code
def yX9_isHosed : MethodName := ⟨RX9, "isHosed", "(I)Z"⟩
abbrev cX9_isShown : ByteArray := prog_11_method_7_code
def yX9_isShown : MethodName := ⟨RX9, "isShown", "(I)Z"⟩
abbrev cX9_earn : ByteArray := prog_11_method_8_code
def yX9_earn : MethodName := ⟨RX9, "earn", "(I)V"⟩
abbrev cX9_drawOfThousand : ByteArray := prog_11_method_9_code
def yX9_drawOfThousand : MethodName := ⟨RX9, "drawOfThousand", "()I"⟩
abbrev cX9_dryOf : ByteArray := prog_11_method_10_code
def yX9_dryOf : MethodName := ⟨RX9, "dryOf", "(I)I"⟩
abbrev cX9_dryOfOwned : ByteArray := prog_11_method_11_code
def yX9_dryOfOwned : MethodName := ⟨RX9, "dryOfOwned", "()I"⟩
def RX10 : String := "DryPlaces"
def TX10 : u_T := fun k => match k with
  | 0 => ("DryPlaces", "world", "LDryPlaces$World;", true)
  | 1 => ("DryPlaces", "texts", "LDryPlaces$Texts;", true)
  | 2 => ("DryPlaces", "lines", "[I", true)
  | 3 => ("DryPlaces", "past", "LDryPlaces$Past;", true)
  | 4 => ("DryPlaces", "tape", "LDryPlaces$Tape;", true)
  | 5 => ("DryPlaces", "parser", "LDryPlaces$Parser;", true)
  | 6 => ("DryPlaces", "teller", "LDryPlaces$Teller;", true)
  | 7 => ("DryPlaces", "keeper", "LDryPlaces$Keeper;", true)
  | 8 => ("DryPlaces", "thought", "LDryPlaces$World;", true)
  | 9 => ("DryPlaces", "thinker", "LDryPlaces$Keeper;", true)
  | 10 => ("DryPlaces", "rounds", "LDryPlaces$Tour;", true)
  | 11 => ("DryPlaces", "prices", "[I", true)
  | 12 => ("DryPlaces", "imageWorld", "LDryPlaces$World;", true)
  | 13 => ("DryPlaces", "imageTexts", "LDryPlaces$Texts;", true)
  | 14 => ("DryPlaces", "imageLines", "[I", true)
  | _ => ("DryPlaces", "imageTaken", "Z", false)
def tyX10 : Nat → FieldType := fun k => match k with
  | 0 => .object "DryPlaces$World"
  | 1 => .object "DryPlaces$Texts"
  | 2 => .array .int
  | 3 => .object "DryPlaces$Past"
  | 4 => .object "DryPlaces$Tape"
  | 5 => .object "DryPlaces$Parser"
  | 6 => .object "DryPlaces$Teller"
  | 7 => .object "DryPlaces$Keeper"
  | 8 => .object "DryPlaces$World"
  | 9 => .object "DryPlaces$Keeper"
  | 10 => .object "DryPlaces$Tour"
  | 11 => .array .int
  | 12 => .object "DryPlaces$World"
  | 13 => .object "DryPlaces$Texts"
  | 14 => .array .int
  | _ => .boolean
abbrev wsX100 : List Cond := u_ws RX10 TX10 16
theorem nmX10 : ∀ a, a < 16 → ∀ b, b < 16 → a ≠ b → (TX10 a).2.1 ≠ (TX10 b).2.1 := by decide +kernel
theorem tyX10_ok : ∀ k, k < 16 → parseFieldDescriptor (TX10 k).2.2.1 = some (tyX10 k) := by decide +kernel
abbrev cX10_init : ByteArray := prog_1_method_1_code
def yX10_init : MethodName := ⟨RX10, "<init>", "()V"⟩
abbrev cX10_state : ByteArray := prog_1_method_2_code
def yX10_state : MethodName := ⟨RX10, "state", "(I)I"⟩
abbrev cX10_place : ByteArray := prog_1_method_3_code
def yX10_place : MethodName := ⟨RX10, "place", "(I)I"⟩
abbrev cX10_row : ByteArray := prog_1_method_4_code
def yX10_row : MethodName := ⟨RX10, "row", "(III)Z"⟩
abbrev cX10_purse : ByteArray := prog_1_method_5_code
def yX10_purse : MethodName := ⟨RX10, "purse", "(I)Z"⟩
abbrev cX10_act : ByteArray := prog_1_method_6_code
def yX10_act : MethodName := ⟨RX10, "act", "(III)Z"⟩
abbrev cX10_days : ByteArray := prog_1_method_7_code
def yX10_days : MethodName := ⟨RX10, "days", "(I)I"⟩
abbrev cX10_feed : ByteArray := prog_1_method_8_code
def yX10_feed : MethodName := ⟨RX10, "feed", "(IIIII)I"⟩
abbrev cX10_end : ByteArray := prog_1_method_9_code
def yX10_end : MethodName := ⟨RX10, "end", "(I)Z"⟩
abbrev cX10_text : ByteArray := prog_1_method_10_code
def yX10_text : MethodName := ⟨RX10, "text", "(I)I"⟩
abbrev cX10_fault : ByteArray := prog_1_method_11_code
def yX10_fault : MethodName := ⟨RX10, "fault", "(I)I"⟩
abbrev cX10_of : ByteArray := prog_1_method_12_code
def yX10_of : MethodName := ⟨RX10, "of", "(II)I"⟩
abbrev cX10_creeps : ByteArray := prog_1_method_13_code
def yX10_creeps : MethodName := ⟨RX10, "creeps", "(II)I"⟩
abbrev cX10_room : ByteArray := prog_1_method_14_code
def yX10_room : MethodName := ⟨RX10, "room", "(II)I"⟩
abbrev cX10_book : ByteArray := prog_1_method_15_code
def yX10_book : MethodName := ⟨RX10, "book", "(II)I"⟩
abbrev cX10_goes : ByteArray := prog_1_method_16_code
def yX10_goes : MethodName := ⟨RX10, "goes", "(II)I"⟩
abbrev cX10_shape : ByteArray := prog_1_method_17_code
def yX10_shape : MethodName := ⟨RX10, "shape", "(II)I"⟩
abbrev cX10_turned : ByteArray := prog_1_method_18_code
def yX10_turned : MethodName := ⟨RX10, "turned", "(II)I"⟩
abbrev cX10_square : ByteArray := prog_1_method_19_code
def yX10_square : MethodName := ⟨RX10, "square", "(II)I"⟩
abbrev cX10_fit : ByteArray := prog_1_method_20_code
def yX10_fit : MethodName := ⟨RX10, "fit", "(III)I"⟩
abbrev cX10_walk : ByteArray := prog_1_method_21_code
def yX10_walk : MethodName := ⟨RX10, "walk", "(IIII)I"⟩
abbrev cX10_sums : ByteArray := prog_1_method_22_code
def yX10_sums : MethodName := ⟨RX10, "sums", "(II)I"⟩
abbrev cX10_buys : ByteArray := prog_1_method_23_code
def yX10_buys : MethodName := ⟨RX10, "buys", "(II)I"⟩
abbrev cX10_tour : ByteArray := prog_1_method_24_code
def yX10_tour : MethodName := ⟨RX10, "tour", "(II)I"⟩
abbrev cX10_vouched : ByteArray := prog_1_method_25_code
def yX10_vouched : MethodName := ⟨RX10, "vouched", "(I)I"⟩
abbrev cX10_lie : ByteArray := prog_1_method_26_code
def yX10_lie : MethodName := ⟨RX10, "lie", "(III)I"⟩
abbrev cX10_feet : ByteArray := prog_1_method_27_code
def yX10_feet : MethodName := ⟨RX10, "feet", "(I)I"⟩
abbrev cX10_game : ByteArray := prog_1_method_28_code
def yX10_game : MethodName := ⟨RX10, "game", "(I)I"⟩
abbrev cX10_undo : ByteArray := prog_1_method_29_code
def yX10_undo : MethodName := ⟨RX10, "undo", "()Z"⟩
abbrev cX10_image : ByteArray := prog_1_method_30_code
def yX10_image : MethodName := ⟨RX10, "image", "(Z)Z"⟩
abbrev cX10_look : ByteArray := prog_1_method_31_code
def yX10_look : MethodName := ⟨RX10, "look", "(I)I"⟩
abbrev cX10_isWithin : ByteArray := prog_1_method_32_code
def yX10_isWithin : MethodName := ⟨RX10, "isWithin", "(III)Z"⟩
abbrev cX10_isCell : ByteArray := prog_1_method_33_code
def yX10_isCell : MethodName := ⟨RX10, "isCell", "(I)Z"⟩
abbrev cX10_isRoom : ByteArray := prog_1_method_34_code
def yX10_isRoom : MethodName := ⟨RX10, "isRoom", "(I)Z"⟩
abbrev cX10_priceOf : ByteArray := prog_1_method_35_code
def yX10_priceOf : MethodName := ⟨RX10, "priceOf", "(I)I"⟩
abbrev cX10_vouchersOfAll : ByteArray := prog_1_method_36_code
def yX10_vouchersOfAll : MethodName := ⟨RX10, "vouchersOfAll", "(I)I"⟩
abbrev cX10_heapOf : ByteArray := prog_1_method_37_code
def yX10_heapOf : MethodName := ⟨RX10, "heapOf", "(I)I"⟩
abbrev cX10_winningTake : ByteArray := prog_1_method_38_code
def yX10_winningTake : MethodName := ⟨RX10, "winningTake", "(II)I"⟩
def RX11 : String := "DryPlacesModel"
def TX11 : u_T := fun k => match k with
  | 0 => ("DryPlacesModel", "told", "I", false)
  | 1 => ("DryPlacesModel", "now", "[I", true)
  | 2 => ("DryPlacesModel", "rows", "[I", true)
  | 3 => ("DryPlacesModel", "undoable", "I", false)
  | 4 => ("DryPlacesModel", "waiting", "[I", true)
  | 5 => ("DryPlacesModel", "isThought", "Z", false)
  | 6 => ("DryPlacesModel", "places", "I", false)
  | 7 => ("DryPlacesModel", "year", "[I", true)
  | 8 => ("DryPlacesModel", "book", "[I", true)
  | 9 => ("DryPlacesModel", "tape", "[I", true)
  | 10 => ("DryPlacesModel", "taped", "I", false)
  | 11 => ("DryPlacesModel", "spot", "I", false)
  | 12 => ("DryPlacesModel", "from", "I", false)
  | 13 => ("DryPlacesModel", "token", "I", false)
  | 14 => ("DryPlacesModel", "value", "I", false)
  | 15 => ("DryPlacesModel", "words", "[I", true)
  | 16 => ("DryPlacesModel", "lineMany", "[I", true)
  | 17 => ("DryPlacesModel", "lineWord", "[I", true)
  | 18 => ("DryPlacesModel", "lineFrom", "[I", true)
  | 19 => ("DryPlacesModel", "lineWhen", "[I", true)
  | 20 => ("DryPlacesModel", "lineTo", "[I", true)
  | 21 => ("DryPlacesModel", "op", "[I", true)
  | 22 => ("DryPlacesModel", "arg", "[I", true)
  | 23 => ("DryPlacesModel", "which", "I", false)
  | 24 => ("DryPlacesModel", "codes", "I", false)
  | 25 => ("DryPlacesModel", "open", "I", false)
  | 26 => ("DryPlacesModel", "pending", "[I", true)
  | 27 => ("DryPlacesModel", "pendings", "I", false)
  | 28 => ("DryPlacesModel", "readFault", "I", false)
  | 29 => ("DryPlacesModel", "readPlace", "I", false)
  | 30 => ("DryPlacesModel", "faultKind", "I", false)
  | 31 => ("DryPlacesModel", "faultPlace", "I", false)
  | 32 => ("DryPlacesModel", "passageMany", "I", false)
  | 33 => ("DryPlacesModel", "passages", "[I", true)
  | 34 => ("DryPlacesModel", "deedMany", "I", false)
  | 35 => ("DryPlacesModel", "deeds", "[I", true)
  | 36 => ("DryPlacesModel", "vouchMany", "I", false)
  | 37 => ("DryPlacesModel", "vouches", "[I", true)
  | 38 => ("DryPlacesModel", "asked", "[I", true)
  | 39 => ("DryPlacesModel", "stack", "[I", true)
  | 40 => ("DryPlacesModel", "crept", "[I", true)
  | 41 => ("DryPlacesModel", "marks", "[I", true)
  | 42 => ("DryPlacesModel", "own", "[I", true)
  | 43 => ("DryPlacesModel", "other", "[I", true)
  | 44 => ("DryPlacesModel", "aim", "[I", true)
  | 45 => ("DryPlacesModel", "stepsTo", "[I", true)
  | 46 => ("DryPlacesModel", "turnsTo", "[I", true)
  | 47 => ("DryPlacesModel", "worths", "[I", true)
  | 48 => ("DryPlacesModel", "dries", "[I", true)
  | 49 => ("DryPlacesModel", "ways", "[I", true)
  | 50 => ("DryPlacesModel", "toured", "[I", true)
  | 51 => ("DryPlacesModel", "isTaking", "Z", false)
  | 52 => ("DryPlacesModel", "hasImage", "Z", false)
  | 53 => ("DryPlacesModel", "keptAt", "I", false)
  | _ => ("DryPlacesModel", "images", "[I", true)
def tyX11 : Nat → FieldType := fun k => match k with
  | 0 => .int
  | 1 => .array .int
  | 2 => .array .int
  | 3 => .int
  | 4 => .array .int
  | 5 => .boolean
  | 6 => .int
  | 7 => .array .int
  | 8 => .array .int
  | 9 => .array .int
  | 10 => .int
  | 11 => .int
  | 12 => .int
  | 13 => .int
  | 14 => .int
  | 15 => .array .int
  | 16 => .array .int
  | 17 => .array .int
  | 18 => .array .int
  | 19 => .array .int
  | 20 => .array .int
  | 21 => .array .int
  | 22 => .array .int
  | 23 => .int
  | 24 => .int
  | 25 => .int
  | 26 => .array .int
  | 27 => .int
  | 28 => .int
  | 29 => .int
  | 30 => .int
  | 31 => .int
  | 32 => .int
  | 33 => .array .int
  | 34 => .int
  | 35 => .array .int
  | 36 => .int
  | 37 => .array .int
  | 38 => .array .int
  | 39 => .array .int
  | 40 => .array .int
  | 41 => .array .int
  | 42 => .array .int
  | 43 => .array .int
  | 44 => .array .int
  | 45 => .array .int
  | 46 => .array .int
  | 47 => .array .int
  | 48 => .array .int
  | 49 => .array .int
  | 50 => .array .int
  | 51 => .boolean
  | 52 => .boolean
  | 53 => .int
  | _ => .array .int
abbrev wsX110 : List Cond := u_ws RX11 TX11 55
theorem nmX11 : ∀ a, a < 55 → ∀ b, b < 55 → a ≠ b → (TX11 a).2.1 ≠ (TX11 b).2.1 := by decide +kernel
theorem tyX11_ok : ∀ k, k < 55 → parseFieldDescriptor (TX11 k).2.2.1 = some (tyX11 k) := by decide +kernel
abbrev cX11_init : ByteArray := prog_13_method_1_code
def yX11_init : MethodName := ⟨RX11, "<init>", "()V"⟩
abbrev cX11_isIn : ByteArray := prog_13_method_3_code
def yX11_isIn : MethodName := ⟨RX11, "isIn", "(III)Z"⟩
abbrev cX11_held : ByteArray := prog_13_method_4_code
def yX11_held : MethodName := ⟨RX11, "held", "(III)I"⟩
abbrev cX11_greater : ByteArray := prog_13_method_5_code
def yX11_greater : MethodName := ⟨RX11, "greater", "(II)I"⟩
abbrev cX11_lesser : ByteArray := prog_13_method_6_code
def yX11_lesser : MethodName := ⟨RX11, "lesser", "(II)I"⟩
abbrev cX11_apart : ByteArray := prog_13_method_7_code
def yX11_apart : MethodName := ⟨RX11, "apart", "(II)I"⟩
abbrev cX11_onesOf : ByteArray := prog_13_method_8_code
def yX11_onesOf : MethodName := ⟨RX11, "onesOf", "(I)I"⟩
abbrev cX11_has : ByteArray := prog_13_method_9_code
def yX11_has : MethodName := ⟨RX11, "has", "(II)Z"⟩
abbrev cX11_keepsAhead : ByteArray := prog_13_method_10_code
def yX11_keepsAhead : MethodName := ⟨RX11, "keepsAhead", "()V"⟩
abbrev cX11_undo : ByteArray := prog_13_method_11_code
def yX11_undo : MethodName := ⟨RX11, "undo", "()Z"⟩
abbrev cX11_thinks : ByteArray := prog_13_method_12_code
def yX11_thinks : MethodName := ⟨RX11, "thinks", "()V"⟩
abbrev cX11_endsThought : ByteArray := prog_13_method_13_code
def yX11_endsThought : MethodName := ⟨RX11, "endsThought", "()V"⟩
abbrev cX11_state : ByteArray := prog_13_method_14_code
def yX11_state : MethodName := ⟨RX11, "state", "(I)I"⟩
abbrev cX11_draw : ByteArray := prog_13_method_15_code
def yX11_draw : MethodName := ⟨RX11, "draw", "(I)I"⟩
abbrev cX11_isPlace : ByteArray := prog_13_method_16_code
def yX11_isPlace : MethodName := ⟨RX11, "isPlace", "(I)Z"⟩
abbrev cX11_isCell : ByteArray := prog_13_method_17_code
def yX11_isCell : MethodName := ⟨RX11, "isCell", "(I)Z"⟩
abbrev cX11_rowAt : ByteArray := prog_13_method_18_code
def yX11_rowAt : MethodName := ⟨RX11, "rowAt", "(II)I"⟩
abbrev cX11_isDry : ByteArray := prog_13_method_19_code
def yX11_isDry : MethodName := ⟨RX11, "isDry", "(III)Z"⟩
abbrev cX11_isDryCell : ByteArray := prog_13_method_20_code
def yX11_isDryCell : MethodName := ⟨RX11, "isDryCell", "(II)Z"⟩
abbrev cX11_wetBeside : ByteArray := prog_13_method_21_code
def yX11_wetBeside : MethodName := ⟨RX11, "wetBeside", "(II)I"⟩
abbrev cX11_dryOf : ByteArray := prog_13_method_22_code
def yX11_dryOf : MethodName := ⟨RX11, "dryOf", "(I)I"⟩
abbrev cX11_edgesOf : ByteArray := prog_13_method_23_code
def yX11_edgesOf : MethodName := ⟨RX11, "edgesOf", "(I)I"⟩
abbrev cX11_place : ByteArray := prog_13_method_24_code
def yX11_place : MethodName := ⟨RX11, "place", "(I)I"⟩
abbrev cX11_row : ByteArray := prog_13_method_25_code
def yX11_row : MethodName := ⟨RX11, "row", "(III)Z"⟩
abbrev cX11_purse : ByteArray := prog_13_method_26_code
def yX11_purse : MethodName := ⟨RX11, "purse", "(I)Z"⟩
abbrev cX11_types : ByteArray := prog_13_method_27_code
def yX11_types : MethodName := ⟨RX11, "types", "(I)V"⟩
abbrev cX11_feed : ByteArray := prog_13_method_28_code
def yX11_feed : MethodName := ⟨RX11, "feed", "(IIIII)I"⟩
abbrev cX11_end : ByteArray := prog_13_method_29_code
def yX11_end : MethodName := ⟨RX11, "end", "(I)Z"⟩
abbrev cX11_raw : ByteArray := prog_13_method_30_code
def yX11_raw : MethodName := ⟨RX11, "raw", "(I)I"⟩
abbrev cX11_isLetter : ByteArray := prog_13_method_31_code
def yX11_isLetter : MethodName := ⟨RX11, "isLetter", "(I)Z"⟩
abbrev cX11_isDigit : ByteArray := prog_13_method_32_code
def yX11_isDigit : MethodName := ⟨RX11, "isDigit", "(I)Z"⟩
abbrev cX11_isMarkSign : ByteArray := prog_13_method_33_code
def yX11_isMarkSign : MethodName := ⟨RX11, "isMarkSign", "(I)Z"⟩
abbrev cX11_wordAt : ByteArray := prog_13_method_34_code
def yX11_wordAt : MethodName := ⟨RX11, "wordAt", "(II)I"⟩
abbrev cX11_reads : ByteArray := prog_13_method_35_code
def yX11_reads : MethodName := ⟨RX11, "reads", "()V"⟩
abbrev cX11_errs : ByteArray := prog_13_method_36_code
def yX11_errs : MethodName := ⟨RX11, "errs", "(I)I"⟩
abbrev cX11_isWord : ByteArray := prog_13_method_37_code
def yX11_isWord : MethodName := ⟨RX11, "isWord", "(I)Z"⟩
abbrev cX11_isSign : ByteArray := prog_13_method_38_code
def yX11_isSign : MethodName := ⟨RX11, "isSign", "(I)Z"⟩
abbrev cX11_emits : ByteArray := prog_13_method_39_code
def yX11_emits : MethodName := ⟨RX11, "emits", "(II)V"⟩
abbrev cX11_canAsk : ByteArray := prog_13_method_40_code
def yX11_canAsk : MethodName := ⟨RX11, "canAsk", "(I)Z"⟩
abbrev cX11_readUnit : ByteArray := prog_13_method_41_code
def yX11_readUnit : MethodName := ⟨RX11, "readUnit", "()I"⟩
abbrev cX11_readProduct : ByteArray := prog_13_method_42_code
def yX11_readProduct : MethodName := ⟨RX11, "readProduct", "()I"⟩
abbrev cX11_readSum : ByteArray := prog_13_method_43_code
def yX11_readSum : MethodName := ⟨RX11, "readSum", "()I"⟩
abbrev cX11_readCompared : ByteArray := prog_13_method_44_code
def yX11_readCompared : MethodName := ⟨RX11, "readCompared", "()I"⟩
abbrev cX11_waits : ByteArray := prog_13_method_45_code
def yX11_waits : MethodName := ⟨RX11, "waits", "(I)V"⟩
abbrev cX11_settles : ByteArray := prog_13_method_46_code
def yX11_settles : MethodName := ⟨RX11, "settles", "(I)V"⟩
abbrev cX11_readAny : ByteArray := prog_13_method_47_code
def yX11_readAny : MethodName := ⟨RX11, "readAny", "()I"⟩
abbrev cX11_isLineWord : ByteArray := prog_13_method_48_code
def yX11_isLineWord : MethodName := ⟨RX11, "isLineWord", "()Z"⟩
abbrev cX11_readLaw : ByteArray := prog_13_method_49_code
def yX11_readLaw : MethodName := ⟨RX11, "readLaw", "()I"⟩
abbrev cX11_takesLaw : ByteArray := prog_13_method_50_code
def yX11_takesLaw : MethodName := ⟨RX11, "takesLaw", "(I)V"⟩
abbrev cX11_readNumber : ByteArray := prog_13_method_51_code
def yX11_readNumber : MethodName := ⟨RX11, "readNumber", "(II)I"⟩
abbrev cX11_readMark : ByteArray := prog_13_method_52_code
def yX11_readMark : MethodName := ⟨RX11, "readMark", "(I)I"⟩
abbrev cX11_readTold : ByteArray := prog_13_method_53_code
def yX11_readTold : MethodName := ⟨RX11, "readTold", "(III)I"⟩
abbrev cX11_readOther : ByteArray := prog_13_method_54_code
def yX11_readOther : MethodName := ⟨RX11, "readOther", "(III)I"⟩
abbrev cX11_takesPassage : ByteArray := prog_13_method_55_code
def yX11_takesPassage : MethodName := ⟨RX11, "takesPassage", "(II)V"⟩
abbrev cX11_readPassage : ByteArray := prog_13_method_56_code
def yX11_readPassage : MethodName := ⟨RX11, "readPassage", "()I"⟩
abbrev cX11_readPassages : ByteArray := prog_13_method_57_code
def yX11_readPassages : MethodName := ⟨RX11, "readPassages", "()I"⟩
abbrev cX11_kindOfDeed : ByteArray := prog_13_method_58_code
def yX11_kindOfDeed : MethodName := ⟨RX11, "kindOfDeed", "()I"⟩
abbrev cX11_readDeedMore : ByteArray := prog_13_method_59_code
def yX11_readDeedMore : MethodName := ⟨RX11, "readDeedMore", "(I)I"⟩
abbrev cX11_readDeed : ByteArray := prog_13_method_60_code
def yX11_readDeed : MethodName := ⟨RX11, "readDeed", "(I)I"⟩
abbrev cX11_readDiary : ByteArray := prog_13_method_61_code
def yX11_readDiary : MethodName := ⟨RX11, "readDiary", "()I"⟩
abbrev cX11_readVouch : ByteArray := prog_13_method_62_code
def yX11_readVouch : MethodName := ⟨RX11, "readVouch", "()I"⟩
abbrev cX11_readVouches : ByteArray := prog_13_method_63_code
def yX11_readVouches : MethodName := ⟨RX11, "readVouches", "()I"⟩
abbrev cX11_readsText : ByteArray := prog_13_method_64_code
def yX11_readsText : MethodName := ⟨RX11, "readsText", "(I)I"⟩
abbrev cX11_takesOther : ByteArray := prog_13_method_65_code
def yX11_takesOther : MethodName := ⟨RX11, "takesOther", "(II)V"⟩
abbrev cX11_text : ByteArray := prog_13_method_66_code
def yX11_text : MethodName := ⟨RX11, "text", "(I)I"⟩
abbrev cX11_fault : ByteArray := prog_13_method_67_code
def yX11_fault : MethodName := ⟨RX11, "fault", "(I)I"⟩
abbrev cX11_twoOf : ByteArray := prog_13_method_68_code
def yX11_twoOf : MethodName := ⟨RX11, "twoOf", "(III)I"⟩
abbrev cX11_runs : ByteArray := prog_13_method_69_code
def yX11_runs : MethodName := ⟨RX11, "runs", "(III)I"⟩
abbrev cX11_lineOf : ByteArray := prog_13_method_70_code
def yX11_lineOf : MethodName := ⟨RX11, "lineOf", "(I)I"⟩
abbrev cX11_lightOf : ByteArray := prog_13_method_71_code
def yX11_lightOf : MethodName := ⟨RX11, "lightOf", "(I)I"⟩
abbrev cX11_asks : ByteArray := prog_13_method_72_code
def yX11_asks : MethodName := ⟨RX11, "asks", "(II)V"⟩
abbrev cX11_lawTells : ByteArray := prog_13_method_73_code
def yX11_lawTells : MethodName := ⟨RX11, "lawTells", "(III)I"⟩
abbrev cX11_creepsOf : ByteArray := prog_13_method_74_code
def yX11_creepsOf : MethodName := ⟨RX11, "creepsOf", "(II)I"⟩
abbrev cX11_worthOf : ByteArray := prog_13_method_75_code
def yX11_worthOf : MethodName := ⟨RX11, "worthOf", "(I)I"⟩
abbrev cX11_comesOf : ByteArray := prog_13_method_76_code
def yX11_comesOf : MethodName := ⟨RX11, "comesOf", "(I)I"⟩
abbrev cX11_notes : ByteArray := prog_13_method_77_code
def yX11_notes : MethodName := ⟨RX11, "notes", "(III)V"⟩
abbrev cX11_getsPaid : ByteArray := prog_13_method_78_code
def yX11_getsPaid : MethodName := ⟨RX11, "getsPaid", "(I)V"⟩
abbrev cX11_isTold : ByteArray := prog_13_method_79_code
def yX11_isTold : MethodName := ⟨RX11, "isTold", "(III)Z"⟩
abbrev cX11_canAct : ByteArray := prog_13_method_80_code
def yX11_canAct : MethodName := ⟨RX11, "canAct", "(III)Z"⟩
abbrev cX11_isBought : ByteArray := prog_13_method_81_code
def yX11_isBought : MethodName := ⟨RX11, "isBought", "(I)V"⟩
abbrev cX11_sells : ByteArray := prog_13_method_82_code
def yX11_sells : MethodName := ⟨RX11, "sells", "(I)V"⟩
abbrev cX11_hoses : ByteArray := prog_13_method_83_code
def yX11_hoses : MethodName := ⟨RX11, "hoses", "(II)V"⟩
abbrev cX11_wets : ByteArray := prog_13_method_84_code
def yX11_wets : MethodName := ⟨RX11, "wets", "(II)V"⟩
abbrev cX11_acts : ByteArray := prog_13_method_85_code
def yX11_acts : MethodName := ⟨RX11, "acts", "(III)V"⟩
abbrev cX11_act : ByteArray := prog_13_method_86_code
def yX11_act : MethodName := ⟨RX11, "act", "(III)Z"⟩
abbrev cX11_creepsOn : ByteArray := prog_13_method_87_code
def yX11_creepsOn : MethodName := ⟨RX11, "creepsOn", "(I)I"⟩
abbrev cX11_isShown : ByteArray := prog_13_method_88_code
def yX11_isShown : MethodName := ⟨RX11, "isShown", "(I)Z"⟩
abbrev cX11_goesBy : ByteArray := prog_13_method_89_code
def yX11_goesBy : MethodName := ⟨RX11, "goesBy", "()I"⟩
abbrev cX11_days : ByteArray := prog_13_method_90_code
def yX11_days : MethodName := ⟨RX11, "days", "(I)I"⟩
abbrev cX11_of : ByteArray := prog_13_method_91_code
def yX11_of : MethodName := ⟨RX11, "of", "(II)I"⟩
abbrev cX11_creeps : ByteArray := prog_13_method_92_code
def yX11_creeps : MethodName := ⟨RX11, "creeps", "(II)I"⟩
abbrev cX11_room : ByteArray := prog_13_method_93_code
def yX11_room : MethodName := ⟨RX11, "room", "(II)I"⟩
abbrev cX11_book : ByteArray := prog_13_method_94_code
def yX11_book : MethodName := ⟨RX11, "book", "(II)I"⟩
abbrev cX11_ownedSet : ByteArray := prog_13_method_95_code
def yX11_ownedSet : MethodName := ⟨RX11, "ownedSet", "()I"⟩
abbrev cX11_goes : ByteArray := prog_13_method_96_code
def yX11_goes : MethodName := ⟨RX11, "goes", "(II)I"⟩
abbrev cX11_isBeside : ByteArray := prog_13_method_97_code
def yX11_isBeside : MethodName := ⟨RX11, "isBeside", "(II)Z"⟩
abbrev cX11_findsParts : ByteArray := prog_13_method_98_code
def yX11_findsParts : MethodName := ⟨RX11, "findsParts", "(IZ)V"⟩
abbrev cX11_isAtEdge : ByteArray := prog_13_method_99_code
def yX11_isAtEdge : MethodName := ⟨RX11, "isAtEdge", "(I)Z"⟩
abbrev cX11_comesOut : ByteArray := prog_13_method_100_code
def yX11_comesOut : MethodName := ⟨RX11, "comesOut", "(I)Z"⟩
abbrev cX11_islandsOf : ByteArray := prog_13_method_101_code
def yX11_islandsOf : MethodName := ⟨RX11, "islandsOf", "(I)I"⟩
abbrev cX11_holesOf : ByteArray := prog_13_method_102_code
def yX11_holesOf : MethodName := ⟨RX11, "holesOf", "(I)I"⟩
abbrev cX11_takesOwn : ByteArray := prog_13_method_103_code
def yX11_takesOwn : MethodName := ⟨RX11, "takesOwn", "(I)V"⟩
abbrev cX11_isOwnLeft : ByteArray := prog_13_method_104_code
def yX11_isOwnLeft : MethodName := ⟨RX11, "isOwnLeft", "()Z"⟩
abbrev cX11_shrinks : ByteArray := prog_13_method_105_code
def yX11_shrinks : MethodName := ⟨RX11, "shrinks", "()V"⟩
abbrev cX11_depthOf : ByteArray := prog_13_method_106_code
def yX11_depthOf : MethodName := ⟨RX11, "depthOf", "(I)I"⟩
abbrev cX11_shape : ByteArray := prog_13_method_107_code
def yX11_shape : MethodName := ⟨RX11, "shape", "(II)I"⟩
abbrev cX11_mirrors : ByteArray := prog_13_method_108_code
def yX11_mirrors : MethodName := ⟨RX11, "mirrors", "()V"⟩
abbrev cX11_turnsRight : ByteArray := prog_13_method_109_code
def yX11_turnsRight : MethodName := ⟨RX11, "turnsRight", "()V"⟩
abbrev cX11_pushes : ByteArray := prog_13_method_110_code
def yX11_pushes : MethodName := ⟨RX11, "pushes", "()V"⟩
abbrev cX11_isAim : ByteArray := prog_13_method_111_code
def yX11_isAim : MethodName := ⟨RX11, "isAim", "()Z"⟩
abbrev cX11_turned : ByteArray := prog_13_method_112_code
def yX11_turned : MethodName := ⟨RX11, "turned", "(II)I"⟩
abbrev cX11_isSquare : ByteArray := prog_13_method_113_code
def yX11_isSquare : MethodName := ⟨RX11, "isSquare", "(III)Z"⟩
abbrev cX11_firstSquare : ByteArray := prog_13_method_114_code
def yX11_firstSquare : MethodName := ⟨RX11, "firstSquare", "(II)I"⟩
abbrev cX11_restOf : ByteArray := prog_13_method_115_code
def yX11_restOf : MethodName := ⟨RX11, "restOf", "(II)I"⟩
abbrev cX11_isRound : ByteArray := prog_13_method_116_code
def yX11_isRound : MethodName := ⟨RX11, "isRound", "(III)Z"⟩
abbrev cX11_firstRound : ByteArray := prog_13_method_117_code
def yX11_firstRound : MethodName := ⟨RX11, "firstRound", "(II)I"⟩
abbrev cX11_square : ByteArray := prog_13_method_118_code
def yX11_square : MethodName := ⟨RX11, "square", "(II)I"⟩
abbrev cX11_pushedRow : ByteArray := prog_13_method_119_code
def yX11_pushedRow : MethodName := ⟨RX11, "pushedRow", "(IIII)I"⟩
abbrev cX11_couplesBy : ByteArray := prog_13_method_120_code
def yX11_couplesBy : MethodName := ⟨RX11, "couplesBy", "(IIII)I"⟩
abbrev cX11_fit : ByteArray := prog_13_method_121_code
def yX11_fit : MethodName := ⟨RX11, "fit", "(III)I"⟩
abbrev cX11_stepsBy : ByteArray := prog_13_method_122_code
def yX11_stepsBy : MethodName := ⟨RX11, "stepsBy", "(III)I"⟩
abbrev cX11_beside : ByteArray := prog_13_method_123_code
def yX11_beside : MethodName := ⟨RX11, "beside", "(II)I"⟩
abbrev cX11_comesTo : ByteArray := prog_13_method_124_code
def yX11_comesTo : MethodName := ⟨RX11, "comesTo", "(II)Z"⟩
abbrev cX11_turnsBy : ByteArray := prog_13_method_125_code
def yX11_turnsBy : MethodName := ⟨RX11, "turnsBy", "(III)I"⟩
abbrev cX11_walk : ByteArray := prog_13_method_126_code
def yX11_walk : MethodName := ⟨RX11, "walk", "(IIII)I"⟩
abbrev cX11_sumOf : ByteArray := prog_13_method_127_code
def yX11_sumOf : MethodName := ⟨RX11, "sumOf", "(II)I"⟩
abbrev cX11_areLike : ByteArray := prog_13_method_128_code
def yX11_areLike : MethodName := ⟨RX11, "areLike", "(II)Z"⟩
abbrev cX11_switchOf : ByteArray := prog_13_method_129_code
def yX11_switchOf : MethodName := ⟨RX11, "switchOf", "(I)I"⟩
abbrev cX11_sums : ByteArray := prog_13_method_130_code
def yX11_sums : MethodName := ⟨RX11, "sums", "(II)I"⟩
abbrev cX11_sumOver : ByteArray := prog_13_method_131_code
def yX11_sumOver : MethodName := ⟨RX11, "sumOver", "(IZ)I"⟩
abbrev cX11_buys : ByteArray := prog_13_method_132_code
def yX11_buys : MethodName := ⟨RX11, "buys", "(II)I"⟩
abbrev cX11_findsWays : ByteArray := prog_13_method_133_code
def yX11_findsWays : MethodName := ⟨RX11, "findsWays", "()V"⟩
abbrev cX11_leastTo : ByteArray := prog_13_method_134_code
def yX11_leastTo : MethodName := ⟨RX11, "leastTo", "(III)I"⟩
abbrev cX11_tour : ByteArray := prog_13_method_135_code
def yX11_tour : MethodName := ⟨RX11, "tour", "(II)I"⟩
abbrev cX11_vouchersOf : ByteArray := prog_13_method_136_code
def yX11_vouchersOf : MethodName := ⟨RX11, "vouchersOf", "(I)I"⟩
abbrev cX11_vouched : ByteArray := prog_13_method_137_code
def yX11_vouched : MethodName := ⟨RX11, "vouched", "(I)I"⟩
abbrev cX11_isLie : ByteArray := prog_13_method_138_code
def yX11_isLie : MethodName := ⟨RX11, "isLie", "(II)Z"⟩
abbrev cX11_lie : ByteArray := prog_13_method_139_code
def yX11_lie : MethodName := ⟨RX11, "lie", "(III)I"⟩
abbrev cX11_feet : ByteArray := prog_13_method_140_code
def yX11_feet : MethodName := ⟨RX11, "feet", "(I)I"⟩
abbrev cX11_game : ByteArray := prog_13_method_141_code
def yX11_game : MethodName := ⟨RX11, "game", "(I)I"⟩
abbrev cX11_keeps : ByteArray := prog_13_method_142_code
def yX11_keeps : MethodName := ⟨RX11, "keeps", "(I)I"⟩
abbrev cX11_keepsLaw : ByteArray := prog_13_method_143_code
def yX11_keepsLaw : MethodName := ⟨RX11, "keepsLaw", "()V"⟩
abbrev cX11_keepsTold : ByteArray := prog_13_method_144_code
def yX11_keepsTold : MethodName := ⟨RX11, "keepsTold", "()V"⟩
abbrev cX11_image : ByteArray := prog_13_method_145_code
def yX11_image : MethodName := ⟨RX11, "image", "(Z)Z"⟩
abbrev cX11_look : ByteArray := prog_13_method_146_code
def yX11_look : MethodName := ⟨RX11, "look", "(I)I"⟩
def RJx145de : String := "java/io/Serializable"
def TJx145de : u_T := fun k => match k with
  | _ => ("", "", "", false)
def tyJx145de : Nat → FieldType := fun k => match k with
  | _ => .int
abbrev wsJx145de0 : List Cond := u_ws RJx145de TJx145de 0
theorem nmJx145de : ∀ a, a < 0 → ∀ b, b < 0 → a ≠ b → (TJx145de a).2.1 ≠ (TJx145de b).2.1 := by decide +kernel
theorem tyJx145de_ok : ∀ k, k < 0 → parseFieldDescriptor (TJx145de k).2.2.1 = some (tyJx145de k) := by decide +kernel
def RJx9f9b0 : String := "java/lang/CharSequence"
def TJx9f9b0 : u_T := fun k => match k with
  | _ => ("", "", "", false)
def tyJx9f9b0 : Nat → FieldType := fun k => match k with
  | _ => .int
abbrev wsJx9f9b00 : List Cond := u_ws RJx9f9b0 TJx9f9b0 0
theorem nmJx9f9b0 : ∀ a, a < 0 → ∀ b, b < 0 → a ≠ b → (TJx9f9b0 a).2.1 ≠ (TJx9f9b0 b).2.1 := by decide +kernel
theorem tyJx9f9b0_ok : ∀ k, k < 0 → parseFieldDescriptor (TJx9f9b0 k).2.2.1 = some (tyJx9f9b0 k) := by decide +kernel
def RJ11 : String := "java/lang/Character"
def TJ11 : u_T := fun k => match k with
  | _ => ("", "", "", false)
def tyJ11 : Nat → FieldType := fun k => match k with
  | _ => .int
abbrev wsJ110 : List Cond := u_ws RJ11 TJ11 0
theorem nmJ11 : ∀ a, a < 0 → ∀ b, b < 0 → a ≠ b → (TJ11 a).2.1 ≠ (TJ11 b).2.1 := by decide +kernel
theorem tyJ11_ok : ∀ k, k < 0 → parseFieldDescriptor (TJ11 k).2.2.1 = some (tyJ11 k) := by decide +kernel
abbrev cJ11_isValidCodePoint_9a6ad : ByteArray := prog_14_method_11_code
def yJ11_isValidCodePoint_9a6ad : MethodName := ⟨RJ11, "isValidCodePoint", "(I)Z"⟩
abbrev cJ11_highSurrogate_5068e : ByteArray := prog_14_method_28_code
def yJ11_highSurrogate_5068e : MethodName := ⟨RJ11, "highSurrogate", "(I)C"⟩
abbrev cJ11_lowSurrogate_5068e : ByteArray := prog_14_method_29_code
def yJ11_lowSurrogate_5068e : MethodName := ⟨RJ11, "lowSurrogate", "(I)C"⟩
def RJxb160c : String := "java/lang/Comparable"
def TJxb160c : u_T := fun k => match k with
  | _ => ("", "", "", false)
def tyJxb160c : Nat → FieldType := fun k => match k with
  | _ => .int
abbrev wsJxb160c0 : List Cond := u_ws RJxb160c TJxb160c 0
theorem nmJxb160c : ∀ a, a < 0 → ∀ b, b < 0 → a ≠ b → (TJxb160c a).2.1 ≠ (TJxb160c b).2.1 := by decide +kernel
theorem tyJxb160c_ok : ∀ k, k < 0 → parseFieldDescriptor (TJxb160c k).2.2.1 = some (tyJxb160c k) := by decide +kernel
def RJ13 : String := "java/lang/Long"
def TJ13 : u_T := fun k => match k with
  | _ => ("", "", "", false)
def tyJ13 : Nat → FieldType := fun k => match k with
  | _ => .int
abbrev wsJ130 : List Cond := u_ws RJ13 TJ13 0
theorem nmJ13 : ∀ a, a < 0 → ∀ b, b < 0 → a ≠ b → (TJ13 a).2.1 ≠ (TJ13 b).2.1 := by decide +kernel
theorem tyJ13_ok : ∀ k, k < 0 → parseFieldDescriptor (TJ13 k).2.2.1 = some (tyJ13 k) := by decide +kernel
abbrev cJ13_bitCount_95d88 : ByteArray := prog_15_method_50_code
def yJ13_bitCount_95d88 : MethodName := ⟨RJ13, "bitCount", "(J)I"⟩
def RJ9 : String := "java/lang/Math"
def TJ9 : u_T := fun k => match k with
  | _ => ("", "", "", false)
def tyJ9 : Nat → FieldType := fun k => match k with
  | _ => .int
abbrev wsJ90 : List Cond := u_ws RJ9 TJ9 0
theorem nmJ9 : ∀ a, a < 0 → ∀ b, b < 0 → a ≠ b → (TJ9 a).2.1 ≠ (TJ9 b).2.1 := by decide +kernel
theorem tyJ9_ok : ∀ k, k < 0 → parseFieldDescriptor (TJ9 k).2.2.1 = some (tyJ9 k) := by decide +kernel
abbrev cJ9_abs_0f7a4 : ByteArray := prog_16_method_59_code
def yJ9_abs_0f7a4 : MethodName := ⟨RJ9, "abs", "(I)I"⟩
abbrev cJ9_max_7cf53 : ByteArray := prog_16_method_65_code
def yJ9_max_7cf53 : MethodName := ⟨RJ9, "max", "(II)I"⟩
abbrev cJ9_min_7cf53 : ByteArray := prog_16_method_69_code
def yJ9_min_7cf53 : MethodName := ⟨RJ9, "min", "(II)I"⟩
def RJ0 : String := "java/lang/String"
def TJ0 : u_T := fun k => match k with
  | _ => ("", "", "", false)
def tyJ0 : Nat → FieldType := fun k => match k with
  | _ => .int
abbrev wsJ00 : List Cond := u_ws RJ0 TJ0 0
theorem nmJ0 : ∀ a, a < 0 → ∀ b, b < 0 → a ≠ b → (TJ0 a).2.1 ≠ (TJ0 b).2.1 := by decide +kernel
theorem tyJ0_ok : ∀ k, k < 0 → parseFieldDescriptor (TJ0 k).2.2.1 = some (tyJ0 k) := by decide +kernel
abbrev cJ0_length_8abf5 : ByteArray := prog_17_method_54_code
def yJ0_length_8abf5 : MethodName := ⟨RJ0, "length", "()I"⟩
abbrev cJ0_charAt_5068e : ByteArray := prog_17_method_56_code
def yJ0_charAt_5068e : MethodName := ⟨RJ0, "charAt", "(I)C"⟩
abbrev cJ0_indexOf_0f7a4 : ByteArray := prog_17_method_79_code
def yJ0_indexOf_0f7a4 : MethodName := ⟨RJ0, "indexOf", "(I)I"⟩
abbrev cJ0_indexOf_7cf53 : ByteArray := prog_17_method_80_code
def yJ0_indexOf_7cf53 : MethodName := ⟨RJ0, "indexOf", "(II)I"⟩
abbrev cJ0_coder_7d493 : ByteArray := prog_17_method_152_code
def yJ0_coder_7d493 : MethodName := ⟨RJ0, "coder", "()B"⟩
abbrev cJ0_isLatin1_aae02 : ByteArray := prog_17_method_154_code
def yJ0_isLatin1_aae02 : MethodName := ⟨RJ0, "isLatin1", "()Z"⟩
abbrev cJ0_checkIndex_df160 : ByteArray := prog_17_method_155_code
def yJ0_checkIndex_df160 : MethodName := ⟨RJ0, "checkIndex", "(II)V"⟩
abbrev cJ0_checkBoundsBeginEnd_23922 : ByteArray := prog_17_method_158_code
def yJ0_checkBoundsBeginEnd_23922 : MethodName := ⟨RJ0, "checkBoundsBeginEnd", "(III)V"⟩
def RJ1 : String := "java/lang/StringLatin1"
def TJ1 : u_T := fun k => match k with
  | _ => ("", "", "", false)
def tyJ1 : Nat → FieldType := fun k => match k with
  | _ => .int
abbrev wsJ10 : List Cond := u_ws RJ1 TJ1 0
theorem nmJ1 : ∀ a, a < 0 → ∀ b, b < 0 → a ≠ b → (TJ1 a).2.1 ≠ (TJ1 b).2.1 := by decide +kernel
theorem tyJ1_ok : ∀ k, k < 0 → parseFieldDescriptor (TJ1 k).2.2.1 = some (tyJ1 k) := by decide +kernel
abbrev cJ1_charAt_3b067 : ByteArray := prog_18_method_2_code
def yJ1_charAt_3b067 : MethodName := ⟨RJ1, "charAt", "([BI)C"⟩
abbrev cJ1_canEncode_9a6ad : ByteArray := prog_18_method_4_code
def yJ1_canEncode_9a6ad : MethodName := ⟨RJ1, "canEncode", "(I)Z"⟩
abbrev cJ1_indexOf_4cfef : ByteArray := prog_18_method_22_code
def yJ1_indexOf_4cfef : MethodName := ⟨RJ1, "indexOf", "([BIII)I"⟩
abbrev cJ1_indexOfChar_4cfef : ByteArray := prog_18_method_23_code
def yJ1_indexOfChar_4cfef : MethodName := ⟨RJ1, "indexOfChar", "([BIII)I"⟩
def RJ2 : String := "java/lang/StringUTF16"
def TJ2 : u_T := fun k => match k with
  | _ => ("", "", "", false)
def tyJ2 : Nat → FieldType := fun k => match k with
  | _ => .int
abbrev wsJ20 : List Cond := u_ws RJ2 TJ2 0
theorem nmJ2 : ∀ a, a < 0 → ∀ b, b < 0 → a ≠ b → (TJ2 a).2.1 ≠ (TJ2 b).2.1 := by decide +kernel
theorem tyJ2_ok : ∀ k, k < 0 → parseFieldDescriptor (TJ2 k).2.2.1 = some (tyJ2 k) := by decide +kernel
abbrev cJ2_getChar_3b067 : ByteArray := prog_19_method_5_code
def yJ2_getChar_3b067 : MethodName := ⟨RJ2, "getChar", "([BI)C"⟩
abbrev cJ2_length_9d52b : ByteArray := prog_19_method_6_code
def yJ2_length_9d52b : MethodName := ⟨RJ2, "length", "([B)I"⟩
abbrev cJ2_indexOf_4cfef : ByteArray := prog_19_method_40_code
def yJ2_indexOf_4cfef : MethodName := ⟨RJ2, "indexOf", "([BIII)I"⟩
abbrev cJ2_indexOfChar_4cfef : ByteArray := prog_19_method_47_code
def yJ2_indexOfChar_4cfef : MethodName := ⟨RJ2, "indexOfChar", "([BIII)I"⟩
abbrev cJ2_indexOfCharUnsafe_4cfef : ByteArray := prog_19_method_48_code
def yJ2_indexOfCharUnsafe_4cfef : MethodName := ⟨RJ2, "indexOfCharUnsafe", "([BIII)I"⟩
abbrev cJ2_indexOfSupplementary_4cfef : ByteArray := prog_19_method_49_code
def yJ2_indexOfSupplementary_4cfef : MethodName := ⟨RJ2, "indexOfSupplementary", "([BIII)I"⟩
abbrev cJ2_charAt_3b067 : ByteArray := prog_19_method_83_code
def yJ2_charAt_3b067 : MethodName := ⟨RJ2, "charAt", "([BI)C"⟩
abbrev cJ2_checkIndex_2214a : ByteArray := prog_19_method_91_code
def yJ2_checkIndex_2214a : MethodName := ⟨RJ2, "checkIndex", "(I[B)V"⟩
abbrev cJ2_checkBoundsBeginEnd_d044e : ByteArray := prog_19_method_93_code
def yJ2_checkBoundsBeginEnd_d044e : MethodName := ⟨RJ2, "checkBoundsBeginEnd", "(II[B)V"⟩
def RJ10 : String := "java/lang/System"
def TJ10 : u_T := fun k => match k with
  | _ => ("", "", "", false)
def tyJ10 : Nat → FieldType := fun k => match k with
  | _ => .int
abbrev wsJ100 : List Cond := u_ws RJ10 TJ10 0
theorem nmJ10 : ∀ a, a < 0 → ∀ b, b < 0 → a ≠ b → (TJ10 a).2.1 ≠ (TJ10 b).2.1 := by decide +kernel
theorem tyJ10_ok : ∀ k, k < 0 → parseFieldDescriptor (TJ10 k).2.2.1 = some (tyJ10 k) := by decide +kernel
def RJxfd54e : String := "java/lang/constant/Constable"
def TJxfd54e : u_T := fun k => match k with
  | _ => ("", "", "", false)
def tyJxfd54e : Nat → FieldType := fun k => match k with
  | _ => .int
abbrev wsJxfd54e0 : List Cond := u_ws RJxfd54e TJxfd54e 0
theorem nmJxfd54e : ∀ a, a < 0 → ∀ b, b < 0 → a ≠ b → (TJxfd54e a).2.1 ≠ (TJxfd54e b).2.1 := by decide +kernel
theorem tyJxfd54e_ok : ∀ k, k < 0 → parseFieldDescriptor (TJxfd54e k).2.2.1 = some (tyJxfd54e k) := by decide +kernel
def RJx3cf43 : String := "java/lang/constant/ConstantDesc"
def TJx3cf43 : u_T := fun k => match k with
  | _ => ("", "", "", false)
def tyJx3cf43 : Nat → FieldType := fun k => match k with
  | _ => .int
abbrev wsJx3cf430 : List Cond := u_ws RJx3cf43 TJx3cf43 0
theorem nmJx3cf43 : ∀ a, a < 0 → ∀ b, b < 0 → a ≠ b → (TJx3cf43 a).2.1 ≠ (TJx3cf43 b).2.1 := by decide +kernel
theorem tyJx3cf43_ok : ∀ k, k < 0 → parseFieldDescriptor (TJx3cf43 k).2.2.1 = some (tyJx3cf43 k) := by decide +kernel
def RJ7 : String := "java/util/Arrays"
def TJ7 : u_T := fun k => match k with
  | _ => ("", "", "", false)
def tyJ7 : Nat → FieldType := fun k => match k with
  | _ => .int
abbrev wsJ70 : List Cond := u_ws RJ7 TJ7 0
theorem nmJ7 : ∀ a, a < 0 → ∀ b, b < 0 → a ≠ b → (TJ7 a).2.1 ≠ (TJ7 b).2.1 := by decide +kernel
theorem tyJ7_ok : ∀ k, k < 0 → parseFieldDescriptor (TJ7 k).2.2.1 = some (tyJ7 k) := by decide +kernel
abbrev cJ7_fill_53178 : ByteArray := prog_21_method_103_code
def yJ7_fill_53178 : MethodName := ⟨RJ7, "fill", "([II)V"⟩
def RJ3 : String := "jdk/internal/util/Preconditions"
def TJ3 : u_T := fun k => match k with
  | _ => ("", "", "", false)
def tyJ3 : Nat → FieldType := fun k => match k with
  | _ => .int
abbrev wsJ30 : List Cond := u_ws RJ3 TJ3 0
theorem nmJ3 : ∀ a, a < 0 → ∀ b, b < 0 → a ≠ b → (TJ3 a).2.1 ≠ (TJ3 b).2.1 := by decide +kernel
theorem tyJ3_ok : ∀ k, k < 0 → parseFieldDescriptor (TJ3 k).2.2.1 = some (tyJ3 k) := by decide +kernel
abbrev cJ3_checkIndex_8e157 : ByteArray := prog_22_method_11_code
def yJ3_checkIndex_8e157 : MethodName := ⟨RJ3, "checkIndex", "(IILjava/util/function/BiFunction;)I"⟩
abbrev cJ3_checkFromToIndex_8c36e : ByteArray := prog_22_method_12_code
def yJ3_checkFromToIndex_8c36e : MethodName := ⟨RJ3, "checkFromToIndex", "(IIILjava/util/function/BiFunction;)I"⟩
def RL : String := "DryPlacesLaw"
abbrev cL_law : ByteArray := code
def yL_law : MethodName := ⟨RL, "law", "([I)Z"⟩
abbrev vwCl : List vw_C := [(RX1, TX1, 5), (RX2, TX2, 8), (RX3, TX3, 7), (RX4, TX4, 3), (RX5, TX5, 6), (RX6, TX6, 3), (RX7, TX7, 5), (RX8, TX8, 2), (RX9, TX9, 13), (RX10, TX10, 16), (RX11, TX11, 55)]
end
section
/-- which slots of a class hold references, by its place in vwCl -/
def gk_bsT : List (List Bool) := [[true, true, true, true, true], [false, false, true, true, true, true, true, true], [true, true, false, false, false, false, false], [true, false, false], [true, true, true, true, false, false], [true, true, true], [true, true, true, true, true], [true, true], [false, false, false, false, false, false, false, false, true, true, true, true, true], [true, true, true, true, true, true, true, true, true, true, true, true, true, true, true, false], [false, true, true, false, true, false, false, true, true, true, false, false, false, false, false, true, true, true, true, true, true, true, true, false, false, false, true, false, false, false, false, false, false, true, false, true, false, true, true, true, true, true, true, true, true, true, true, true, true, true, true, false, false, false, true]]
def gk_bs (ci : Nat) : List Bool := gk_bsT.getD ci []
/-- the nest links, which no list of good words may hold -/
def gk_nest : List Cond := [(Jvm.Cond.methodLinkNest "DryPlaces" (18 : Nat) ({ cls := "DryPlaces$Texts", name := "<init>", desc := "()V" } : Jvm.MethodName) "DryPlaces"), (Jvm.Cond.methodLinkNest "DryPlaces$Texts" (11 : Nat) ({ cls := "DryPlaces$Law", name := "<init>", desc := "()V" } : Jvm.MethodName) "DryPlaces"), (Jvm.Cond.methodLinkNest "DryPlaces" (36 : Nat) ({ cls := "DryPlaces$Tape", name := "<init>", desc := "()V" } : Jvm.MethodName) "DryPlaces"), (Jvm.Cond.methodLinkNest "DryPlaces$Parser" (11 : Nat) ({ cls := "DryPlaces$Texts", name := "<init>", desc := "()V" } : Jvm.MethodName) "DryPlaces"), (Jvm.Cond.methodLinkNest "DryPlaces" (80 : Nat) ({ cls := "DryPlaces$Tour", name := "<init>", desc := "()V" } : Jvm.MethodName) "DryPlaces"), (Jvm.Cond.methodLinkNest "DryPlaces$Keeper" (30 : Nat) ({ cls := "DryPlaces", name := "isRoom", desc := "(I)Z" } : Jvm.MethodName) "DryPlaces"), (Jvm.Cond.methodLinkNest "DryPlaces$Keeper" (34 : Nat) ({ cls := "DryPlaces", name := "isWithin", desc := "(III)Z" } : Jvm.MethodName) "DryPlaces"), (Jvm.Cond.methodLinkNest "DryPlaces$Teller" (64 : Nat) ({ cls := "DryPlaces", name := "isRoom", desc := "(I)Z" } : Jvm.MethodName) "DryPlaces"), (Jvm.Cond.methodLinkNest "DryPlaces$Keeper" (56 : Nat) ({ cls := "DryPlaces", name := "isCell", desc := "(I)Z" } : Jvm.MethodName) "DryPlaces"), (Jvm.Cond.methodLinkNest "DryPlaces$Parser" (83 : Nat) ({ cls := "DryPlaces", name := "isWithin", desc := "(III)Z" } : Jvm.MethodName) "DryPlaces"), (Jvm.Cond.methodLinkNest "DryPlaces$Ground" (67 : Nat) ({ cls := "DryPlaces", name := "isWithin", desc := "(III)Z" } : Jvm.MethodName) "DryPlaces")]
def gk_tx0 : String := "creeps worth comes when or and not dry edges year light room hosed paid day wet long on buy sell hang in hose place by "
def gk_tx1 : String := ";+-*/()<=>"
def gk_by0 : List Int32 := [99, 114, 101, 101, 112, 115, 32, 119, 111, 114, 116, 104, 32, 99, 111, 109, 101, 115, 32, 119, 104, 101, 110, 32, 111, 114, 32, 97, 110, 100, 32, 110, 111, 116, 32, 100, 114, 121, 32, 101, 100, 103, 101, 115, 32, 121, 101, 97, 114, 32, 108, 105, 103, 104, 116, 32, 114, 111, 111, 109, 32, 104, 111, 115, 101, 100, 32, 112, 97, 105, 100, 32, 100, 97, 121, 32, 119, 101, 116, 32, 108, 111, 110, 103, 32, 111, 110, 32, 98, 117, 121, 32, 115, 101, 108, 108, 32, 104, 97, 110, 103, 32, 105, 110, 32, 104, 111, 115, 101, 32, 112, 108, 97, 99, 101, 32, 98, 121, 32]
def gk_by1 : List Int32 := [59, 43, 45, 42, 47, 40, 41, 60, 61, 62]
def gk_len : List Nat := [119, 10]
def gk_byt : List (List Int32) := [gk_by0, gk_by1]
end
section
/-! GK: an abstract machine (objects by their number, rows of numbers as functions) over the kit's rows.
 A cell: (tag, number, references): tag 0 an object of class 'number' of vwCl, 1 int[], 2 char[], 3 long[] of 'number' places, else World[].
 The numbers of a heap: fields, int (and char) rows, long rows, by the cell's number. -/
abbrev gk_K : Type := Nat × Nat × List (Option Nat)
abbrev gk_G : Type := List gk_K
abbrev gk_H : Type := (Nat → Nat → Int32) × (Nat → Nat → Int32) × (Nat → Nat → Int64)
abbrev gk_L : Type := List (Option Value)
/-- a method: its name, bytes, locals, answer -/
abbrev gk_J : Type := MethodName × ByteArray × Nat × Option FieldType
/-- the script: how long (and whether a static of the JDK's is a reference), what -/
abbrev gk_E : Type := (Nat × Bool) × (Nat → Int32)
def gk_TT : List Cond := lw_tbl.filter goodWord
theorem gk_TT_in {w : Cond} (h : w ∈ gk_TT) : w ∈ lw_tbl := (List.mem_filter.mp h).1
theorem gk_TT_of {w : Cond} (h : w ∈ lw_tbl) (g : goodWord w = true) : w ∈ gk_TT := List.mem_filter.mpr ⟨h, g⟩
theorem gk_TT_good {w : Cond} (h : w ∈ gk_TT) : (w.onTables && w.keeps) = true ∨ ∃ ty, w = .arrayClass ty := good_of_word (List.mem_filter.mp h).2
def gk_wd (J : gk_J) : List Cond := .code J.1 J.2.1 J.2.2.1 J.2.2.2 :: gk_TT
def gk_rm (d mc ms : Nat) : Room := { frames := d, cells := mc, slots := ms, locals := 60 * d }
/-- number to address: the own cells from base on; what was there before (read alone) from 1000000 on -/
def gk_ad (base : Nat) (ro : Nat → Nat) (k : Nat) : Nat := if k < 1000000 then base + k else ro (k - 1000000)
def gk_v (ad : Nat → Nat) (v : Value) : Value := match v with
  | .ref k => .ref (ad k)
  | .int x => .int x
  | .long x => .long x
  | .null => .null
  | w => w
def gk_fs (ad : Nat → Nat) (bs : List Bool) (rs : List (Option Nat)) (f : Nat → Int32) : List Value := bs.mapIdx (fun i b => bif b then va_rf ((rs.getD i none).map ad) else .int (f i))
def gk_cell (ad : Nat → Nat) (cs : Nat → ClassId) (κ : gk_K) (f a : Nat → Int32) (b : Nat → Int64) : va_E := match κ.1 with
  | 0 => .inr (κ.2.1, gk_fs ad (gk_bs κ.2.1) κ.2.2 f)
  | 1 => .inl (cs 0, κ.2.1, .inl a)
  | 2 => .inl (cs 1, κ.2.1, .inl a)
  | 3 => .inl (cs 2, κ.2.1, .inr (.inl b))
  | _ => .inl (cs 3, κ.2.1, .inr (.inr (.inr (.inr (fun i => (κ.2.2.getD i none).map ad)))))
def gk_ws (base : Nat) (ad : Nat → Nat) (cs : Nat → ClassId) (Γ : gk_G) (h : gk_H) : va_W := Γ.mapIdx (fun k κ => (base + k, gk_cell ad cs κ (h.1 k) (h.2.1 k) (h.2.2 k)))
def gk_tys (cs : Nat → ClassId) : List (ClassId × FieldType) := [(cs 0, .int), (cs 1, .char), (cs 2, .long), (cs 3, .object "DryPlaces$World")]
abbrev gk_A (base : Nat) : Nat → Prop := fun q => base ≤ q
/-- what was there before and is read alone: the script, two texts, a static, the nest links, the class of World[] -/
def gk_RO (E : gk_E) (base : Nat) (ro : Nat → Nat) (U : State) (H : Heap) : Prop :=
  (va_X (ro 0) E.1.1 E.2 U H ∧ ro 0 < base) ∧ vk_S 2 gk_len gk_byt (fun i => ro (1 + i)) (fun i => ro (3 + i)) (gk_A base) U H ∧ (vk_R "DryPlaces$Tape" 57 gk_tx0 (ro 1) U ∧ vk_R "DryPlaces$Tape" 49 gk_tx1 (ro 2) U) ∧ (va_Z "java/lang/String" "COMPACT_STRINGS" "Z" (.int 1) (gk_A base) U H ∧ va_Z "jdk/internal/util/Preconditions" "SIOOBE_FORMATTER" "Ljava/util/function/BiFunction;" (bif E.1.2 then .ref (ro 5) else .null) (gk_A base) U H) ∧ (∀ w ∈ gk_nest, va_Nw w U) ∧ va_AO "DryPlaces$World" U
def gk_rel (base : Nat) (ro : Nat → Nat) (cs : Nat → ClassId) (D : va_G) (Γ : gk_G) (h : gk_H) (H : Heap) : Prop := Γ.length ≤ 1000000 ∧ va_P D vwCl (gk_ws base (gk_ad base ro) cs Γ h) H
def gk_Ls (ad : Nat → Nat) (ls : Array Slot) (n : Nat) (L : gk_L) : Prop := ls.size = n ∧ L.length = n ∧ lv_wf ls ∧ ∀ (i : Nat) (v : Value), L[i]? = some (some v) → ls[i]? = some (.val (gk_v ad v))
/-- what holds in a method's body: machine, code, tables' words, room, what is read alone -/
def gk_X (M : Nat → gk_J) (E : gk_E) (d j : Nat) (cf : Bool) (mc ms : Nat) (p : Program) (R : Room) (s : State) (m : MethodId) (args : Array Value) (meth : Method) (c : Code) (base : Nat) (ro : Nat → Nat) (cs : Nat → ClassId) (D : va_G) : Prop :=
  p.tables.exec = Jvm.exec ∧ c.code = (M j).2.1 ∧ c.maxLocals = (M j).2.2.1 ∧ s.vm.findClass (M j).1.cls = some m.cls ∧ (∀ w ∈ gk_TT, w.before args s = true) ∧ (cf = true → meth.name = "<init>") ∧ (d ≤ R.frames ∧ 60 * d ≤ R.locals ∧ mc ≤ R.cells ∧ ms ≤ R.slots) ∧ va_K D vwCl (gk_tys cs) s ∧ gk_RO E base ro s s.heap ∧ base ≤ s.heap.size
def gk_ri (r : Option FieldType) : Instr := match r with
  | none => .return_
  | some .long => .lreturn
  | _ => .ireturn
/-- an answer is of the method's kind -/
def gk_rok (r : Option FieldType) (v : Option Value) : Prop := match r, v with
  | none, none => True
  | some .int, some (.int _) => True
  | some .long, some (.long _) => True
  | some .long, some (.int _) => False
  | some ty, some (.int x) => narrow ty (.int x) = .int x
  | _, _ => False
/-- how the body's end is met -/
def gk_Ret (M : Nat → gk_J) (j mc ms : Nat) (Γe : gk_G) (Q : Option Value → gk_H → Prop) (p : Program) (l : Launch) (e : Env) (R : Room) (s : State) (m : MethodId) (args : Array Value) (below : List Frame) (meth : Method) (c : Code) (base : Nat) (ro : Nat → Nat) (cs : Nat → ClassId) (D : va_G) (QF : State → Prop) : Prop :=
  ∀ (pc : Nat) (ls : Array Slot) (H : Heap) (locs : List Loc) (v : Option Value) (h : gk_H), Q v h → gk_rel base ro cs D Γe h H → va_S (gk_A base) s.heap H locs → gk_rok (M j).2.2.2 v → decode (M j).2.1 pc = .ok (gk_ri (M j).2.2.2, 1) → W p l e R s m args below meth c H locs mc ms QF (F0 m pc ls (v.toList.map (gk_v (gk_ad base ro))))
/-- THE JUDGEMENT: wherever the machine stands so, it comes to the end with Q -/
def gk_Go (M : Nat → gk_J) (E : gk_E) (d j : Nat) (cf : Bool) (mc ms : Nat) (Γe : gk_G) (Q : Option Value → gk_H → Prop) (pc : Nat) (L : gk_L) (st : List Value) (Γ : gk_G) (h : gk_H) (nc ns : Nat) : Prop :=
  ∀ (p : Program) (l : Launch) (e : Env) (R : Room) (s : State) (m : MethodId) (args : Array Value) (below : List Frame) (meth : Method) (c : Code) (base : Nat) (ro : Nat → Nat) (cs : Nat → ClassId) (D : va_G) (QF : State → Prop) (H : Heap) (locs : List Loc) (ls : Array Slot),
    gk_X M E d j cf mc ms p R s m args meth c base ro cs D → gk_Ret M j mc ms Γe Q p l e R s m args below meth c base ro cs D QF → gk_rel base ro cs D Γ h H → va_S (gk_A base) s.heap H locs → gk_Ls (gk_ad base ro) ls (M j).2.2.1 L → s.heap.size + nc = base + Γ.length → W p l e R s m args below meth c H locs nc ns QF (F0 m pc ls (st.map (gk_v (gk_ad base ro))))
/-- a method's start and end, over the machine -/
def gk_Pc (E : gk_E) (base : Nat) (ro : Nat → Nat) (cs : Nat → ClassId) (D : va_G) (av : List Value) (Γ : gk_G) (h : gk_H) : Array Value → State → Prop := va_Pc (av.map (gk_v (gk_ad base ro))) (fun U => U.heap.size = base + Γ.length ∧ gk_rel base ro cs D Γ h U.heap ∧ va_K D vwCl (gk_tys cs) U ∧ gk_RO E base ro U U.heap)
def gk_Qc (base : Nat) (ro : Nat → Nat) (cs : Nat → ClassId) (D : va_G) (Γe : gk_G) (Q : Option Value → gk_H → Prop) : Array Value → State → Outcome → State → Prop := fun _ st o t => (∃ (v : Option Value) (h : gk_H), o = .returned (v.map (gk_v (gk_ad base ro))) ∧ Q v h ∧ gk_rel base ro cs D Γe h t.heap) ∧ va_F (gk_A base) st t
/-- A CONTRACT: method j at depth d, from the arguments av and the heap Γ, h -/
def gk_Con (M : Nat → gk_J) (E : gk_E) (d j : Nat) (av : List Value) (Γ Γe : gk_G) (h : gk_H) (mc ms : Nat) (Q : Option Value → gk_H → Prop) : Prop :=
  ∀ (l : Launch) (base : Nat) (ro : Nat → Nat) (cs : Nat → ClassId) (D : va_G), Met l (M j).1 (gk_wd (M j)) (gk_rm d mc ms) (gk_Pc E base ro cs D av Γ h) (gk_Qc base ro cs D Γe Q) mc ms (gk_A base)
/-- the locals with which a method begins -/
def gk_sl : List Value → gk_L
  | [] => []
  | .long x :: vs => some (.long x) :: none :: gk_sl vs
  | v :: vs => some v :: gk_sl vs
def gk_L0 (av : List Value) (n : Nat) : gk_L := gk_sl av ++ List.replicate (n - (gk_sl av).length) none
def gk_one1 (v : Value) : Bool := match v with
  | .long _ => true
  | .double _ => false
  | _ => true
theorem gk_cat (ad : Nat → Nat) (v : Value) : (gk_v ad v).category = v.category := by cases v <;> rfl
theorem gk_ws_get {base : Nat} {ad : Nat → Nat} {cs : Nat → ClassId} {Γ : gk_G} {h : gk_H} {k : Nat} {κ : gk_K} (hk : Γ[k]? = some κ) : (gk_ws base ad cs Γ h)[k]? = some (base + k, gk_cell ad cs κ (h.1 k) (h.2.1 k) (h.2.2 k)) := by
  rw [gk_ws, List.getElem?_mapIdx, hk]; rfl
theorem gk_ws_D {base : Nat} {ad : Nat → Nat} {cs : Nat → ClassId} {Γ : gk_G} {h : gk_H} : va_D (gk_A base) (gk_ws base ad cs Γ h) := by
  have key : ∀ (i : Nat) (q : Nat × va_E), (gk_ws base ad cs Γ h)[i]? = some q → q.1 = base + i := by
    intro i q hq
    rw [gk_ws, List.getElem?_mapIdx] at hq
    cases hg : Γ[i]? with
    | none => rw [hg] at hq; cases hq
    | some κ => rw [hg] at hq; cases hq; rfl
  refine ⟨fun i j p q hi hj e => ?_, fun k q hk => ?_⟩
  · have h1 := key i p hi
    have h2 := key j q hj
    omega
  · show base ≤ q.1
    rw [key k q hk]; omega
/-- one cell's contents changed -/
theorem gk_ws_set {base : Nat} {ad : Nat → Nat} {cs : Nat → ClassId} {Γ Γ' : gk_G} {h h' : gk_H} {k : Nat} {κ κ' : gk_K} (hk : Γ[k]? = some κ) (hΓ : Γ' = Γ.set k κ') (hh : ∀ q, q ≠ k → h'.1 q = h.1 q ∧ h'.2.1 q = h.2.1 q ∧ h'.2.2 q = h.2.2 q) :
    (gk_ws base ad cs Γ h).set k (base + k, gk_cell ad cs κ' (h'.1 k) (h'.2.1 k) (h'.2.2 k)) = gk_ws base ad cs Γ' h' := by
  subst hΓ
  have hl : k < Γ.length := (List.getElem?_eq_some_iff.mp hk).1
  refine List.ext_getElem? fun i => ?_
  by_cases hi : i = k
  · subst hi
    rw [List.getElem?_set_self (by rw [gk_ws, List.length_mapIdx]; exact hl), gk_ws_get (κ := κ') (List.getElem?_set_self hl)]
  · rw [List.getElem?_set_ne (Ne.symm hi), gk_ws, gk_ws, List.getElem?_mapIdx, List.getElem?_mapIdx, List.getElem?_set_ne (Ne.symm hi)]
    obtain ⟨e1, e2, e3⟩ := hh i hi
    rw [e1, e2, e3]
theorem gk_set_self {Γ : gk_G} {k : Nat} {κ : gk_K} (hk : Γ[k]? = some κ) : Γ = Γ.set k κ := by
  refine List.ext_getElem? fun i => ?_
  have hl : k < Γ.length := (List.getElem?_eq_some_iff.mp hk).1
  by_cases hi : i = k
  · subst hi; rw [List.getElem?_set_self hl, hk]
  · rw [List.getElem?_set_ne (Ne.symm hi)]
theorem gk_RO.kept {E : gk_E} {base : Nat} {ro : Nat → Nat} {U : State} {H H1 : Heap} (h : gk_RO E base ro U H) (hq : ∀ a : Nat, a < H.size → ¬ gk_A base a → H1[a]? = H[a]?) : gk_RO E base ro U H1 := by
  obtain ⟨⟨h1, h1b⟩, h2, h3, h4, h5, h6⟩ := h
  have hl : ro 0 < H.size := by obtain ⟨scr, e, -⟩ := h1; exact (Array.getElem?_eq_some_iff.mp e).1
  exact ⟨⟨h1.kept (hq _ hl (Nat.not_le.mpr h1b)), h1b⟩, h2.kept hq, h3, ⟨h4.1.kept hq, h4.2.kept hq⟩, h5, h6⟩
end
section
theorem gk_nest_is : ∀ w ∈ gk_nest, ∃ (a : String) (i : Nat) (x : MethodName) (h : String), w = .methodLinkNest a i x h := by
  intro w hw
  simp only [gk_nest, List.mem_cons, List.not_mem_nil, or_false] at hw
  rcases hw with rfl | rfl | rfl | rfl | rfl | rfl | rfl | rfl | rfl | rfl | rfl <;> exact ⟨_, _, _, _, rfl⟩
theorem gk_RO.warm {E : gk_E} {base : Nat} {ro : Nat → Nat} {s U : State} {H : Heap} (hW : s.WarmedH U.vm) (h : gk_RO E base ro s H) : gk_RO E base ro U H := by
  obtain ⟨⟨h1, h1b⟩, h2, h3, h4, h5, h6⟩ := h
  refine ⟨⟨h1.moved hW.alike, h1b⟩, h2.moved hW.alike, ⟨h3.1.warm hW, h3.2.warm hW⟩, ⟨h4.1.moved hW.alike, h4.2.moved hW.alike⟩, fun w hw => ?_, h6.moved hW.alike⟩
  obtain ⟨a, i, x, hh, rfl⟩ := gk_nest_is w hw
  exact (h5 _ hw).warmM hW
theorem gk_RO.same {E : gk_E} {base : Nat} {ro : Nat → Nat} {s U : State} {H : Heap} (hv : U.vm = s.vm) (h : gk_RO E base ro s H) : gk_RO E base ro U H := by
  obtain ⟨⟨h1, h1b⟩, h2, h3, h4, h5, h6⟩ := h
  have hA : s.vm.Alike U.vm := by rw [hv]; exact Vm.Alike.refl _
  refine ⟨⟨h1.moved hA, h1b⟩, h2.moved hA, ⟨h3.1.same hv, h3.2.same hv⟩, ⟨h4.1.moved hA, h4.2.moved hA⟩, fun w hw => ?_, h6.moved hA⟩
  obtain ⟨a, i, x, hh, rfl⟩ := gk_nest_is w hw
  exact (h5 _ hw).same rfl hv.symm
theorem gk_sl_len (ad : Nat → Nat) : ∀ (av : List Value), av.all gk_one1 = true → (lg_sl (av.map (gk_v ad))).length = (gk_sl av).length := by
  intro av
  induction av with
  | nil => intro _; rfl
  | cons v vs ih =>
    intro h
    simp only [List.all_cons, Bool.and_eq_true] at h
    have i1 := ih h.2
    cases v <;> simp_all [lg_sl, gk_sl, gk_v, Value.category, gk_one1] <;> omega
theorem gk_sl_args (ad : Nat → Nat) : ∀ (av : List Value) (k i : Nat) (v : Value), av.all gk_one1 = true → (gk_sl av)[i]? = some (some v) → (k + i, gk_v ad v) ∈ lv_args k (av.map (gk_v ad)) := by
  intro av
  induction av with
  | nil => intro k i v _ h; cases h
  | cons w vs ih =>
    intro k i v ha h
    simp only [List.all_cons, Bool.and_eq_true] at ha
    have two : ∀ x, w = .long x → (k + i, gk_v ad v) ∈ lv_args k ((w :: vs).map (gk_v ad)) := by
      intro x hx
      subst hx
      match i, h with
      | 0, h => cases h; exact List.mem_cons_self
      | 1, h => cases h
      | i + 2, h =>
        have h9 := ih (k + 2) i v ha.2 h
        rw [show k + 2 + i = k + (i + 2) by omega] at h9
        exact List.mem_cons_of_mem _ h9
    have one : gk_sl (w :: vs) = some w :: gk_sl vs → w.category ≠ 2 → (k + i, gk_v ad v) ∈ lv_args k ((w :: vs).map (gk_v ad)) := by
      intro e hc
      rw [e] at h
      match i, h with
      | 0, h => cases h; exact List.mem_cons_self
      | i + 1, h =>
        have h9 := ih (k + 1) i v ha.2 h
        rw [show k + 1 + i = k + (i + 1) by omega] at h9
        simp only [List.map_cons, lv_args, gk_cat, if_neg hc]
        exact List.mem_cons_of_mem _ h9
    cases w with
    | long x => exact two x rfl
    | double x => exact absurd ha.1 (by simp [gk_one1])
    | int x => exact one rfl (by simp [Value.category])
    | float x => exact one rfl (by simp [Value.category])
    | null => exact one rfl (by simp [Value.category])
    | ref x => exact one rfl (by simp [Value.category])
    | retAddr x => exact one rfl (by simp [Value.category])
theorem gk_L0_len {av : List Value} {n : Nat} (h : (gk_sl av).length ≤ n) : (gk_L0 av n).length = n := by
  rw [gk_L0, List.length_append, List.length_replicate]; omega
set_option maxHeartbeats 4000000 in
/-- a contract out of the judgement at the entry -/
theorem gk_con {M : Nat → gk_J} {E : gk_E} {d j : Nat} {av : List Value} {Γ Γe : gk_G} {h : gk_H} {mc ms : Nat} {Q : Option Value → gk_H → Prop} {cf : Bool} (hy : plainName (M j).1.cls = true) (hcf : cf = true → (M j).1.name = "<init>") (hlen : (gk_sl av).length ≤ (M j).2.2.1) (hav : av.all gk_one1 = true)
    (hgo : gk_Go M E d j cf mc ms Γe Q 0 (gk_L0 av (M j).2.2.1) [] Γ h 0 0) : gk_Con M E d j av Γ Γe h mc ms Q := by
  intro l base ro cs D
  refine Met.ofW (cc := (M j).2.1) (maxL := (M j).2.2.1) (ret := (M j).2.2.2) hy rfl ?_
  intro p e s m args below meth c s₁ B hml hv
  obtain ⟨rfl, hsz, hrel, hK, hRO⟩ := hv
  have hts := atoms_spec (ws := gk_wd (M j)) B.pre
  have hown : s.vm.findClass (M j).1.cls = some m.cls := findClass_of_methodNamed B.named
  have hnm : meth.name = (M j).1.name := (name_of_methodNamed B.named B.method).1
  have hx := B.exec
  have hb := B.bytes
  have hr := B.returns
  have hlocks := B.notSynchronized
  have hl := lv_entry (av.map (gk_v (gk_ad base ro))) (n := (M j).2.2.1) (by rw [gk_sl_len _ _ hav]; exact hlen)
  rw [lg_entry_eq]
  refine hgo p l e _ s m _ below meth c base ro cs D _ s.heap [] _ ⟨hx, hb, hml, hown, fun w hw => hts w (List.mem_cons_of_mem _ hw), fun h => hnm.trans (hcf h), ⟨Nat.le_refl _, Nat.le_refl _, Nat.le_refl _, Nat.le_refl _⟩, hK, hRO, by rw [hsz]; exact Nat.le_add_right _ _⟩ ?_ hrel va_S.rf ?_ (by rw [hsz]; rfl)
  · intro pc ls H locs v h hq hrl hS hok hdg
    generalize (M j).2.2.2 = r at hr hok hdg
    match r, v, hok with
    | none, none, _ => exact W.vret hx hb hr (fun t ht hW => ⟨⟨none, h, rfl, hq, by rw [ht]; exact hrl⟩, hS.F ht⟩) hS.2.2 hdg
    | some .int, some (.int x), _ => exact W.iret hx hb hr (fun t ht hW => ⟨⟨some (.int x), h, rfl, hq, by rw [ht]; exact hrl⟩, hS.F ht⟩) hS.2.2 hdg
    | some .long, some (.long x), _ => exact W.lret hx hb hr (fun t ht hW => ⟨⟨some (.long x), h, rfl, hq, by rw [ht]; exact hrl⟩, hS.F ht⟩) hS.2.2 hdg
    | some .boolean, some (.int x), hn => exact W.zret hx hb hr hn (fun t ht hW => ⟨⟨some (.int x), h, rfl, hq, by rw [ht]; exact hrl⟩, hS.F ht⟩) hS.2.2 hdg
    | some .byte, some (.int x), hn => exact W.zret hx hb hr hn (fun t ht hW => ⟨⟨some (.int x), h, rfl, hq, by rw [ht]; exact hrl⟩, hS.F ht⟩) hS.2.2 hdg
    | some .char, some (.int x), hn => exact W.zret hx hb hr hn (fun t ht hW => ⟨⟨some (.int x), h, rfl, hq, by rw [ht]; exact hrl⟩, hS.F ht⟩) hS.2.2 hdg
    | some .short, some (.int x), hn => exact W.zret hx hb hr hn (fun t ht hW => ⟨⟨some (.int x), h, rfl, hq, by rw [ht]; exact hrl⟩, hS.F ht⟩) hS.2.2 hdg
    | some .float, some (.int x), hn => exact W.zret hx hb hr hn (fun t ht hW => ⟨⟨some (.int x), h, rfl, hq, by rw [ht]; exact hrl⟩, hS.F ht⟩) hS.2.2 hdg
    | some .double, some (.int x), hn => exact W.zret hx hb hr hn (fun t ht hW => ⟨⟨some (.int x), h, rfl, hq, by rw [ht]; exact hrl⟩, hS.F ht⟩) hS.2.2 hdg
    | some (.object _), some (.int x), hn => exact W.zret hx hb hr hn (fun t ht hW => ⟨⟨some (.int x), h, rfl, hq, by rw [ht]; exact hrl⟩, hS.F ht⟩) hS.2.2 hdg
    | some (.array _), some (.int x), hn => exact W.zret hx hb hr hn (fun t ht hW => ⟨⟨some (.int x), h, rfl, hq, by rw [ht]; exact hrl⟩, hS.F ht⟩) hS.2.2 hdg
  · refine ⟨hl.1, gk_L0_len hlen, hl.2.1, fun i v hi => ?_⟩
    have hi2 : (gk_sl av)[i]? = some (some v) := by
      rw [gk_L0] at hi
      by_cases hlt : i < (gk_sl av).length
      · rwa [List.getElem?_append_left hlt] at hi
      · rw [List.getElem?_append_right (by omega)] at hi
        have := List.eq_of_mem_replicate (List.mem_of_getElem? hi)
        cases this
    have h9 := gk_sl_args (gk_ad base ro) av 0 i v hav hi2
    rw [Nat.zero_add] at h9
    exact hl.2.2 _ h9
end
section
/-! constants as numerals -/
def gk_lit (n : Int) : Int32 := match n with
  | .ofNat k => OfNat.ofNat k
  | .negSucc k => -(OfNat.ofNat (k + 1))
theorem gk_lit_eq (n : Int) : Int32.ofInt n = gk_lit n := by
  cases n with
  | ofNat k => exact Int32.ofInt_eq_ofNat
  | negSucc k =>
    show Int32.ofInt (Int.negSucc k) = -(Int32.ofNat (k + 1))
    rw [Int32.neg_ofNat]; rfl
def gk_i8 (n : Int) : Bool := decide (-128 ≤ n) && decide (n ≤ 127)
def gk_i16 (n : Int) : Bool := decide (-32768 ≤ n) && decide (n ≤ 32767)
theorem gk_lit8 {n : Int} (h : gk_i8 n = true) : (Int8.ofInt n).toInt32 = gk_lit n := by
  simp only [gk_i8, Bool.and_eq_true, decide_eq_true_eq] at h
  rw [Int8.toInt32_ofInt (by exact h.1) (by exact h.2)]
  exact gk_lit_eq n
theorem gk_lit16 {n : Int} (h : gk_i16 n = true) : (Int16.ofInt n).toInt32 = gk_lit n := by
  simp only [gk_i16, Bool.and_eq_true, decide_eq_true_eq] at h
  rw [Int16.toInt32_ofInt (by exact h.1) (by exact h.2)]
  exact gk_lit_eq n
def gk_l01 (n : Fin 2) : Int64 := bif n.val == 0 then 0 else 1
theorem gk_l01_eq (n : Fin 2) : Int64.ofNat (n : Nat) = gk_l01 n := by
  match n with
  | ⟨0, _⟩ => rfl
  | ⟨1, _⟩ => rfl
/-- what stays on the stack: no side conditions -/
def gk_alu (i : Instr) (st : List Value) : Option (List Value) := match i with
  | .iconst n => some (.int (gk_lit n) :: st)
  | .bipush n => bif gk_i8 n then some (.int (gk_lit n) :: st) else none
  | .sipush n => bif gk_i16 n then some (.int (gk_lit n) :: st) else none
  | .lconst n => some (.long (gk_l01 n) :: st)
  | .aconst_null => some (.null :: st)
  | .iadd => match st with | .int y :: .int x :: r => some (.int (x + y) :: r) | _ => none
  | .isub => match st with | .int y :: .int x :: r => some (.int (x - y) :: r) | _ => none
  | .imul => match st with | .int y :: .int x :: r => some (.int (x * y) :: r) | _ => none
  | .iand => match st with | .int y :: .int x :: r => some (.int (x &&& y) :: r) | _ => none
  | .ior => match st with | .int y :: .int x :: r => some (.int (x ||| y) :: r) | _ => none
  | .ixor => match st with | .int y :: .int x :: r => some (.int (x ^^^ y) :: r) | _ => none
  | .ineg => match st with | .int x :: r => some (.int (-x) :: r) | _ => none
  | .ishl => match st with | .int y :: .int x :: r => some (.int (x <<< (y &&& 31)) :: r) | _ => none
  | .ishr => match st with | .int y :: .int x :: r => some (.int (x >>> (y &&& 31)) :: r) | _ => none
  | .iushr => match st with | .int y :: .int x :: r => some (.int (x.toUInt32 >>> (y.toUInt32 &&& Int32.toUInt32 31)).toInt32 :: r) | _ => none
  | .ladd => match st with | .long y :: .long x :: r => some (.long (x + y) :: r) | _ => none
  | .lsub => match st with | .long y :: .long x :: r => some (.long (x - y) :: r) | _ => none
  | .lmul => match st with | .long y :: .long x :: r => some (.long (x * y) :: r) | _ => none
  | .land => match st with | .long y :: .long x :: r => some (.long (x &&& y) :: r) | _ => none
  | .lor => match st with | .long y :: .long x :: r => some (.long (x ||| y) :: r) | _ => none
  | .lxor => match st with | .long y :: .long x :: r => some (.long (x ^^^ y) :: r) | _ => none
  | .lneg => match st with | .long x :: r => some (.long (-x) :: r) | _ => none
  | .lshl => match st with | .int y :: .long x :: r => some (.long (x <<< (y.toInt64 &&& 63)) :: r) | _ => none
  | .lushr => match st with | .int y :: .long x :: r => some (.long (x.toUInt64 >>> (y.toInt64.toUInt64 &&& Int64.toUInt64 63)).toInt64 :: r) | _ => none
  | .lcmp => match st with | .long y :: .long x :: r => some (.int (lg_cmp x y) :: r) | _ => none
  | .i2l => match st with | .int x :: r => some (.long x.toInt64 :: r) | _ => none
  | .l2i => match st with | .long x :: r => some (.int x.toInt32 :: r) | _ => none
  | .i2c => match st with | .int x :: r => some (.int (x.toUInt32 % 65536).toInt32 :: r) | _ => none
  | .i2b => match st with | .int x :: r => some (.int x.toInt8.toInt32 :: r) | _ => none
  | .dup => match st with | .int x :: r => some (.int x :: .int x :: r) | .ref x :: r => some (.ref x :: .ref x :: r) | _ => none
  | .dup2 => match st with | .int x :: .int y :: r => some (.int x :: .int y :: .int x :: .int y :: r) | .int x :: .ref y :: r => some (.int x :: .ref y :: .int x :: .ref y :: r) | .long x :: r => some (.long x :: .long x :: r) | _ => none
  | .pop => match st with | .int _ :: r => some r | .ref _ :: r => some r | .null :: r => some r | _ => none
  | _ => none
/-- an instruction's length -/
def gk_ln (i : Instr) : Nat := match i with
  | .bipush _ | .ldc _ | .iload _ | .lload _ | .aload _ | .istore _ | .lstore _ | .astore _ | .newarray _ => 2
  | .sipush _ | .ldc_w _ | .ldc2_w _ | .iinc _ _ | .ifCond _ _ | .if_icmp _ _ | .goto _ | .ifnull _ | .ifnonnull _ | .getfield _ | .putfield _ | .getstatic _ | .invokevirtual _ | .invokestatic _ | .invokespecial _ | .new _ | .anewarray _ => 3
  | _ => 1
section GKA
variable {p : Program} {l : Launch} {e : Env} {R : Room} {s : State} {m : MethodId} {args : Array Value} {below : List Frame} {meth : Method} {c : Code} {H : Heap} {locs : List Loc} {cells slots : Nat} {Q : State → Prop} {cc : ByteArray} {pc : Nat} {ls : Array Slot} {ad : Nat → Nat}
set_option maxHeartbeats 4000000 in
theorem gk_alu_row {i : Instr} {st st' : List Value} (hx : p.tables.exec = Jvm.exec) (hb : c.code = cc) (hdg : decode cc pc = .ok (i, gk_ln i)) (h : gk_alu i st = some st')
    (k : W p l e R s m args below meth c H locs cells slots Q (F0 m (pc + gk_ln i) ls (st'.map (gk_v ad)))) : W p l e R s m args below meth c H locs cells slots Q (F0 m pc ls (st.map (gk_v ad))) := by
  cases i <;> first | (simp only [gk_alu, reduceCtorEq] at h; done) | skip
  case iconst n => cases h; exact lv_iconst hx hb hdg (gk_lit_eq n) k
  case bipush n =>
    simp only [gk_alu] at h
    cases hg : gk_i8 n with
    | false => rw [hg] at h; cases h
    | true => rw [hg] at h; cases h; exact lv_bipush hx hb hdg (gk_lit8 hg) k
  case sipush n =>
    simp only [gk_alu] at h
    cases hg : gk_i16 n with
    | false => rw [hg] at h; cases h
    | true => rw [hg] at h; cases h; exact lv_sipush hx hb hdg (gk_lit16 hg) k
  case lconst n => cases h; exact lv_lconst hx hb hdg (gk_l01_eq n) k
  case aconst_null => cases h; exact lv_null hx hb hdg k
  case iadd => match st, h with | .int y :: .int x :: r, h => cases h; exact lv_iadd hx hb hdg k
  case isub => match st, h with | .int y :: .int x :: r, h => cases h; exact lv_isub hx hb hdg k
  case imul => match st, h with | .int y :: .int x :: r, h => cases h; exact lv_imul hx hb hdg k
  case iand => match st, h with | .int y :: .int x :: r, h => cases h; exact lv_iand hx hb hdg k
  case ior => match st, h with | .int y :: .int x :: r, h => cases h; exact lv_ior hx hb hdg k
  case ixor => match st, h with | .int y :: .int x :: r, h => cases h; exact lv_ixor hx hb hdg k
  case ineg => match st, h with | .int x :: r, h => cases h; exact lv_ineg hx hb hdg k
  case ishl => match st, h with | .int y :: .int x :: r, h => cases h; exact lv_ishl hx hb hdg k
  case ishr => match st, h with | .int y :: .int x :: r, h => cases h; exact lv_ishr hx hb hdg k
  case iushr => match st, h with | .int y :: .int x :: r, h => cases h; exact lv_iushr hx hb hdg rfl k
  case ladd => match st, h with | .long y :: .long x :: r, h => cases h; exact lv_ladd hx hb hdg k
  case lsub => match st, h with | .long y :: .long x :: r, h => cases h; exact lv_lsub hx hb hdg k
  case lmul => match st, h with | .long y :: .long x :: r, h => cases h; exact lv_lmul hx hb hdg k
  case land => match st, h with | .long y :: .long x :: r, h => cases h; exact lv_land hx hb hdg k
  case lor => match st, h with | .long y :: .long x :: r, h => cases h; exact lv_lor hx hb hdg k
  case lxor => match st, h with | .long y :: .long x :: r, h => cases h; exact lv_lxor hx hb hdg k
  case lneg => match st, h with | .long x :: r, h => cases h; exact lv_lneg hx hb hdg k
  case lshl => match st, h with | .int y :: .long x :: r, h => cases h; exact lv_lshl hx hb hdg rfl k
  case lushr => match st, h with | .int y :: .long x :: r, h => cases h; exact lv_lushr hx hb hdg rfl k
  case lcmp => match st, h with | .long y :: .long x :: r, h => cases h; exact W.lcmp hx hb hdg k
  case i2l => match st, h with | .int x :: r, h => cases h; exact lv_i2l hx hb hdg rfl k
  case l2i => match st, h with | .long x :: r, h => cases h; exact lv_l2i hx hb hdg rfl k
  case i2c => match st, h with | .int x :: r, h => cases h; exact lv_i2c hx hb hdg rfl k
  case i2b => match st, h with | .int x :: r, h => cases h; exact lv_i2b hx hb hdg rfl k
  case dup => match st, h with
    | .int x :: r, h => cases h; exact lv_dup hx hb hdg rfl k
    | .ref x :: r, h => cases h; exact lv_dup hx hb hdg rfl k
  case dup2 => match st, h with
    | .int x :: .int y :: r, h => cases h; exact lv_dup2_11 hx hb hdg rfl rfl k
    | .int x :: .ref y :: r, h => cases h; exact lv_dup2_11 hx hb hdg rfl rfl k
    | .long x :: r, h => cases h; exact lv_dup2_2 hx hb hdg rfl k
  case pop => match st, h with
    | .int x :: r, h => cases h; exact lv_pop hx hb (va := .int x) hdg rfl k
    | .ref x :: r, h => cases h; exact lv_pop hx hb (va := .ref (ad x)) hdg rfl k
    | .null :: r, h => cases h; exact lv_pop hx hb (va := .null) hdg rfl k
end GKA
end
section
/-! locals -/
/-- a long whose second half is overwritten is gone -/
def gk_k1 (a : Option Value) : Option Value := match a with
  | some (.long _) => none
  | some (.double _) => none
  | a => a
def gk_s1 : gk_L → Nat → Value → gk_L
  | [], _, _ => []
  | _ :: r, 0, v => some v :: r
  | a :: r, 1, v => gk_k1 a :: gk_s1 r 0 v
  | a :: r, n + 2, v => a :: gk_s1 r (n + 1) v
def gk_s2 : gk_L → Nat → Value → gk_L
  | [], _, _ => []
  | _ :: [], 0, v => [some v]
  | _ :: _ :: r, 0, v => some v :: none :: r
  | a :: r, 1, v => gk_k1 a :: gk_s2 r 0 v
  | a :: r, n + 2, v => a :: gk_s2 r (n + 1) v
def gk_lol (ad : Nat → Nat) (L : gk_L) : List (Nat × Value) := L.zipIdx.filterMap (fun q => q.1.map (fun v => (q.2, gk_v ad v)))
theorem gk_lol_mem {ad : Nat → Nat} {L : gk_L} {i : Nat} {v : Value} (h : L[i]? = some (some v)) : (i, gk_v ad v) ∈ gk_lol ad L := by
  refine List.mem_filterMap.mpr ⟨(some v, i), ?_, rfl⟩
  rw [List.mem_zipIdx_iff_getElem?]; exact h
theorem gk_lol_of {ad : Nat → Nat} {L : gk_L} {q : Nat × Value} (h : q ∈ gk_lol ad L) : ∃ v, L[q.1]? = some (some v) ∧ q.2 = gk_v ad v := by
  obtain ⟨⟨o, i⟩, h1, h2⟩ := List.mem_filterMap.mp h
  rw [List.mem_zipIdx_iff_getElem?] at h1
  cases o with
  | none => cases h2
  | some v => cases h2; exact ⟨v, h1, rfl⟩
theorem gk_Ls.has {ad : Nat → Nat} {ls : Array Slot} {n : Nat} {L : gk_L} (h : gk_Ls ad ls n L) : lv_has ls n (gk_lol ad L) := by
  refine ⟨h.1, h.2.2.1, fun q hq => ?_⟩
  obtain ⟨v, h1, h2⟩ := gk_lol_of hq
  rw [h2]; exact h.2.2.2 _ _ h1
theorem gk_k1_get {a : Option Value} {w : Value} (h : gk_k1 a = some w) : a = some w ∧ ¬ w.category = 2 := by
  unfold gk_k1 at h
  split at h
  · cases h
  · cases h
  · rename_i n1 n2
    refine ⟨h, fun q => ?_⟩
    subst h
    cases w <;> simp [Value.category] at q
    · exact n1 _ rfl
    · exact n2 _ rfl
theorem gk_s1_len : ∀ (L : gk_L) (i : Nat) (v : Value), (gk_s1 L i v).length = L.length := by
  intro L
  induction L with
  | nil => intro i v; cases i <;> rfl
  | cons a r ih =>
    intro i v
    match i with
    | 0 => rfl
    | 1 => simp [gk_s1, ih]
    | n + 2 => simp [gk_s1, ih]
theorem gk_s1_get : ∀ (L : gk_L) (i : Nat) (v : Value) (j : Nat) (w : Value), (gk_s1 L i v)[j]? = some (some w) → (j = i ∧ w = v) ∨ (j ≠ i ∧ L[j]? = some (some w) ∧ ¬ (j + 1 = i ∧ w.category = 2)) := by
  intro L
  induction L with
  | nil => intro i v j w h; cases i <;> simp [gk_s1] at h
  | cons a r ih =>
    intro i v j w h
    match i, j, h with
    | 0, 0, h => cases h; exact Or.inl ⟨rfl, rfl⟩
    | 0, j + 1, h => exact Or.inr ⟨by omega, h, fun q => by omega⟩
    | 1, 0, h =>
      have h1 : gk_k1 a = some w := by simpa [gk_s1] using h
      obtain ⟨h2, h3⟩ := gk_k1_get h1
      exact Or.inr ⟨by omega, by simp [h2], fun q => h3 q.2⟩
    | 1, j + 1, h =>
      rcases ih 0 v j w (by simpa [gk_s1] using h) with ⟨h1, h2⟩ | ⟨h1, h2, h3⟩
      · exact Or.inl ⟨by omega, h2⟩
      · exact Or.inr ⟨by omega, h2, fun q => by omega⟩
    | n + 2, 0, h => exact Or.inr ⟨by omega, by simpa [gk_s1] using h, fun q => by omega⟩
    | n + 2, j + 1, h =>
      rcases ih (n + 1) v j w (by simpa [gk_s1] using h) with ⟨h1, h2⟩ | ⟨h1, h2, h3⟩
      · exact Or.inl ⟨by omega, h2⟩
      · exact Or.inr ⟨by omega, h2, fun q => h3 ⟨by omega, q.2⟩⟩
theorem gk_s2_len : ∀ (L : gk_L) (i : Nat) (v : Value), (gk_s2 L i v).length = L.length := by
  intro L
  induction L with
  | nil => intro i v; cases i <;> rfl
  | cons a r ih =>
    intro i v
    match i with
    | 0 => cases r <;> rfl
    | 1 => simp [gk_s2, ih]
    | n + 2 => simp [gk_s2, ih]
theorem gk_s2_get : ∀ (L : gk_L) (i : Nat) (v : Value) (j : Nat) (w : Value), (gk_s2 L i v)[j]? = some (some w) → (j = i ∧ w = v) ∨ (j ≠ i ∧ j ≠ i + 1 ∧ L[j]? = some (some w) ∧ ¬ (j + 1 = i ∧ w.category = 2)) := by
  intro L
  induction L with
  | nil => intro i v j w h; cases i <;> simp [gk_s2] at h
  | cons a r ih =>
    intro i v j w h
    match i, j, h with
    | 0, 0, h => cases r <;> (cases h; exact Or.inl ⟨rfl, rfl⟩)
    | 0, 1, h => cases r <;> simp [gk_s2] at h
    | 0, j + 2, h => cases r with
      | nil => simp [gk_s2] at h
      | cons b r => exact Or.inr ⟨by omega, by omega, by simpa [gk_s2] using h, fun q => by omega⟩
    | 1, 0, h =>
      have h1 : gk_k1 a = some w := by simpa [gk_s2] using h
      obtain ⟨h2, h3⟩ := gk_k1_get h1
      exact Or.inr ⟨by omega, by omega, by simp [h2], fun q => h3 q.2⟩
    | 1, j + 1, h =>
      rcases ih 0 v j w (by simpa [gk_s2] using h) with ⟨h1, h2⟩ | ⟨h1, h2, h3, h4⟩
      · exact Or.inl ⟨by omega, h2⟩
      · exact Or.inr ⟨by omega, by omega, h3, fun q => by omega⟩
    | n + 2, 0, h => exact Or.inr ⟨by omega, by omega, by simpa [gk_s2] using h, fun q => by omega⟩
    | n + 2, j + 1, h =>
      rcases ih (n + 1) v j w (by simpa [gk_s2] using h) with ⟨h1, h2⟩ | ⟨h1, h2, h3, h4⟩
      · exact Or.inl ⟨by omega, h2⟩
      · exact Or.inr ⟨by omega, by omega, h3, fun q => h4 ⟨by omega, q.2⟩⟩
theorem gk_Ls.st1 {ad : Nat → Nat} {ls' : Array Slot} {n i : Nat} {L : gk_L} {v : Value} (hn : L.length = n) (hi : i < n) (h : lv_has ls' n ((i, gk_v ad v) :: (gk_lol ad L).filter (fun q => !(q.1 == i) && !(q.1 + 1 == i && q.2.category == 2)))) : gk_Ls ad ls' n (gk_s1 L i v) := by
  refine ⟨h.1, by rw [gk_s1_len, hn], h.2.1, fun j w hj => ?_⟩
  rcases gk_s1_get _ _ _ _ _ hj with ⟨rfl, rfl⟩ | ⟨e, h1, h2⟩
  · exact h.2.2 _ List.mem_cons_self
  · refine h.2.2 (j, gk_v ad w) (List.mem_cons_of_mem _ (List.mem_filter.mpr ⟨gk_lol_mem h1, ?_⟩))
    simp only [gk_cat, Bool.and_eq_true, Bool.not_eq_true', beq_eq_false_iff_ne, ne_eq, Bool.and_eq_false_iff]
    refine ⟨e, ?_⟩
    by_cases a : j + 1 = i
    · right
      intro b
      exact h2 ⟨a, b⟩
    · left; exact a
theorem gk_Ls.st2 {ad : Nat → Nat} {ls' : Array Slot} {n i : Nat} {L : gk_L} {v : Value} (hn : L.length = n) (hi : i + 1 < n) (h : lv_has ls' n ((i, gk_v ad v) :: (gk_lol ad L).filter (fun q => !(q.1 == i) && (!(q.1 == i + 1) && !(q.1 + 1 == i && q.2.category == 2))))) : gk_Ls ad ls' n (gk_s2 L i v) := by
  refine ⟨h.1, by rw [gk_s2_len, hn], h.2.1, fun j w hj => ?_⟩
  rcases gk_s2_get _ _ _ _ _ hj with ⟨rfl, rfl⟩ | ⟨e, e2, h1, h2⟩
  · exact h.2.2 _ List.mem_cons_self
  · refine h.2.2 (j, gk_v ad w) (List.mem_cons_of_mem _ (List.mem_filter.mpr ⟨gk_lol_mem h1, ?_⟩))
    simp only [gk_cat, Bool.and_eq_true, Bool.not_eq_true', beq_eq_false_iff_ne, ne_eq, Bool.and_eq_false_iff]
    refine ⟨e, e2, ?_⟩
    by_cases a : j + 1 = i
    · right
      intro b
      exact h2 ⟨a, b⟩
    · left; exact a
section GKL
variable {M : Nat → gk_J} {E : gk_E} {d j : Nat} {cf : Bool} {mc ms : Nat} {Γe : gk_G} {Q : Option Value → gk_H → Prop} {pc : Nat} {L : gk_L} {st : List Value} {Γ : gk_G} {h : gk_H} {nc ns : Nat}
theorem gk_go_alu {i : Instr} {st' : List Value} (hdg : decode (M j).2.1 pc = .ok (i, gk_ln i)) (ha : gk_alu i st = some st') (k : gk_Go M E d j cf mc ms Γe Q (pc + gk_ln i) L st' Γ h nc ns) : gk_Go M E d j cf mc ms Γe Q pc L st Γ h nc ns := by
  intro p l e R s m args below meth c base ro cs D QF H locs ls X hret hrel hS hL hac
  exact gk_alu_row X.1 X.2.1 hdg ha (k p l e R s m args below meth c base ro cs D QF H locs ls X hret hrel hS hL hac)
/-- which local an instruction reads, and how long it is -/
theorem gk_go_iload {i : Nat} {x : Int32} (hl : L[i]? = some (some (.int x))) (hdg : decode (M j).2.1 pc = .ok (.iload i, 2)) (k : gk_Go M E d j cf mc ms Γe Q (pc + 2) L (.int x :: st) Γ h nc ns) : gk_Go M E d j cf mc ms Γe Q pc L st Γ h nc ns := by
  intro p l e R s m args below meth c base ro cs D QF H locs ls X hret hrel hS hL hac
  exact lv_iload X.1 X.2.1 hdg (hL.2.2.2 _ _ hl) (k p l e R s m args below meth c base ro cs D QF H locs ls X hret hrel hS hL hac)
theorem gk_go_iload_n {i : Fin 4} {x : Int32} (hl : L[i.val]? = some (some (.int x))) (hdg : decode (M j).2.1 pc = .ok (.iload_n i, 1)) (k : gk_Go M E d j cf mc ms Γe Q (pc + 1) L (.int x :: st) Γ h nc ns) : gk_Go M E d j cf mc ms Γe Q pc L st Γ h nc ns := by
  intro p l e R s m args below meth c base ro cs D QF H locs ls X hret hrel hS hL hac
  exact lv_iload_n X.1 X.2.1 hdg rfl (hL.2.2.2 _ _ hl) (k p l e R s m args below meth c base ro cs D QF H locs ls X hret hrel hS hL hac)
theorem gk_go_lload {i : Nat} {x : Int64} (hl : L[i]? = some (some (.long x))) (hdg : decode (M j).2.1 pc = .ok (.lload i, 2)) (k : gk_Go M E d j cf mc ms Γe Q (pc + 2) L (.long x :: st) Γ h nc ns) : gk_Go M E d j cf mc ms Γe Q pc L st Γ h nc ns := by
  intro p l e R s m args below meth c base ro cs D QF H locs ls X hret hrel hS hL hac
  exact lv_lload X.1 X.2.1 hdg (hL.2.2.2 _ _ hl) (k p l e R s m args below meth c base ro cs D QF H locs ls X hret hrel hS hL hac)
theorem gk_go_lload_n {i : Fin 4} {x : Int64} (hl : L[i.val]? = some (some (.long x))) (hdg : decode (M j).2.1 pc = .ok (.lload_n i, 1)) (k : gk_Go M E d j cf mc ms Γe Q (pc + 1) L (.long x :: st) Γ h nc ns) : gk_Go M E d j cf mc ms Γe Q pc L st Γ h nc ns := by
  intro p l e R s m args below meth c base ro cs D QF H locs ls X hret hrel hS hL hac
  exact lv_lload_n X.1 X.2.1 hdg rfl (hL.2.2.2 _ _ hl) (k p l e R s m args below meth c base ro cs D QF H locs ls X hret hrel hS hL hac)
theorem gk_go_aload {i : Nat} {x : Nat} (hl : L[i]? = some (some (.ref x))) (hdg : decode (M j).2.1 pc = .ok (.aload i, 2)) (k : gk_Go M E d j cf mc ms Γe Q (pc + 2) L (.ref x :: st) Γ h nc ns) : gk_Go M E d j cf mc ms Γe Q pc L st Γ h nc ns := by
  intro p l e R s m args below meth c base ro cs D QF H locs ls X hret hrel hS hL hac
  exact lv_aload X.1 X.2.1 hdg (hL.2.2.2 _ _ hl) (k p l e R s m args below meth c base ro cs D QF H locs ls X hret hrel hS hL hac)
theorem gk_go_aload_n {i : Fin 4} {x : Nat} (hl : L[i.val]? = some (some (.ref x))) (hdg : decode (M j).2.1 pc = .ok (.aload_n i, 1)) (k : gk_Go M E d j cf mc ms Γe Q (pc + 1) L (.ref x :: st) Γ h nc ns) : gk_Go M E d j cf mc ms Γe Q pc L st Γ h nc ns := by
  intro p l e R s m args below meth c base ro cs D QF H locs ls X hret hrel hS hL hac
  exact lv_aload_n X.1 X.2.1 hdg rfl (hL.2.2.2 _ _ hl) (k p l e R s m args below meth c base ro cs D QF H locs ls X hret hrel hS hL hac)
theorem gk_go_aloadN {i : Nat} (hl : L[i]? = some (some .null)) (hdg : decode (M j).2.1 pc = .ok (.aload i, 2)) (k : gk_Go M E d j cf mc ms Γe Q (pc + 2) L (.null :: st) Γ h nc ns) : gk_Go M E d j cf mc ms Γe Q pc L st Γ h nc ns := by
  intro p l e R s m args below meth c base ro cs D QF H locs ls X hret hrel hS hL hac
  exact lv_aloadN X.1 X.2.1 hdg (hL.2.2.2 _ _ hl) (k p l e R s m args below meth c base ro cs D QF H locs ls X hret hrel hS hL hac)
theorem gk_go_istore {i : Nat} {x : Int32} (hi : i < L.length) (hdg : decode (M j).2.1 pc = .ok (.istore i, 2)) (k : gk_Go M E d j cf mc ms Γe Q (pc + 2) (gk_s1 L i (.int x)) st Γ h nc ns) : gk_Go M E d j cf mc ms Γe Q pc L (.int x :: st) Γ h nc ns := by
  intro p l e R s m args below meth c base ro cs D QF H locs ls X hret hrel hS hL hac
  have hi2 : i < (M j).2.2.1 := by rw [← hL.2.1]; exact hi
  exact lv_istore X.1 X.2.1 hdg hL.has hi2 rfl (fun ls' h' => k p l e R s m args below meth c base ro cs D QF H locs ls' X hret hrel hS (gk_Ls.st1 (v := .int x) hL.2.1 hi2 h') hac)
theorem gk_go_istore_n {i : Fin 4} {x : Int32} (hi : i.val < L.length) (hdg : decode (M j).2.1 pc = .ok (.istore_n i, 1)) (k : gk_Go M E d j cf mc ms Γe Q (pc + 1) (gk_s1 L i.val (.int x)) st Γ h nc ns) : gk_Go M E d j cf mc ms Γe Q pc L (.int x :: st) Γ h nc ns := by
  intro p l e R s m args below meth c base ro cs D QF H locs ls X hret hrel hS hL hac
  have hi2 : i.val < (M j).2.2.1 := by rw [← hL.2.1]; exact hi
  exact lv_istore_n X.1 X.2.1 hdg rfl hL.has hi2 rfl (fun ls' h' => k p l e R s m args below meth c base ro cs D QF H locs ls' X hret hrel hS (gk_Ls.st1 (v := .int x) hL.2.1 hi2 h') hac)
theorem gk_go_astore {i : Nat} {x : Nat} (hi : i < L.length) (hdg : decode (M j).2.1 pc = .ok (.astore i, 2)) (k : gk_Go M E d j cf mc ms Γe Q (pc + 2) (gk_s1 L i (.ref x)) st Γ h nc ns) : gk_Go M E d j cf mc ms Γe Q pc L (.ref x :: st) Γ h nc ns := by
  intro p l e R s m args below meth c base ro cs D QF H locs ls X hret hrel hS hL hac
  have hi2 : i < (M j).2.2.1 := by rw [← hL.2.1]; exact hi
  exact lv_astore X.1 X.2.1 hdg hL.has hi2 rfl (fun ls' h' => k p l e R s m args below meth c base ro cs D QF H locs ls' X hret hrel hS (gk_Ls.st1 (v := .ref x) hL.2.1 hi2 h') hac)
theorem gk_go_astore_n {i : Fin 4} {x : Nat} (hi : i.val < L.length) (hdg : decode (M j).2.1 pc = .ok (.astore_n i, 1)) (k : gk_Go M E d j cf mc ms Γe Q (pc + 1) (gk_s1 L i.val (.ref x)) st Γ h nc ns) : gk_Go M E d j cf mc ms Γe Q pc L (.ref x :: st) Γ h nc ns := by
  intro p l e R s m args below meth c base ro cs D QF H locs ls X hret hrel hS hL hac
  have hi2 : i.val < (M j).2.2.1 := by rw [← hL.2.1]; exact hi
  exact lv_astore_n X.1 X.2.1 hdg rfl hL.has hi2 rfl (fun ls' h' => k p l e R s m args below meth c base ro cs D QF H locs ls' X hret hrel hS (gk_Ls.st1 (v := .ref x) hL.2.1 hi2 h') hac)
theorem gk_go_lstore {i : Nat} {x : Int64} (hi : i + 1 < L.length) (hdg : decode (M j).2.1 pc = .ok (.lstore i, 2)) (k : gk_Go M E d j cf mc ms Γe Q (pc + 2) (gk_s2 L i (.long x)) st Γ h nc ns) : gk_Go M E d j cf mc ms Γe Q pc L (.long x :: st) Γ h nc ns := by
  intro p l e R s m args below meth c base ro cs D QF H locs ls X hret hrel hS hL hac
  have hi2 : i + 1 < (M j).2.2.1 := by rw [← hL.2.1]; exact hi
  exact lv_lstore X.1 X.2.1 hdg hL.has hi2 rfl (fun ls' h' => k p l e R s m args below meth c base ro cs D QF H locs ls' X hret hrel hS (gk_Ls.st2 (v := .long x) hL.2.1 hi2 h') hac)
theorem gk_go_lstore_n {i : Fin 4} {x : Int64} (hi : i.val + 1 < L.length) (hdg : decode (M j).2.1 pc = .ok (.lstore_n i, 1)) (k : gk_Go M E d j cf mc ms Γe Q (pc + 1) (gk_s2 L i.val (.long x)) st Γ h nc ns) : gk_Go M E d j cf mc ms Γe Q pc L (.long x :: st) Γ h nc ns := by
  intro p l e R s m args below meth c base ro cs D QF H locs ls X hret hrel hS hL hac
  have hi2 : i.val + 1 < (M j).2.2.1 := by rw [← hL.2.1]; exact hi
  exact lv_lstore_n X.1 X.2.1 hdg rfl hL.has hi2 rfl (fun ls' h' => k p l e R s m args below meth c base ro cs D QF H locs ls' X hret hrel hS (gk_Ls.st2 (v := .long x) hL.2.1 hi2 h') hac)
theorem gk_go_iinc {i : Nat} {n : Int} {x : Int32} (hl : L[i]? = some (some (.int x))) (hdg : decode (M j).2.1 pc = .ok (.iinc i n, 3)) (k : gk_Go M E d j cf mc ms Γe Q (pc + 3) (gk_s1 L i (.int (x + gk_lit n))) st Γ h nc ns) : gk_Go M E d j cf mc ms Γe Q pc L st Γ h nc ns := by
  intro p l e R s m args below meth c base ro cs D QF H locs ls X hret hrel hS hL hac
  have hi2 : i < (M j).2.2.1 := by rw [← hL.2.1]; exact (List.getElem?_eq_some_iff.mp hl).1
  obtain ⟨q, hq⟩ := List.getElem?_of_mem (gk_lol_mem (ad := gk_ad base ro) hl)
  exact lv_iinc (v := x + gk_lit n) X.1 X.2.1 hdg hL.has hq (by rw [gk_lit_eq]) hi2 rfl (fun ls' h' => k p l e R s m args below meth c base ro cs D QF H locs ls' X hret hrel hS (gk_Ls.st1 (v := .int (x + gk_lit n)) hL.2.1 hi2 h') hac)
/-- fewer locals known -/
theorem gk_go_mono {L' : gk_L} (hl : L'.length = L.length) (hs : ∀ (i : Nat) (v : Value), L'[i]? = some (some v) → L[i]? = some (some v)) (k : gk_Go M E d j cf mc ms Γe Q pc L' st Γ h nc ns) : gk_Go M E d j cf mc ms Γe Q pc L st Γ h nc ns := by
  intro p l e R s m args below meth c base ro cs D QF H locs ls X hret hrel hS hL hac
  exact k p l e R s m args below meth c base ro cs D QF H locs ls X hret hrel hS ⟨hL.1, hl.trans hL.2.1, hL.2.2.1, fun i v hi => hL.2.2.2 i v (hs i v hi)⟩ hac
end GKL
end
section
/-! the heap's rows -/
theorem gk_u_lays {C : String} {T : u_T} {N : Nat} : (u_ws C T N).all goodWord = true := by
  rw [List.all_eq_true]
  intro w hw
  obtain ⟨k, -, rfl⟩ := List.mem_map.mp hw
  unfold u_lay
  split <;> rfl
set_option maxRecDepth 100000 in
theorem gk_clok {ci : Nat} {C : String} {T : u_T} {N : Nat} (hc : vwCl[ci]? = some (C, T, N)) : (∀ w ∈ u_ws C T N, w ∈ gk_TT) ∧ (∃ ty0 : Nat → FieldType, ∀ k, k < N → parseFieldDescriptor (T k).2.2.1 = some (ty0 k)) ∧ (∀ a, a < N → ∀ b, b < N → a ≠ b → (T a).2.1 ≠ (T b).2.1) := by
  have key : (∀ w ∈ u_ws C T N, w ∈ lw_tbl) → ∀ w ∈ u_ws C T N, w ∈ gk_TT := fun h w hw => gk_TT_of (h w hw) (List.all_eq_true.mp gk_u_lays w hw)
  match ci, hc with
  | 0, hc => cases hc; exact ⟨key (by decide +kernel), ⟨_, tyX1_ok⟩, nmX1⟩
  | 1, hc => cases hc; exact ⟨key (by decide +kernel), ⟨_, tyX2_ok⟩, nmX2⟩
  | 2, hc => cases hc; exact ⟨key (by decide +kernel), ⟨_, tyX3_ok⟩, nmX3⟩
  | 3, hc => cases hc; exact ⟨key (by decide +kernel), ⟨_, tyX4_ok⟩, nmX4⟩
  | 4, hc => cases hc; exact ⟨key (by decide +kernel), ⟨_, tyX5_ok⟩, nmX5⟩
  | 5, hc => cases hc; exact ⟨key (by decide +kernel), ⟨_, tyX6_ok⟩, nmX6⟩
  | 6, hc => cases hc; exact ⟨key (by decide +kernel), ⟨_, tyX7_ok⟩, nmX7⟩
  | 7, hc => cases hc; exact ⟨key (by decide +kernel), ⟨_, tyX8_ok⟩, nmX8⟩
  | 8, hc => cases hc; exact ⟨key (by decide +kernel), ⟨_, tyX9_ok⟩, nmX9⟩
  | 9, hc => cases hc; exact ⟨key (by decide +kernel), ⟨_, tyX10_ok⟩, nmX10⟩
  | 10, hc => cases hc; exact ⟨key (by decide +kernel), ⟨_, tyX11_ok⟩, nmX11⟩
  | k + 11, hc => simp [vwCl] at hc
/-- an entry of a pool's fields says what is so: kd 0 int, 1 boolean, 2 a reference that is read, 5 one that its own constructor writes -/
def gk_kok (own dec : String) (fin : Bool) (b : Option Bool) (kd : Nat) (ty : FieldType) : Prop := match kd with
  | 0 => b = some false ∧ ty = .int ∧ fin = false
  | 1 => b = some false ∧ ty = .boolean ∧ fin = false
  | 2 => b = some true
  | _ => b = some true ∧ fin = true ∧ dec = own ∧ ((∃ n, ty = .object n) ∨ ∃ t, ty = .array t)
def gk_fok (own : String) (idx ci sl kd : Nat) : Prop := ∃ (C : String) (T : u_T) (N : Nat) (ty : FieldType), vwCl[ci]? = some (C, T, N) ∧ sl < N ∧ (gk_bs ci).length = N ∧ Cond.fieldLink own idx (T sl).1 (T sl).2.1 (T sl).2.2.1 ∈ gk_TT ∧ parseFieldDescriptor (T sl).2.2.1 = some ty ∧ gk_kok own (T sl).1 (T sl).2.2.2 ((gk_bs ci)[sl]?) kd ty
theorem gk_fs_get {ad : Nat → Nat} {bs : List Bool} {rs : List (Option Nat)} {f : Nat → Int32} {i : Nat} {b : Bool} (h : bs[i]? = some b) : (gk_fs ad bs rs f)[i]? = some (bif b then va_rf ((rs.getD i none).map ad) else .int (f i)) := by
  rw [gk_fs, List.getElem?_mapIdx, h]; rfl
theorem gk_fs_len {ad : Nat → Nat} {bs : List Bool} {rs : List (Option Nat)} {f : Nat → Int32} : (gk_fs ad bs rs f).length = bs.length := by rw [gk_fs, List.length_mapIdx]
theorem gk_fs_seti {ad : Nat → Nat} {bs : List Bool} {rs : List (Option Nat)} {f : Nat → Int32} {i : Nat} {x : Int32} (h : bs[i]? = some false) : (gk_fs ad bs rs f).set i (.int x) = gk_fs ad bs rs (upd f i x) := by
  have hl : i < bs.length := (List.getElem?_eq_some_iff.mp h).1
  refine List.ext_getElem? fun q => ?_
  by_cases hq : q = i
  · subst hq
    rw [List.getElem?_set_self (by rw [gk_fs_len]; exact hl), gk_fs_get h]
    simp [upd]
  · rw [List.getElem?_set_ne (Ne.symm hq), gk_fs, gk_fs, List.getElem?_mapIdx, List.getElem?_mapIdx]
    simp [upd, hq]
theorem gk_fs_setr {ad : Nat → Nat} {bs : List Bool} {rs : List (Option Nat)} {f : Nat → Int32} {i : Nat} {a : Option Nat} (h : bs[i]? = some true) (hr : i < rs.length) : (gk_fs ad bs rs f).set i (va_rf (a.map ad)) = gk_fs ad bs (rs.set i a) f := by
  have hl : i < bs.length := (List.getElem?_eq_some_iff.mp h).1
  refine List.ext_getElem? fun q => ?_
  by_cases hq : q = i
  · subst hq
    rw [List.getElem?_set_self (by rw [gk_fs_len]; exact hl), gk_fs_get h]
    simp [List.getD_eq_getElem?_getD, List.getElem?_set_self hr]
  · rw [List.getElem?_set_ne (Ne.symm hq), gk_fs, gk_fs, List.getElem?_mapIdx, List.getElem?_mapIdx]
    simp [List.getD_eq_getElem?_getD, List.getElem?_set_ne (Ne.symm hq)]
theorem gk_ad_own {base : Nat} {ro : Nat → Nat} {k : Nat} (h : k < 1000000) : gk_ad base ro k = base + k := if_pos h
theorem gk_ad_ro {base : Nat} {ro : Nat → Nat} {k : Nat} : gk_ad base ro (1000000 + k) = ro k := by
  rw [gk_ad, if_neg (Nat.not_lt.mpr (Nat.le_add_right _ _)), Nat.add_sub_cancel_left]
theorem gk_lt {base : Nat} {ro : Nat → Nat} {cs : Nat → ClassId} {D : va_G} {Γ : gk_G} {h : gk_H} {H : Heap} (hr : gk_rel base ro cs D Γ h H) {k : Nat} {κ : gk_K} (hk : Γ[k]? = some κ) : k < 1000000 := Nat.lt_of_lt_of_le (List.getElem?_eq_some_iff.mp hk).1 hr.1
theorem gk_up_ne {α : Type} {f : Nat → α} {k q : Nat} {v : α} (h : q ≠ k) : va_up f k v q = f q := if_neg h
theorem gk_up_eq {α : Type} {f : Nat → α} {k : Nat} {v : α} : va_up f k v k = v := if_pos rfl
/-- a change of one cell's numbers -/
theorem gk_rel_set {base : Nat} {ro : Nat → Nat} {cs : Nat → ClassId} {D : va_G} {Γ : gk_G} {h h' : gk_H} {H H1 : Heap} {k : Nat} {κ κ' : gk_K} {e : va_E} (hr : gk_rel base ro cs D Γ h H) (hk : Γ[k]? = some κ) (hh : ∀ q, q ≠ k → h'.1 q = h.1 q ∧ h'.2.1 q = h.2.1 q ∧ h'.2.2 q = h.2.2 q) (he : e = gk_cell (gk_ad base ro) cs κ' (h'.1 k) (h'.2.1 k) (h'.2.2 k)) (hP : va_P D vwCl ((gk_ws base (gk_ad base ro) cs Γ h).set k (base + k, e)) H1) : gk_rel base ro cs D (Γ.set k κ') h' H1 := by
  refine ⟨by rw [List.length_set]; exact hr.1, ?_⟩
  rw [he, gk_ws_set hk rfl hh] at hP
  exact hP
theorem gk_rel_set0 {base : Nat} {ro : Nat → Nat} {cs : Nat → ClassId} {D : va_G} {Γ : gk_G} {h h' : gk_H} {H H1 : Heap} {k : Nat} {κ : gk_K} {e : va_E} (hr : gk_rel base ro cs D Γ h H) (hk : Γ[k]? = some κ) (hh : ∀ q, q ≠ k → h'.1 q = h.1 q ∧ h'.2.1 q = h.2.1 q ∧ h'.2.2 q = h.2.2 q) (he : e = gk_cell (gk_ad base ro) cs κ (h'.1 k) (h'.2.1 k) (h'.2.2 k)) (hP : va_P D vwCl ((gk_ws base (gk_ad base ro) cs Γ h).set k (base + k, e)) H1) : gk_rel base ro cs D Γ h' H1 := by
  have h9 := gk_rel_set hr hk hh he hP
  rwa [← gk_set_self hk] at h9
def gk_hf (h : gk_H) (k i : Nat) (x : Int32) : gk_H := (va_up h.1 k (upd (h.1 k) i x), h.2)
def gk_ha (h : gk_H) (k i : Nat) (x : Int32) : gk_H := (h.1, va_up h.2.1 k (upd (h.2.1 k) i x), h.2.2)
def gk_hl (h : gk_H) (k i : Nat) (x : Int64) : gk_H := (h.1, h.2.1, va_up h.2.2 k (vp_updL (h.2.2 k) i x))
section GKH
variable {M : Nat → gk_J} {E : gk_E} {d j : Nat} {cf : Bool} {mc ms : Nat} {Γe : gk_G} {Q : Option Value → gk_H → Prop} {pc : Nat} {L : gk_L} {st : List Value} {Γ : gk_G} {h : gk_H} {nc ns : Nat}
set_option maxHeartbeats 1000000 in
theorem gk_go_get {idx ci sl kd k : Nat} {b : Bool} {rs : List (Option Nat)} (hf : gk_fok (M j).1.cls idx ci sl kd) (hbs : (gk_bs ci)[sl]? = some b) (hk : Γ[k]? = some (0, ci, rs)) (hdg : decode (M j).2.1 pc = .ok (.getfield idx, 3))
    (kk : gk_Go M E d j cf mc ms Γe Q (pc + 3) L ((bif b then va_rf (rs.getD sl none) else .int (h.1 k sl)) :: st) Γ h nc ns) : gk_Go M E d j cf mc ms Γe Q pc L (.ref k :: st) Γ h nc ns := by
  intro p l e R s m args below meth c base ro cs D QF H locs ls X hret hrel hS hL hac
  obtain ⟨hx, hb, hml, hown, hts, hin, hR, hK, hRO, hbs0⟩ := id X
  obtain ⟨C, T, N, ty, h1, h2, h3, h4, h5, h6⟩ := hf
  obtain ⟨c1, ⟨ty0, c2⟩, c3⟩ := gk_clok h1
  have e1 : gk_v (gk_ad base ro) (.ref k) = .ref (base + k) := by show Value.ref (gk_ad base ro k) = _; rw [gk_ad_own (gk_lt hrel hk)]
  rw [List.map_cons, e1]
  refine va_get (D := D) (ci := ci) (C := C) (T := T) (N := N) (v := bif b then va_rf ((rs.getD sl none).map (gk_ad base ro)) else .int (h.1 k sl)) hx hb hts c1 hown hK hrel.2 k (fs := gk_fs (gk_ad base ro) (gk_bs ci) rs (h.1 k)) (gk_ws_get hk) h1 sl h2 (hts _ h4) (fun _ h9 => h9) (gk_fs_get hbs) hdg ?_
  have h9 := kk p l e R s m args below meth c base ro cs D QF H locs ls X hret hrel hS hL hac
  have e2 : gk_v (gk_ad base ro) (bif b then va_rf (rs.getD sl none) else .int (h.1 k sl)) = bif b then va_rf ((rs.getD sl none).map (gk_ad base ro)) else .int (h.1 k sl) := by
    cases b with
    | false => rfl
    | true => cases rs.getD sl none <;> rfl
  rw [List.map_cons, e2] at h9
  exact h9
set_option maxHeartbeats 1000000 in
theorem gk_go_puti {idx ci sl kd k : Nat} {x : Int32} {rs : List (Option Nat)} (hf : gk_fok (M j).1.cls idx ci sl kd) (hkd : kd = 0 ∨ (kd = 1 ∧ (x = 0 ∨ x = 1))) (hk : Γ[k]? = some (0, ci, rs)) (hdg : decode (M j).2.1 pc = .ok (.putfield idx, 3))
    (kk : gk_Go M E d j cf mc ms Γe Q (pc + 3) L st Γ (gk_hf h k sl x) nc ns) : gk_Go M E d j cf mc ms Γe Q pc L (.int x :: .ref k :: st) Γ h nc ns := by
  intro p l e R s m args below meth c base ro cs D QF H locs ls X hret hrel hS hL hac
  obtain ⟨hx, hb, hml, hown, hts, hin, hR, hK, hRO, hbs0⟩ := id X
  obtain ⟨C, T, N, ty, h1, h2, h3, h4, h5, h6⟩ := hf
  obtain ⟨c1, ⟨ty0, c2⟩, c3⟩ := gk_clok h1
  have e1 : gk_v (gk_ad base ro) (.ref k) = .ref (base + k) := by show Value.ref (gk_ad base ro k) = _; rw [gk_ad_own (gk_lt hrel hk)]
  rw [List.map_cons, List.map_cons, e1]
  have h7 : (gk_bs ci)[sl]? = some false ∧ (T sl).2.2.2 = false ∧ narrow ty (.int x) = .int x ∧ fits ty (.int x) = true := by
    rcases hkd with rfl | ⟨rfl, hx01⟩
    · obtain ⟨g1, rfl, g3⟩ := h6; exact ⟨g1, g3, rfl, rfl⟩
    · obtain ⟨g1, rfl, g3⟩ := h6
      rcases hx01 with rfl | rfl <;> exact ⟨g1, g3, by decide +kernel, by decide +kernel⟩
  refine va_put (D := D) (ci := ci) (C := C) (T := T) (N := N) (v := .int x) (A := gk_A base) (H0 := s.heap) hx hb hts c1 ty0 c2 c3 hown hK hrel.2 gk_ws_D hS k (fs := gk_fs (gk_ad base ro) (gk_bs ci) rs (h.1 k)) (gk_ws_get hk) h1 sl h2 (hts _ h4) (fun _ h9 => h9) h7.2.1 h5 h7.2.2.1 h7.2.2.2 (by rw [gk_fs_len, h3]; exact h2) hdg (fun H1 locs1 hP1 hD1 hS1 => ?_)
  refine kk p l e R s m args below meth c base ro cs D QF H1 locs1 ls X hret ?_ hS1 hL hac
  refine gk_rel_set0 hrel hk (fun q hq => ⟨gk_up_ne hq, rfl, rfl⟩) ?_ hP1
  show Sum.inr (ci, _) = Sum.inr (ci, gk_fs (gk_ad base ro) (gk_bs ci) rs (va_up h.1 k (upd (h.1 k) sl x) k))
  rw [gk_up_eq, gk_fs_seti h7.1]
set_option maxHeartbeats 1000000 in
theorem gk_go_putr {idx ci sl kd k : Nat} {a : Option Nat} {rs : List (Option Nat)} (hcf : cf = true) (hf : gk_fok (M j).1.cls idx ci sl kd) (hkd : kd = 5) (hk : Γ[k]? = some (0, ci, rs)) (hr : sl < rs.length) (hdg : decode (M j).2.1 pc = .ok (.putfield idx, 3))
    (kk : gk_Go M E d j cf mc ms Γe Q (pc + 3) L st (Γ.set k (0, ci, rs.set sl a)) h nc ns) : gk_Go M E d j cf mc ms Γe Q pc L (va_rf a :: .ref k :: st) Γ h nc ns := by
  intro p l e R s m args below meth c base ro cs D QF H locs ls X hret hrel hS hL hac
  obtain ⟨hx, hb, hml, hown, hts, hin, hR, hK, hRO, hbs0⟩ := id X
  obtain ⟨C, T, N, ty, h1, h2, h3, h4, h5, h6⟩ := hf
  obtain ⟨c1, ⟨ty0, c2⟩, c3⟩ := gk_clok h1
  subst hkd
  obtain ⟨g1, g2, g3, g4⟩ := h6
  have e1 : gk_v (gk_ad base ro) (.ref k) = .ref (base + k) := by show Value.ref (gk_ad base ro k) = _; rw [gk_ad_own (gk_lt hrel hk)]
  have e2 : gk_v (gk_ad base ro) (va_rf a) = va_rf (a.map (gk_ad base ro)) := by cases a <;> rfl
  rw [List.map_cons, List.map_cons, e1, e2]
  have h7 : narrow ty (va_rf (a.map (gk_ad base ro))) = va_rf (a.map (gk_ad base ro)) ∧ fits ty (va_rf (a.map (gk_ad base ro))) = true := by
    rcases g4 with ⟨n, rfl⟩ | ⟨t, rfl⟩ <;> cases a <;> exact ⟨rfl, rfl⟩
  refine va_putF (D := D) (ci := ci) (C := C) (T := T) (N := N) (v := va_rf (a.map (gk_ad base ro))) (A := gk_A base) (H0 := s.heap) hx hb hts c1 ty0 c2 c3 hown hK hrel.2 gk_ws_D hS k (fs := gk_fs (gk_ad base ro) (gk_bs ci) rs (h.1 k)) (gk_ws_get hk) h1 sl h2 (hts _ h4) (fun _ h9 => h9) g2 (hin hcf) g3 h5 h7.1 h7.2 (by rw [gk_fs_len, h3]; exact h2) hdg (fun H1 locs1 hP1 hD1 hS1 => ?_)
  refine kk p l e R s m args below meth c base ro cs D QF H1 locs1 ls X hret ?_ hS1 hL (by rw [List.length_set]; exact hac)
  refine gk_rel_set hrel hk (fun q hq => ⟨rfl, rfl, rfl⟩) ?_ hP1
  show Sum.inr (ci, _) = Sum.inr (ci, gk_fs (gk_ad base ro) (gk_bs ci) (rs.set sl a) (h.1 k))
  rw [gk_fs_setr g1 hr]
theorem gk_go_iald {k n : Nat} {i : Int32} {rs : List (Option Nat)} (hk : Γ[k]? = some (1, n, rs)) (hi : vp_in i n) (hdg : decode (M j).2.1 pc = .ok (.iaload, 1)) (kk : gk_Go M E d j cf mc ms Γe Q (pc + 1) L (.int (h.2.1 k i.toNatClampNeg) :: st) Γ h nc ns) : gk_Go M E d j cf mc ms Γe Q pc L (.int i :: .ref k :: st) Γ h nc ns := by
  intro p l e R s m args below meth c base ro cs D QF H locs ls X hret hrel hS hL hac
  obtain ⟨hx, hb, hml, hown, hts, hin, hR, hK, hRO, hbs0⟩ := id X
  have e1 : gk_v (gk_ad base ro) (.ref k) = .ref (base + k) := by show Value.ref (gk_ad base ro k) = _; rw [gk_ad_own (gk_lt hrel hk)]
  rw [List.map_cons, List.map_cons, e1]
  exact va_iald (D := D) (cA := cs 0) (n := n) (f := h.2.1 k) hx hb hK hrel.2 k 0 (gk_ws_get hk) rfl hi hdg (kk p l e R s m args below meth c base ro cs D QF H locs ls X hret hrel hS hL hac)
theorem gk_go_cald {k n : Nat} {i : Int32} {rs : List (Option Nat)} (hk : Γ[k]? = some (2, n, rs)) (hi : vp_in i n) (hdg : decode (M j).2.1 pc = .ok (.caload, 1)) (kk : gk_Go M E d j cf mc ms Γe Q (pc + 1) L (.int (h.2.1 k i.toNatClampNeg) :: st) Γ h nc ns) : gk_Go M E d j cf mc ms Γe Q pc L (.int i :: .ref k :: st) Γ h nc ns := by
  intro p l e R s m args below meth c base ro cs D QF H locs ls X hret hrel hS hL hac
  obtain ⟨hx, hb, hml, hown, hts, hin, hR, hK, hRO, hbs0⟩ := id X
  have e1 : gk_v (gk_ad base ro) (.ref k) = .ref (base + k) := by show Value.ref (gk_ad base ro k) = _; rw [gk_ad_own (gk_lt hrel hk)]
  rw [List.map_cons, List.map_cons, e1]
  exact va_cald (D := D) (cA := cs 1) (n := n) (f := h.2.1 k) hx hb hK hrel.2 k 1 (gk_ws_get hk) rfl hi hdg (kk p l e R s m args below meth c base ro cs D QF H locs ls X hret hrel hS hL hac)
theorem gk_go_lald {k n : Nat} {i : Int32} {rs : List (Option Nat)} (hk : Γ[k]? = some (3, n, rs)) (hi : vp_in i n) (hdg : decode (M j).2.1 pc = .ok (.laload, 1)) (kk : gk_Go M E d j cf mc ms Γe Q (pc + 1) L (.long (h.2.2 k i.toNatClampNeg) :: st) Γ h nc ns) : gk_Go M E d j cf mc ms Γe Q pc L (.int i :: .ref k :: st) Γ h nc ns := by
  intro p l e R s m args below meth c base ro cs D QF H locs ls X hret hrel hS hL hac
  obtain ⟨hx, hb, hml, hown, hts, hin, hR, hK, hRO, hbs0⟩ := id X
  have e1 : gk_v (gk_ad base ro) (.ref k) = .ref (base + k) := by show Value.ref (gk_ad base ro k) = _; rw [gk_ad_own (gk_lt hrel hk)]
  rw [List.map_cons, List.map_cons, e1]
  exact va_lald (D := D) (cA := cs 2) (n := n) (f := h.2.2 k) hx hb hK hrel.2 k 2 (gk_ws_get hk) rfl hi hdg (kk p l e R s m args below meth c base ro cs D QF H locs ls X hret hrel hS hL hac)
theorem gk_go_iast {k n : Nat} {i x : Int32} {rs : List (Option Nat)} (hk : Γ[k]? = some (1, n, rs)) (hi : vp_in i n) (hdg : decode (M j).2.1 pc = .ok (.iastore, 1)) (kk : gk_Go M E d j cf mc ms Γe Q (pc + 1) L st Γ (gk_ha h k i.toNatClampNeg x) nc ns) : gk_Go M E d j cf mc ms Γe Q pc L (.int x :: .int i :: .ref k :: st) Γ h nc ns := by
  intro p l e R s m args below meth c base ro cs D QF H locs ls X hret hrel hS hL hac
  obtain ⟨hx, hb, hml, hown, hts, hin, hR, hK, hRO, hbs0⟩ := id X
  have e1 : gk_v (gk_ad base ro) (.ref k) = .ref (base + k) := by show Value.ref (gk_ad base ro k) = _; rw [gk_ad_own (gk_lt hrel hk)]
  rw [List.map_cons, List.map_cons, List.map_cons, e1]
  refine va_iast (D := D) (cA := cs 0) (n := n) (f := h.2.1 k) (A := gk_A base) (H0 := s.heap) hx hb hK hrel.2 gk_ws_D hS k 0 (gk_ws_get hk) rfl hi hdg (fun H1 locs1 hP1 hD1 hS1 => ?_)
  refine kk p l e R s m args below meth c base ro cs D QF H1 locs1 ls X hret ?_ hS1 hL hac
  refine gk_rel_set0 hrel hk (fun q hq => ⟨rfl, gk_up_ne hq, rfl⟩) ?_ hP1
  show _ = Sum.inl (cs 0, n, Sum.inl (va_up h.2.1 k (upd (h.2.1 k) i.toNatClampNeg x) k))
  rw [gk_up_eq]
theorem gk_go_cast {k n : Nat} {i x : Int32} {rs : List (Option Nat)} (hk : Γ[k]? = some (2, n, rs)) (hi : vp_in i n) (hdg : decode (M j).2.1 pc = .ok (.castore, 1)) (kk : gk_Go M E d j cf mc ms Γe Q (pc + 1) L st Γ (gk_ha h k i.toNatClampNeg (vp_nar .char x)) nc ns) : gk_Go M E d j cf mc ms Γe Q pc L (.int x :: .int i :: .ref k :: st) Γ h nc ns := by
  intro p l e R s m args below meth c base ro cs D QF H locs ls X hret hrel hS hL hac
  obtain ⟨hx, hb, hml, hown, hts, hin, hR, hK, hRO, hbs0⟩ := id X
  have e1 : gk_v (gk_ad base ro) (.ref k) = .ref (base + k) := by show Value.ref (gk_ad base ro k) = _; rw [gk_ad_own (gk_lt hrel hk)]
  rw [List.map_cons, List.map_cons, List.map_cons, e1]
  refine va_cast (D := D) (cA := cs 1) (n := n) (f := h.2.1 k) (A := gk_A base) (H0 := s.heap) hx hb hK hrel.2 gk_ws_D hS k 1 (gk_ws_get hk) rfl hi hdg (fun H1 locs1 hP1 hD1 hS1 => ?_)
  refine kk p l e R s m args below meth c base ro cs D QF H1 locs1 ls X hret ?_ hS1 hL hac
  refine gk_rel_set0 hrel hk (fun q hq => ⟨rfl, gk_up_ne hq, rfl⟩) ?_ hP1
  show _ = Sum.inl (cs 1, n, Sum.inl (va_up h.2.1 k (upd (h.2.1 k) i.toNatClampNeg (vp_nar .char x)) k))
  rw [gk_up_eq]
theorem gk_go_last {k n : Nat} {i : Int32} {x : Int64} {rs : List (Option Nat)} (hk : Γ[k]? = some (3, n, rs)) (hi : vp_in i n) (hdg : decode (M j).2.1 pc = .ok (.lastore, 1)) (kk : gk_Go M E d j cf mc ms Γe Q (pc + 1) L st Γ (gk_hl h k i.toNatClampNeg x) nc ns) : gk_Go M E d j cf mc ms Γe Q pc L (.long x :: .int i :: .ref k :: st) Γ h nc ns := by
  intro p l e R s m args below meth c base ro cs D QF H locs ls X hret hrel hS hL hac
  obtain ⟨hx, hb, hml, hown, hts, hin, hR, hK, hRO, hbs0⟩ := id X
  have e1 : gk_v (gk_ad base ro) (.ref k) = .ref (base + k) := by show Value.ref (gk_ad base ro k) = _; rw [gk_ad_own (gk_lt hrel hk)]
  rw [List.map_cons, List.map_cons, List.map_cons, e1]
  refine va_last (D := D) (cA := cs 2) (n := n) (f := h.2.2 k) (A := gk_A base) (H0 := s.heap) hx hb hK hrel.2 gk_ws_D hS k 2 (gk_ws_get hk) rfl hi hdg (fun H1 locs1 hP1 hD1 hS1 => ?_)
  refine kk p l e R s m args below meth c base ro cs D QF H1 locs1 ls X hret ?_ hS1 hL hac
  refine gk_rel_set0 hrel hk (fun q hq => ⟨rfl, rfl, gk_up_ne hq⟩) ?_ hP1
  show _ = Sum.inl (cs 2, n, Sum.inr (Sum.inl (va_up h.2.2 k (vp_updL (h.2.2 k) i.toNatClampNeg x) k)))
  rw [gk_up_eq]
theorem gk_go_alen {k t n : Nat} {rs : List (Option Nat)} (hk : Γ[k]? = some (t, n, rs)) (ht : t = 1 ∨ t = 2 ∨ t = 3) (hdg : decode (M j).2.1 pc = .ok (.arraylength, 1)) (kk : gk_Go M E d j cf mc ms Γe Q (pc + 1) L (.int (OfNat.ofNat n) :: st) Γ h nc ns) : gk_Go M E d j cf mc ms Γe Q pc L (.ref k :: st) Γ h nc ns := by
  intro p l e R s m args below meth c base ro cs D QF H locs ls X hret hrel hS hL hac
  obtain ⟨hx, hb, hml, hown, hts, hin, hR, hK, hRO, hbs0⟩ := id X
  have e1 : gk_v (gk_ad base ro) (.ref k) = .ref (base + k) := by show Value.ref (gk_ad base ro k) = _; rw [gk_ad_own (gk_lt hrel hk)]
  rw [List.map_cons, e1]
  have h9 := kk p l e R s m args below meth c base ro cs D QF H locs ls X hret hrel hS hL hac
  rcases ht with rfl | rfl | rfl
  · exact va_alen (D := D) (cA := cs 0) (x := (n, .inl (h.2.1 k))) hx hb hK hrel.2 k 0 (gk_ws_get hk) rfl rfl hdg h9
  · exact va_alen (D := D) (cA := cs 1) (x := (n, .inl (h.2.1 k))) hx hb hK hrel.2 k 1 (gk_ws_get hk) rfl rfl hdg h9
  · exact va_alen (D := D) (cA := cs 2) (x := (n, .inr (.inl (h.2.2 k)))) hx hb hK hrel.2 k 2 (gk_ws_get hk) rfl rfl hdg h9
theorem gk_go_aald {k n : Nat} {i : Int32} {rs : List (Option Nat)} (hk : Γ[k]? = some (4, n, rs)) (hi : vp_in i n) (hdg : decode (M j).2.1 pc = .ok (.aaload, 1)) (kk : gk_Go M E d j cf mc ms Γe Q (pc + 1) L (va_rf (rs.getD i.toNatClampNeg none) :: st) Γ h nc ns) : gk_Go M E d j cf mc ms Γe Q pc L (.int i :: .ref k :: st) Γ h nc ns := by
  intro p l e R s m args below meth c base ro cs D QF H locs ls X hret hrel hS hL hac
  obtain ⟨hx, hb, hml, hown, hts, hin, hR, hK, hRO, hbs0⟩ := id X
  have e1 : gk_v (gk_ad base ro) (.ref k) = .ref (base + k) := by show Value.ref (gk_ad base ro k) = _; rw [gk_ad_own (gk_lt hrel hk)]
  rw [List.map_cons, List.map_cons, e1]
  have h9 := kk p l e R s m args below meth c base ro cs D QF H locs ls X hret hrel hS hL hac
  have e2 : gk_v (gk_ad base ro) (va_rf (rs.getD i.toNatClampNeg none)) = va_rf ((rs.getD i.toNatClampNeg none).map (gk_ad base ro)) := by cases rs.getD i.toNatClampNeg none <;> rfl
  rw [List.map_cons, e2] at h9
  exact va_aldq (D := D) (cA := cs 3) (C := "DryPlaces$World") (n := n) (f := fun i => (rs.getD i none).map (gk_ad base ro)) hx hb hK hrel.2 k 3 (gk_ws_get hk) rfl hi hdg h9
end GKH
end
section
/-! branches, calls, ends -/
section GKB
variable {p : Program} {l : Launch} {e : Env} {R : Room} {s : State} {m : MethodId} {args : Array Value} {below : List Frame} {meth : Method} {c : Code} {H : Heap} {locs : List Loc} {cells slots : Nat} {Qw : State → Prop}
/-- a heap is as large as the cells that were made -/
theorem gk_size {g : JFrame} (k : H.size ≤ s.heap.size + cells → W p l e R s m args below meth c H locs cells slots Qw g) : W p l e R s m args below meth c H locs cells slots Qw g := by
  intro T hT X
  refine k ?_ T hT X
  rw [← hT]
  exact X.same.2.2.1
variable {pc : Nat} {ls : Array Slot} {rest st0 : List Value} {a : Array Value} {mc' ms' base : Nat} {ro : Nat → Nat} {cs : Nat → ClassId} {D : va_G} {Γ1 : gk_G} {Q' : Option Value → gk_H → Prop}
theorem gk_run_use (hr : va_Run p l e R s m args below meth c H locs cells slots mc' ms' (F0 m pc ls st0) rest (gk_Qc base ro cs D Γ1 Q' a) (gk_A base)) (hbs : base ≤ s.heap.size) (hS : va_S (gk_A base) s.heap H locs)
    (kk : ∀ (v : Option Value) (h1 : gk_H) (H1 : Heap) (locs1 : List Loc), Q' v h1 → gk_rel base ro cs D Γ1 h1 H1 → va_S (gk_A base) s.heap H1 locs1 → W p l e R s m args below meth c H1 locs1 (cells + mc') (slots + ms') Qw (F0 m (pc + 3) ls ((v.map (gk_v (gk_ad base ro))).toList ++ rest))) : W p l e R s m args below meth c H locs cells slots Qw (F0 m pc ls st0) := by
  intro T hT X
  obtain ⟨v, st₀, t, T', L, h0, X', hL, e1, e2, ⟨⟨v', h1, hv, hq, hrl⟩, hz, hk⟩, st⟩ := hr T hT X
  have hv' : v = v'.map (gk_v (gk_ad base ro)) := by
    have := hv; injection this
  subst hv'
  rw [h0] at hz hk
  obtain ⟨t2, a1, b1⟩ := kk v' h1 T'.heap (locs ++ L) hq (by rw [e1]; exact hrl)
    ⟨Nat.le_trans hS.1 (by rw [e1]; exact hz), fun q h1 h2 => by rw [e1, hk q (Nat.lt_of_lt_of_le h1 hS.1) h2]; exact hS.2.1 q h1 h2, fun q hq => by
      rcases List.mem_append.mp hq with h | h
      · exact hS.2.2 q h
      · exact hL q h⟩ T' rfl X'
  exact ⟨t2, st t2 a1, b1⟩
end GKB
theorem gk_low {base : Nat} {ro : Nat → Nat} {cs : Nat → ClassId} {D : va_G} {Γ : gk_G} {h : gk_H} {H : Heap} (hr : gk_rel base ro cs D Γ h H) (hb : base ≤ H.size) : base + Γ.length ≤ H.size := by
  cases hl : Γ.length with
  | zero => exact hb
  | succ n =>
    have hk : Γ[n]? = some Γ[n] := List.getElem?_eq_getElem (by omega)
    have h1 := (hr.2 n _ (gk_ws_get hk)).lt
    show base + (n + 1) ≤ H.size
    have h2 : base + n < H.size := h1
    omega
theorem gk_blind {E : gk_E} {base : Nat} {ro : Nat → Nat} {cs : Nat → ClassId} {D : va_G} {av : List Value} {Γ : gk_G} {h : gk_H} : FrameBlind (gk_Pc E base ro cs D av Γ h) := by
  intro a U g mk hp
  obtain ⟨h1, h2, h3, h4, h5⟩ := hp
  exact ⟨h1, h2, h3, va_K.moved (u := U) (U := U.calling g mk a) (Vm.Alike.refl U.vm) h4, gk_RO.same (s := U) (U := U.calling g mk a) rfl h5⟩
theorem gk_goodIn {ws0 : List Cond} {J : gk_J} (h0 : ∀ w ∈ ws0, w ∈ gk_TT) (hc : Cond.code J.1 J.2.1 J.2.2.1 J.2.2.2 ∈ gk_TT) : GoodIn gk_TT (ws0 ++ gk_wd J) := by
  intro w hw
  rcases List.mem_append.mp hw with h | h
  · exact ⟨h0 w h, gk_TT_good (h0 w h)⟩
  · rcases List.mem_cons.mp h with h | h
    · rw [h]; exact ⟨hc, gk_TT_good hc⟩
    · exact ⟨h, gk_TT_good h⟩
/-- what a call's entry says: the callee's words are the tables', its arguments, its locals -/
def gk_jok (J : gk_J) (n : Nat) : Prop := Cond.code J.1 J.2.1 J.2.2.1 J.2.2.2 ∈ gk_TT ∧ Cond.initialized J.1.cls ∈ gk_TT ∧ (J.1.cls ≠ "java/lang/invoke/MethodHandle" ∧ J.1.cls ≠ "java/lang/invoke/VarHandle" ∧ (parseMethodDescriptor J.1.desc).map (fun d => d.parameters.length) = some n) ∧ J.2.2.1 ≤ 41
def gk_cok (own : String) (idx kd : Nat) (J : gk_J) (ci n : Nat) : Prop := gk_jok J n ∧ match kd with
  | 0 => (∃ (T : u_T) (N : Nat), vwCl[ci]? = some (J.1.cls, T, N)) ∧ ∀ w ∈ ([.methodLink own idx J.1, .instanceMethod J.1, .selects J.1.cls J.1 J.1] : List Cond), w ∈ gk_TT
  | 1 => ∀ w ∈ ([.methodLink own idx J.1, .static J.1] : List Cond), w ∈ gk_TT
  | 2 => J.2.2.2 = none ∧ J.1.name = "<init>" ∧ ∀ w ∈ ([.methodLink own idx J.1, .instanceMethod J.1] : List Cond), w ∈ gk_TT
  | 5 => Cond.static J.1 ∈ gk_TT ∧ Cond.methodLinkNest own idx J.1 "DryPlaces" ∈ gk_nest
  | 6 => J.2.2.2 = none ∧ J.1.name = "<init>" ∧ Cond.instanceMethod J.1 ∈ gk_TT ∧ Cond.methodLinkNest own idx J.1 "DryPlaces" ∈ gk_nest
  | 7 => J.1.cls = "java/lang/String" ∧ ∀ w ∈ ([.methodLink own idx J.1, .instanceMethod J.1, .selects J.1.cls J.1 J.1] : List Cond), w ∈ gk_TT
  | _ => False
section GKC
variable {M : Nat → gk_J} {E : gk_E} {d j : Nat} {cf : Bool} {mc ms : Nat} {Γe : gk_G} {Q : Option Value → gk_H → Prop} {pc : Nat} {L : gk_L} {st : List Value} {Γ : gk_G} {h : gk_H} {nc ns : Nat}
theorem gk_map_st {ad : Nat → Nat} {av st : List Value} {k : Nat} : (av.reverse ++ .ref k :: st).map (gk_v ad) = (av.map (gk_v ad)).reverse ++ .ref (ad k) :: st.map (gk_v ad) := by
  rw [List.map_append, List.map_reverse]; rfl
theorem gk_cat_sum {ad : Nat → Nat} {st : List Value} : ((st.map (gk_v ad)).map fun v => v.category).sum = (st.map fun v => v.category).sum := by
  rw [List.map_map]; congr 1; refine List.map_congr_left fun v _ => gk_cat ad v
theorem gk_opt_st {ad : Nat → Nat} {v : Option Value} {st : List Value} : (v.toList ++ st).map (gk_v ad) = (v.map (gk_v ad)).toList ++ st.map (gk_v ad) := by
  cases v <;> rfl
set_option maxHeartbeats 2000000 in
/-- a call of an own object's method (kd 0), of a text's (kd 7) -/
theorem gk_go_callV {idx kd j' ci n d' mc' ms' k : Nat} {av : List Value} {Γ1 : gk_G} {Q' : Option Value → gk_H → Prop} (hok : gk_cok (M j).1.cls idx kd (M j') ci n) (hkd : (kd = 0 ∧ ∃ rs, Γ[k]? = some (0, ci, rs)) ∨ (kd = 7 ∧ (k = 1000001 ∨ k = 1000002))) (hn : av.length = n) (hd : d' + 1 ≤ d) (hcat : (st.map fun v => v.category).sum ≤ 8)
    (hcon : gk_Con M E d' j' (.ref k :: av) Γ Γ1 h mc' ms' Q') (hlen : Γ1.length = Γ.length + mc') (hroom : nc + mc' ≤ mc ∧ ns + ms' ≤ ms) (hdg : decode (M j).2.1 pc = .ok (.invokevirtual idx, 3))
    (kk : ∀ (v : Option Value) (h1 : gk_H), Q' v h1 → gk_Go M E d j cf mc ms Γe Q (pc + 3) L (v.toList ++ st) Γ1 h1 (nc + mc') (ns + ms')) : gk_Go M E d j cf mc ms Γe Q pc L (av.reverse ++ .ref k :: st) Γ h nc ns := by
  intro p l e R s m args below meth c base ro cs D QF H locs ls X hret hrel hS hL hac
  obtain ⟨hx, hb, hml, hown, hts, hin, hR, hK, hRO, hbs0⟩ := id X
  obtain ⟨⟨j1, j2, j3, j4⟩, hkk⟩ := hok
  have hw : ∀ w ∈ ([.methodLink (M j).1.cls idx (M j').1, .instanceMethod (M j').1, .selects (M j').1.cls (M j').1 (M j').1] : List Cond), w ∈ gk_TT := by
    rcases hkd with ⟨rfl, -⟩ | ⟨rfl, -⟩
    · exact hkk.2
    · exact hkk.2
  have hrecv : ∃ cell : Cell, H[gk_ad base ro k]? = some cell ∧ cell.vm.isStatics = false ∧ s.vm.findClass (M j').1.cls = some cell.cls := by
    rcases hkd with ⟨rfl, rs, hk⟩ | ⟨rfl, hk⟩
    · obtain ⟨⟨T, N, hc⟩, -⟩ := hkk
      rw [gk_ad_own (gk_lt hrel hk)]
      exact va_recv (q := ((M j').1.cls, T, N)) hK hrel.2 hc (gk_ws_get hk)
    · rw [hkk.1]
      rcases hk with rfl | rfl
      · exact vk_recv (i := 0) hRO.2.1 (by decide) hS
      · exact vk_recv (i := 1) hRO.2.1 (by decide) hS
  refine gk_size fun hsz => ?_
  have hlow := gk_low hrel (Nat.le_trans hbs0 hS.1)
  rw [gk_map_st]
  have hG : GoodIn gk_TT (wsV (M j).1.cls idx (M j').1.cls (M j').1 (gk_wd (M j'))) := gk_goodIn (fun w hw9 => by
    simp only [List.mem_cons, List.not_mem_nil, or_false] at hw9 hw
    rcases hw9 with h9 | h9 | h9 | h9
    · exact hw w (Or.inl h9)
    · exact hw w (Or.inr (Or.inl h9))
    · exact hw w (Or.inr (Or.inr h9))
    · rw [h9]; exact j2) j1
  refine gk_run_use (va_runV (As := av.map (gk_v (gk_ad base ro))) (rest := st.map (gk_v (gk_ad base ro))) (b := gk_ad base ro k) ⟨hx, hb, hml, hown, hts⟩ (hcon l base ro cs D) (cwV n hts hG rfl rfl rfl ⟨rfl, j3⟩ ⟨by show d' + 1 ≤ _; omega, by show 8 + ((M j').2.2.1 + 11) + 60 * d' ≤ _; omega⟩) ⟨gk_blind, hrecv, fun U hU hW => ⟨rfl, by rw [hU]; omega, by rw [hU]; exact hrel, va_K.moved hW.alike hK, by rw [hU]; exact (hRO.kept hS.2.1).warm hW⟩⟩ rfl (by rw [List.length_map]; exact hn) hL.1 rfl (lv_room (by rw [gk_cat_sum]; exact hcat)) hdg ⟨by omega, by omega⟩) hbs0 hS (fun v h1 H1 locs1 hq hrl hS1 => ?_)
  have h9 := kk v h1 hq p l e R s m args below meth c base ro cs D QF H1 locs1 ls X hret hrl hS1 hL (by omega)
  rw [gk_opt_st] at h9
  exact h9
set_option maxHeartbeats 2000000 in
theorem gk_go_callS {idx kd j' ci n d' mc' ms' : Nat} {av : List Value} {Γ1 : gk_G} {Q' : Option Value → gk_H → Prop} (hok : gk_cok (M j).1.cls idx kd (M j') ci n) (hkd : kd = 1 ∨ kd = 5) (hn : av.length = n) (hd : d' + 1 ≤ d) (hcat : (st.map fun v => v.category).sum ≤ 8)
    (hcon : gk_Con M E d' j' av Γ Γ1 h mc' ms' Q') (hlen : Γ1.length = Γ.length + mc') (hroom : nc + mc' ≤ mc ∧ ns + ms' ≤ ms) (hdg : decode (M j).2.1 pc = .ok (.invokestatic idx, 3))
    (kk : ∀ (v : Option Value) (h1 : gk_H), Q' v h1 → gk_Go M E d j cf mc ms Γe Q (pc + 3) L (v.toList ++ st) Γ1 h1 (nc + mc') (ns + ms')) : gk_Go M E d j cf mc ms Γe Q pc L (av.reverse ++ st) Γ h nc ns := by
  intro p l e R s m args below meth c base ro cs D QF H locs ls X hret hrel hS hL hac
  obtain ⟨hx, hb, hml, hown, hts, hin, hR, hK, hRO, hbs0⟩ := id X
  obtain ⟨⟨j1, j2, j3, j4⟩, hkk⟩ := hok
  refine gk_size fun hsz => ?_
  have hlow := gk_low hrel (Nat.le_trans hbs0 hS.1)
  rw [List.map_append, List.map_reverse]
  have hpre : PreS s H (gk_Pc E base ro cs D av Γ h) (av.map (gk_v (gk_ad base ro))) := ⟨gk_blind, fun U hU hW => ⟨rfl, by rw [hU]; omega, by rw [hU]; exact hrel, va_K.moved hW.alike hK, by rw [hU]; exact (hRO.kept hS.2.1).warm hW⟩⟩
  have hRR : (gk_rm d' mc' ms').frames + 1 ≤ R.frames ∧ 8 + ((M j').2.2.1 + 11) + (gk_rm d' mc' ms').locals ≤ R.locals := ⟨by show d' + 1 ≤ _; omega, by show 8 + ((M j').2.2.1 + 11) + 60 * d' ≤ _; omega⟩
  have hrun : va_Run p l e R s m args below meth c H locs nc ns mc' ms' (F0 m pc ls ((av.map (gk_v (gk_ad base ro))).reverse ++ st.map (gk_v (gk_ad base ro)))) (st.map (gk_v (gk_ad base ro))) (gk_Qc base ro cs D Γ1 Q' (av.map (gk_v (gk_ad base ro))).toArray) (gk_A base) := by
    rcases hkd with rfl | rfl
    · have hG : GoodIn gk_TT (va_wsS (M j).1.cls idx (M j').1 (gk_wd (M j'))) := gk_goodIn (fun w hw9 => by
        simp only [List.mem_cons, List.not_mem_nil, or_false] at hw9
        rcases hw9 with h9 | h9 | h9
        · exact hkk w (by rw [h9]; simp)
        · exact hkk w (by rw [h9]; simp)
        · rw [h9]; exact j2) j1
      exact va_runS (As := av.map (gk_v (gk_ad base ro))) (rest := st.map (gk_v (gk_ad base ro))) ⟨hx, hb, hml, hown, hts⟩ (hcon l base ro cs D) (va_cwS n hts hG rfl rfl rfl j3 hRR) hpre rfl (by rw [List.length_map]; exact hn) hL.1 rfl (lv_room (by rw [gk_cat_sum]; exact hcat)) hdg ⟨by omega, by omega⟩
    · obtain ⟨g1, g2⟩ := hkk
      exact va_runSN (As := av.map (gk_v (gk_ad base ro))) (rest := st.map (gk_v (gk_ad base ro))) ⟨hx, hb, hml, hown, hts⟩ (hcon l base ro cs D) ⟨va_cnB n hts (gk_goodIn (ws0 := []) (fun w h9 => by cases h9) j1) rfl rfl rfl (hRO.2.2.2.2.1 _ g2) (hts _ j2) j3 hRR, hts _ g1, trivial⟩ hpre rfl (by rw [List.length_map]; exact hn) hL.1 rfl (lv_room (by rw [gk_cat_sum]; exact hcat)) hdg ⟨by omega, by omega⟩
  refine gk_run_use hrun hbs0 hS (fun v h1 H1 locs1 hq hrl hS1 => ?_)
  have h9 := kk v h1 hq p l e R s m args below meth c base ro cs D QF H1 locs1 ls X hret hrl hS1 hL (by omega)
  rw [gk_opt_st] at h9
  exact h9
set_option maxHeartbeats 2000000 in
theorem gk_go_callI {idx kd j' ci n d' mc' ms' k : Nat} {av : List Value} {Γ1 : gk_G} {Q' : Option Value → gk_H → Prop} (hok : gk_cok (M j).1.cls idx kd (M j') ci n) (hkd : kd = 2 ∨ kd = 6) (hn : av.length = n) (hd : d' + 1 ≤ d) (hcat : (st.map fun v => v.category).sum ≤ 8)
    (hcon : gk_Con M E d' j' (.ref k :: av) Γ Γ1 h mc' ms' Q') (hlen : Γ1.length = Γ.length + mc') (hroom : nc + mc' ≤ mc ∧ ns + ms' ≤ ms) (hdg : decode (M j).2.1 pc = .ok (.invokespecial idx, 3))
    (kk : ∀ (v : Option Value) (h1 : gk_H), Q' v h1 → gk_Go M E d j cf mc ms Γe Q (pc + 3) L (v.toList ++ st) Γ1 h1 (nc + mc') (ns + ms')) : gk_Go M E d j cf mc ms Γe Q pc L (av.reverse ++ .ref k :: st) Γ h nc ns := by
  intro p l e R s m args below meth c base ro cs D QF H locs ls X hret hrel hS hL hac
  obtain ⟨hx, hb, hml, hown, hts, hin, hR, hK, hRO, hbs0⟩ := id X
  obtain ⟨⟨j1, j2, j3, j4⟩, hkk⟩ := hok
  refine gk_size fun hsz => ?_
  have hlow := gk_low hrel (Nat.le_trans hbs0 hS.1)
  rw [gk_map_st]
  have hpre : PreS s H (gk_Pc E base ro cs D (.ref k :: av) Γ h) (.ref (gk_ad base ro k) :: av.map (gk_v (gk_ad base ro))) := ⟨gk_blind, fun U hU hW => ⟨rfl, by rw [hU]; omega, by rw [hU]; exact hrel, va_K.moved hW.alike hK, by rw [hU]; exact (hRO.kept hS.2.1).warm hW⟩⟩
  have hRR : (gk_rm d' mc' ms').frames + 1 ≤ R.frames ∧ 8 + ((M j').2.2.1 + 11) + (gk_rm d' mc' ms').locals ≤ R.locals := ⟨by show d' + 1 ≤ _; omega, by show 8 + ((M j').2.2.1 + 11) + 60 * d' ≤ _; omega⟩
  have hG : GoodIn gk_TT (gk_wd (M j')) := gk_goodIn (ws0 := []) (fun w h9 => by cases h9) j1
  have hrun : va_Run p l e R s m args below meth c H locs nc ns mc' ms' (F0 m pc ls ((av.map (gk_v (gk_ad base ro))).reverse ++ .ref (gk_ad base ro k) :: st.map (gk_v (gk_ad base ro)))) (st.map (gk_v (gk_ad base ro))) (gk_Qc base ro cs D Γ1 Q' (Value.ref (gk_ad base ro k) :: av.map (gk_v (gk_ad base ro))).toArray) (gk_A base) := by
    rcases hkd with rfl | rfl
    · obtain ⟨g1, g2, g3⟩ := hkk
      exact va_runI (As := av.map (gk_v (gk_ad base ro))) (rest := st.map (gk_v (gk_ad base ro))) (b := gk_ad base ro k) ⟨hx, hb, hml, hown, hts⟩ (hcon l base ro cs D) (cwI n hts hG (by rw [gk_wd, g1]) rfl rfl (hts _ j2) (hts _ (g3 _ (by simp))) (hts _ (g3 _ (by simp))) g2 j3 hRR) hpre rfl (by rw [List.length_map]; exact hn) hL.1 rfl (lv_room (by rw [gk_cat_sum]; exact hcat)) hdg ⟨by omega, by omega⟩
    · obtain ⟨g1, g2, g3, g4⟩ := hkk
      exact va_runIN (As := av.map (gk_v (gk_ad base ro))) (rest := st.map (gk_v (gk_ad base ro))) (b := gk_ad base ro k) ⟨hx, hb, hml, hown, hts⟩ (hcon l base ro cs D) ⟨va_cnB n hts hG (by rw [gk_wd, g1]) rfl rfl (hRO.2.2.2.2.1 _ g4) (hts _ j2) j3 hRR, g2, hts _ g3⟩ hpre rfl (by rw [List.length_map]; exact hn) hL.1 rfl (lv_room (by rw [gk_cat_sum]; exact hcat)) hdg ⟨by omega, by omega⟩
  refine gk_run_use hrun hbs0 hS (fun v h1 H1 locs1 hq hrl hS1 => ?_)
  have h9 := kk v h1 hq p l e R s m args below meth c base ro cs D QF H1 locs1 ls X hret hrl hS1 hL (by omega)
  rw [gk_opt_st] at h9
  exact h9
end GKC
end
section
/-! what is read alone, switches, ends, makings -/
def gk_sw (x : Int32) (td : Nat) (K : Nat → Prop) : List (Int32 × Nat) → Prop
  | [] => K td
  | (v, t) :: r => (x = v → K t) ∧ (¬ x = v → gk_sw x td K r)
theorem gk_sw_miss {x : Int32} {td : Nat} {K : Nat → Prop} : ∀ {sw : List (Int32 × Nat)}, gk_sw x td K sw → (∀ q ∈ sw, ¬ x = q.1) → K td := by
  intro sw
  induction sw with
  | nil => intro h _; exact h
  | cons q r ih =>
    intro h hn
    exact ih (h.2 (hn q List.mem_cons_self)) (fun q' hq' => hn q' (List.mem_cons_of_mem _ hq'))
theorem gk_sw_hit {x : Int32} {td : Nat} {K : Nat → Prop} : ∀ {sw : List (Int32 × Nat)} {i : Nat} {t : Nat}, gk_sw x td K sw → sw[i]? = some (x, t) → (∀ (i' : Nat) (q : Int32 × Nat), i' < i → sw[i']? = some q → ¬ x = q.1) → K t := by
  intro sw
  induction sw with
  | nil => intro i t _ h; cases h
  | cons q r ih =>
    intro i t h hi hn
    cases i with
    | zero => cases hi; exact h.1 rfl
    | succ i =>
      refine ih (i := i) (h.2 (hn 0 q (by omega) rfl)) hi (fun i' q' h1 h2 => hn (i' + 1) q' (by omega) h2)
def gk_tokb (pc : Nat) (dflt lo hi : Int) (offs : Array Int) (sw : List (Int32 × Nat)) (td : Nat) : Bool :=
  decide (hi - lo + 1 = (offs.size : Int)) && decide ((pc : Int) + dflt = td) && decide (sw.length = offs.size) && (List.range offs.size).all (fun i => match offs[i]?, sw[i]? with
    | some off, some q => decide (q.1.toInt = lo + i) && decide ((pc : Int) + off = q.2)
    | _, _ => false)
def gk_lokb (pc : Nat) (dflt : Int) (ps : Array (Int × Int)) (sw : List (Int32 × Nat)) (td : Nat) : Bool :=
  decide ((pc : Int) + dflt = td) && (ps.toList.zip (ps.toList.drop 1)).all (fun (a, next) => a.1 < next.1) && decide (sw.length = ps.toList.length) && (ps.toList.zip sw).all (fun q => decide (q.2.1.toInt = q.1.1) && decide ((pc : Int) + q.1.2 = q.2.2))
theorem gk_lo_off {pc : Nat} {dflt : Int} {td : Nat} {x : Int32} {K : Nat → Prop} (hd : (pc : Int) + dflt = td) : ∀ (ps : List (Int × Int)) (sw : List (Int32 × Nat)), sw.length = ps.length → (ps.zip sw).all (fun q => decide (q.2.1.toInt = q.1.1) && decide ((pc : Int) + q.1.2 = q.2.2)) = true → gk_sw x td K sw → ∃ tgt : Nat, (pc : Int) + Op.lookupswitch.offset ps dflt x.toInt = tgt ∧ K tgt := by
  intro ps
  induction ps with
  | nil =>
    intro sw hl _ h
    cases sw with
    | nil => exact ⟨td, hd, h⟩
    | cons q r => cases hl
  | cons a ps ih =>
    intro sw hl hz h
    cases sw with
    | nil => cases hl
    | cons q r =>
      simp only [List.zip_cons_cons, List.all_cons, Bool.and_eq_true, decide_eq_true_eq] at hz
      obtain ⟨⟨z1, z2⟩, z3⟩ := hz
      rw [Op.lookupswitch.offset_cons]
      by_cases hx : x = q.1
      · rw [if_pos (by rw [hx, z1])]
        exact ⟨q.2, z2, h.1 hx⟩
      · rw [if_neg (fun e => hx (Int32.toInt_inj.mp (by rw [z1]; exact e.symm)))]
        exact ih r (by simpa using hl) z3 (h.2 hx)
section GKM
variable {M : Nat → gk_J} {E : gk_E} {d j : Nat} {cf : Bool} {mc ms : Nat} {Γe : gk_G} {Q : Option Value → gk_H → Prop} {pc : Nat} {L : gk_L} {st : List Value} {Γ : gk_G} {h : gk_H} {nc ns : Nat}
theorem gk_go_table {dflt lo hi : Int} {offs : Array Int} {len td : Nat} {sw : List (Int32 × Nat)} {x : Int32} (hdg : decode (M j).2.1 pc = .ok (.tableswitch dflt lo hi offs, len)) (ok : gk_tokb pc dflt lo hi offs sw td = true) (kk : gk_sw x td (fun t => gk_Go M E d j cf mc ms Γe Q t L st Γ h nc ns) sw) : gk_Go M E d j cf mc ms Γe Q pc L (.int x :: st) Γ h nc ns := by
  intro p l e R s m args below meth c base ro cs D QF H locs ls X hret hrel hS hL hac
  simp only [gk_tokb, Bool.and_eq_true, decide_eq_true_eq, List.all_eq_true, List.mem_range] at ok
  obtain ⟨⟨⟨o1, o2⟩, o3⟩, o4⟩ := ok
  have at' : ∀ i, i < offs.size → ∃ (off : Int) (q : Int32 × Nat), offs[i]? = some off ∧ sw[i]? = some q ∧ q.1.toInt = lo + i ∧ (pc : Int) + off = q.2 := by
    intro i hi
    have := o4 i hi
    cases h1 : offs[i]? with
    | none => rw [h1] at this; simp at this
    | some off =>
      cases h2 : sw[i]? with
      | none => rw [h1, h2] at this; simp at this
      | some q =>
        rw [h1, h2] at this
        simp only [Bool.and_eq_true, decide_eq_true_eq] at this
        exact ⟨off, q, rfl, rfl, this.1, this.2⟩
  by_cases hin : lo ≤ x.toInt ∧ x.toInt ≤ hi
  · have hi2 : (x.toInt - lo).toNat < offs.size := by omega
    obtain ⟨off, q, a1, a2, a3, a4⟩ := at' _ hi2
    have hq : q.1 = x := Int32.toInt_inj.mp (by rw [a3]; omega)
    have hgo : gk_Go M E d j cf mc ms Γe Q q.2 L st Γ h nc ns := by
      refine gk_sw_hit (i := (x.toInt - lo).toNat) (t := q.2) kk (by rw [a2, ← hq]) (fun i' q' h1 h2 => ?_)
      obtain ⟨off', q'', b1, b2, b3, b4⟩ := at' i' (by omega)
      rw [h2] at b2; cases b2
      intro e
      have : x.toInt = lo + i' := by rw [e, b3]
      omega
    exact lv_tableIn X.1 X.2.1 hdg (by omega) (by omega) a1 a4 (hgo p l e R s m args below meth c base ro cs D QF H locs ls X hret hrel hS hL hac)
  · have hgo : gk_Go M E d j cf mc ms Γe Q td L st Γ h nc ns := by
      refine gk_sw_miss (K := fun t => gk_Go M E d j cf mc ms Γe Q t L st Γ h nc ns) kk (fun q hq => ?_)
      obtain ⟨i, hi⟩ := List.getElem?_of_mem hq
      have hl : i < offs.size := by rw [← o3]; exact (List.getElem?_eq_some_iff.mp hi).1
      obtain ⟨off', q'', b1, b2, b3, b4⟩ := at' i hl
      rw [hi] at b2; cases b2
      intro e
      have : x.toInt = lo + i := by rw [e, b3]
      omega
    exact lv_tableOut X.1 X.2.1 hdg (by omega) o2 (hgo p l e R s m args below meth c base ro cs D QF H locs ls X hret hrel hS hL hac)
theorem gk_go_lookup {dflt : Int} {ps : Array (Int × Int)} {len td : Nat} {sw : List (Int32 × Nat)} {x : Int32} (hdg : decode (M j).2.1 pc = .ok (.lookupswitch dflt ps, len)) (ok : gk_lokb pc dflt ps sw td = true) (kk : gk_sw x td (fun t => gk_Go M E d j cf mc ms Γe Q t L st Γ h nc ns) sw) : gk_Go M E d j cf mc ms Γe Q pc L (.int x :: st) Γ h nc ns := by
  intro p l e R s m args below meth c base ro cs D QF H locs ls X hret hrel hS hL hac
  simp only [gk_lokb, Bool.and_eq_true] at ok
  obtain ⟨⟨⟨o1, o2⟩, o3⟩, o4⟩ := ok
  obtain ⟨tgt, t1, t2⟩ := gk_lo_off (of_decide_eq_true o1) ps.toList sw (of_decide_eq_true o3) o4 kk
  exact lv_lookup X.1 X.2.1 hdg o2 rfl t1 (t2 p l e R s m args below meth c base ro cs D QF H locs ls X hret hrel hS hL hac)
theorem gk_go_ret {v : Option Value} (hq : Q v h) (hok : gk_rok (M j).2.2.2 v) (hΓ : Γ = Γe) (h1 : nc ≤ mc) (h2 : ns ≤ ms) (hst : st = v.toList) (hdg : decode (M j).2.1 pc = .ok (gk_ri (M j).2.2.2, 1)) : gk_Go M E d j cf mc ms Γe Q pc L st Γ h nc ns := by
  intro p l e R s m args below meth c base ro cs D QF H locs ls X hret hrel hS hL hac
  subst hst; subst hΓ
  exact W.widen h1 h2 (hret pc ls H locs v h hq hrel hS hok hdg)
theorem gk_go_goto {off : Int} {tgt : Nat} (hdg : decode (M j).2.1 pc = .ok (.goto off, 3)) (ht : (pc : Int) + off = (tgt : Int)) (kk : gk_Go M E d j cf mc ms Γe Q tgt L st Γ h nc ns) : gk_Go M E d j cf mc ms Γe Q pc L st Γ h nc ns := by
  intro p l e R s m args below meth c base ro cs D QF H locs ls X hret hrel hS hL hac
  exact lv_goto X.1 X.2.1 hdg ht (kk p l e R s m args below meth c base ro cs D QF H locs ls X hret hrel hS hL hac)
theorem gk_go_ifnull {v : Option Nat} {off : Int} {tgt : Nat} (hdg : decode (M j).2.1 pc = .ok (.ifnull off, 3)) (ht : (pc : Int) + off = (tgt : Int)) (kk : gk_Go M E d j cf mc ms Γe Q (match v with | none => tgt | some _ => pc + 3) L st Γ h nc ns) : gk_Go M E d j cf mc ms Γe Q pc L (va_rf v :: st) Γ h nc ns := by
  intro p l e R s m args below meth c base ro cs D QF H locs ls X hret hrel hS hL hac
  have h9 := kk p l e R s m args below meth c base ro cs D QF H locs ls X hret hrel hS hL hac
  cases v with
  | none => exact lv_ifnullN X.1 X.2.1 hdg ht h9
  | some a => exact lv_ifnull X.1 X.2.1 hdg h9
theorem gk_go_ifnonnull {v : Option Nat} {off : Int} {tgt : Nat} (hdg : decode (M j).2.1 pc = .ok (.ifnonnull off, 3)) (ht : (pc : Int) + off = (tgt : Int)) (kk : gk_Go M E d j cf mc ms Γe Q (match v with | none => pc + 3 | some _ => tgt) L st Γ h nc ns) : gk_Go M E d j cf mc ms Γe Q pc L (va_rf v :: st) Γ h nc ns := by
  intro p l e R s m args below meth c base ro cs D QF H locs ls X hret hrel hS hL hac
  have h9 := kk p l e R s m args below meth c base ro cs D QF H locs ls X hret hrel hS hL hac
  cases v with
  | none => exact lv_ifnonnullN X.1 X.2.1 hdg h9
  | some a => exact lv_ifnonnull X.1 X.2.1 hdg ht h9
theorem gk_go_ldc {idx : Nat} {x : Int32} (hw : Cond.constant (M j).1.cls idx x ∈ gk_TT) (hdg : decode (M j).2.1 pc = .ok (.ldc idx, 2)) (kk : gk_Go M E d j cf mc ms Γe Q (pc + 2) L (.int x :: st) Γ h nc ns) : gk_Go M E d j cf mc ms Γe Q pc L st Γ h nc ns := by
  intro p l e R s m args below meth c base ro cs D QF H locs ls X hret hrel hS hL hac
  obtain ⟨hx, hb, hml, hown, hts, -⟩ := id X
  exact lv_ldc hx hb hown (hts _ hw) hdg (kk p l e R s m args below meth c base ro cs D QF H locs ls X hret hrel hS hL hac)
theorem gk_go_ldcw {idx : Nat} {x : Int32} (hw : Cond.constant (M j).1.cls idx x ∈ gk_TT) (hdg : decode (M j).2.1 pc = .ok (.ldc_w idx, 3)) (kk : gk_Go M E d j cf mc ms Γe Q (pc + 3) L (.int x :: st) Γ h nc ns) : gk_Go M E d j cf mc ms Γe Q pc L st Γ h nc ns := by
  intro p l e R s m args below meth c base ro cs D QF H locs ls X hret hrel hS hL hac
  obtain ⟨hx, hb, hml, hown, hts, -⟩ := id X
  exact lv_ldcw hx hb hown (hts _ hw) hdg (kk p l e R s m args below meth c base ro cs D QF H locs ls X hret hrel hS hL hac)
theorem gk_go_ldc2 {idx : Nat} {x : Int64} (hw : Cond.constantLong (M j).1.cls idx x ∈ gk_TT) (hdg : decode (M j).2.1 pc = .ok (.ldc2_w idx, 3)) (kk : gk_Go M E d j cf mc ms Γe Q (pc + 3) L (.long x :: st) Γ h nc ns) : gk_Go M E d j cf mc ms Γe Q pc L st Γ h nc ns := by
  intro p l e R s m args below meth c base ro cs D QF H locs ls X hret hrel hS hL hac
  obtain ⟨hx, hb, hml, hown, hts, -⟩ := id X
  exact lv_ldc2 hx hb hown (hts _ hw) hdg (kk p l e R s m args below meth c base ro cs D QF H locs ls X hret hrel hS hL hac)
/-- a text of Tape's -/
theorem gk_go_ldcs {idx i : Nat} (hi : (idx = 57 ∧ i = 0) ∨ (idx = 49 ∧ i = 1)) (hown0 : (M j).1.cls = "DryPlaces$Tape") (hdg : decode (M j).2.1 pc = .ok (.ldc idx, 2)) (kk : gk_Go M E d j cf mc ms Γe Q (pc + 2) L (.ref (1000000 + (1 + i)) :: st) Γ h nc ns) : gk_Go M E d j cf mc ms Γe Q pc L st Γ h nc ns := by
  intro p l e R s m args below meth c base ro cs D QF H locs ls X hret hrel hS hL hac
  obtain ⟨hx, hb, hml, hown, hts, hin, hR, hK, hRO, hbs0⟩ := id X
  have h9 := kk p l e R s m args below meth c base ro cs D QF H locs ls X hret hrel hS hL hac
  have e1 : gk_v (gk_ad base ro) (.ref (1000000 + (1 + i))) = .ref (ro (1 + i)) := by show Value.ref (gk_ad base ro _) = _; rw [gk_ad_ro]
  rw [List.map_cons, e1] at h9
  rw [hown0] at hown
  rcases hi with ⟨rfl, rfl⟩ | ⟨rfl, rfl⟩
  · exact va_ldcS hx hb hown hRO.2.2.1.1 hdg h9
  · exact va_ldcS hx hb hown hRO.2.2.1.2 hdg h9
/-- a text's fields -/
theorem gk_go_gets {idx i kd : Nat} (hi : i < 2) (hkd : (kd = 3 ∧ Cond.fieldLink (M j).1.cls idx "java/lang/String" "value" "[B" ∈ gk_TT) ∨ (kd = 4 ∧ Cond.fieldLink (M j).1.cls idx "java/lang/String" "coder" "B" ∈ gk_TT)) (hdg : decode (M j).2.1 pc = .ok (.getfield idx, 3)) (kk : gk_Go M E d j cf mc ms Γe Q (pc + 3) L ((bif kd == 3 then .ref (1000000 + (3 + i)) else .int 0) :: st) Γ h nc ns) : gk_Go M E d j cf mc ms Γe Q pc L (.ref (1000000 + (1 + i)) :: st) Γ h nc ns := by
  intro p l e R s m args below meth c base ro cs D QF H locs ls X hret hrel hS hL hac
  obtain ⟨hx, hb, hml, hown, hts, hin, hR, hK, hRO, hbs0⟩ := id X
  have h9 := kk p l e R s m args below meth c base ro cs D QF H locs ls X hret hrel hS hL hac
  have e1 : gk_v (gk_ad base ro) (.ref (1000000 + (1 + i))) = .ref (ro (1 + i)) := by show Value.ref (gk_ad base ro _) = _; rw [gk_ad_ro]
  have hs := hRO.2.1.1 i hi
  rw [List.map_cons, e1]
  rcases hkd with ⟨rfl, hw⟩ | ⟨rfl, hw⟩
  · have e2 : gk_v (gk_ad base ro) (bif (3 : Nat) == 3 then .ref (1000000 + (3 + i)) else .int 0) = .ref (ro (3 + i)) := by show Value.ref (gk_ad base ro _) = _; rw [gk_ad_ro]
    rw [List.map_cons, e2] at h9
    exact vk_getf hx hb hs.2.2.1 hS hown (hts _ hw) (fun _ h => h) hdg h9
  · exact vk_getf hx hb hs.2.1 hS hown (hts _ hw) (fun _ h => h) hdg h9
theorem gk_go_bald {i : Nat} {x : Int32} (hi : i < 2) (hin0 : vp_in x (gk_len.getD i 0)) (hdg : decode (M j).2.1 pc = .ok (.baload, 1)) (kk : gk_Go M E d j cf mc ms Γe Q (pc + 1) L (.int ((gk_byt.getD i []).getD x.toNatClampNeg 0) :: st) Γ h nc ns) : gk_Go M E d j cf mc ms Γe Q pc L (.int x :: .ref (1000000 + (3 + i)) :: st) Γ h nc ns := by
  intro p l e R s m args below meth c base ro cs D QF H locs ls X hret hrel hS hL hac
  obtain ⟨hx, hb, hml, hown, hts, hin, hR, hK, hRO, hbs0⟩ := id X
  have h9 := kk p l e R s m args below meth c base ro cs D QF H locs ls X hret hrel hS hL hac
  have e1 : gk_v (gk_ad base ro) (.ref (1000000 + (3 + i))) = .ref (ro (3 + i)) := by show Value.ref (gk_ad base ro _) = _; rw [gk_ad_ro]
  rw [List.map_cons, List.map_cons, e1]
  exact va_tb hx hb (hRO.2.1.1 i hi).2.2.2 hS hin0 rfl hdg h9
theorem gk_go_blen {i : Nat} (hi : i < 2) (hdg : decode (M j).2.1 pc = .ok (.arraylength, 1)) (kk : gk_Go M E d j cf mc ms Γe Q (pc + 1) L (.int (OfNat.ofNat (gk_len.getD i 0)) :: st) Γ h nc ns) : gk_Go M E d j cf mc ms Γe Q pc L (.ref (1000000 + (3 + i)) :: st) Γ h nc ns := by
  intro p l e R s m args below meth c base ro cs D QF H locs ls X hret hrel hS hL hac
  obtain ⟨hx, hb, hml, hown, hts, hin, hR, hK, hRO, hbs0⟩ := id X
  have h9 := kk p l e R s m args below meth c base ro cs D QF H locs ls X hret hrel hS hL hac
  have e1 : gk_v (gk_ad base ro) (.ref (1000000 + (3 + i))) = .ref (ro (3 + i)) := by show Value.ref (gk_ad base ro _) = _; rw [gk_ad_ro]
  rw [List.map_cons, e1]
  exact va_tlen hx hb (hRO.2.1.1 i hi).2.2.2 hS rfl hdg h9
theorem gk_go_static {idx : Nat} (hw : Cond.fieldLink (M j).1.cls idx "java/lang/String" "COMPACT_STRINGS" "Z" ∈ gk_TT) (hdg : decode (M j).2.1 pc = .ok (.getstatic idx, 3)) (kk : gk_Go M E d j cf mc ms Γe Q (pc + 3) L (.int 1 :: st) Γ h nc ns) : gk_Go M E d j cf mc ms Γe Q pc L st Γ h nc ns := by
  intro p l e R s m args below meth c base ro cs D QF H locs ls X hret hrel hS hL hac
  obtain ⟨hx, hb, hml, hown, hts, hin, hR, hK, hRO, hbs0⟩ := id X
  exact va_gets hx hb hRO.2.2.2.1.1 hS hown (hts _ hw) (fun _ h => h) hdg (kk p l e R s m args below meth c base ro cs D QF H locs ls X hret hrel hS hL hac)
theorem gk_go_static2 {idx : Nat} (hw : Cond.fieldLink (M j).1.cls idx "jdk/internal/util/Preconditions" "SIOOBE_FORMATTER" "Ljava/util/function/BiFunction;" ∈ gk_TT) (hdg : decode (M j).2.1 pc = .ok (.getstatic idx, 3)) (kk : gk_Go M E d j cf mc ms Γe Q (pc + 3) L ((bif E.1.2 then .ref (1000000 + 5) else .null) :: st) Γ h nc ns) : gk_Go M E d j cf mc ms Γe Q pc L st Γ h nc ns := by
  intro p l e R s m args below meth c base ro cs D QF H locs ls X hret hrel hS hL hac
  obtain ⟨hx, hb, hml, hown, hts, hin, hR, hK, hRO, hbs0⟩ := id X
  have h9 := kk p l e R s m args below meth c base ro cs D QF H locs ls X hret hrel hS hL hac
  have e1 : gk_v (gk_ad base ro) (bif E.1.2 then .ref (1000000 + 5) else .null) = bif E.1.2 then .ref (ro 5) else .null := by
    cases E.1.2 with
    | false => rfl
    | true => show Value.ref (gk_ad base ro _) = _; rw [gk_ad_ro]; rfl
  rw [List.map_cons, e1] at h9
  exact va_gets hx hb hRO.2.2.2.1.2 hS hown (hts _ hw) (fun _ h => h) hdg h9
/-- the script -/
theorem gk_go_sld {x : Int32} (hin0 : vp_in x E.1.1) (hdg : decode (M j).2.1 pc = .ok (.iaload, 1)) (kk : gk_Go M E d j cf mc ms Γe Q (pc + 1) L (.int (E.2 x.toNatClampNeg) :: st) Γ h nc ns) : gk_Go M E d j cf mc ms Γe Q pc L (.int x :: .ref (1000000 + 0) :: st) Γ h nc ns := by
  intro p l e R s m args below meth c base ro cs D QF H locs ls X hret hrel hS hL hac
  obtain ⟨hx, hb, hml, hown, hts, hin, hR, hK, hRO, hbs0⟩ := id X
  have h9 := kk p l e R s m args below meth c base ro cs D QF H locs ls X hret hrel hS hL hac
  have e1 : gk_v (gk_ad base ro) (.ref (1000000 + 0)) = .ref (ro 0) := by show Value.ref (gk_ad base ro _) = _; rw [gk_ad_ro]
  rw [List.map_cons, List.map_cons, e1]
  exact va_sld hx hb hRO.1.1 (Nat.lt_of_lt_of_le hRO.1.2 hbs0) (Nat.not_le.mpr hRO.1.2) hS hin0 hdg h9
theorem gk_go_slen (hdg : decode (M j).2.1 pc = .ok (.arraylength, 1)) (kk : gk_Go M E d j cf mc ms Γe Q (pc + 1) L (.int (Int32.ofNat E.1.1) :: st) Γ h nc ns) : gk_Go M E d j cf mc ms Γe Q pc L (.ref (1000000 + 0) :: st) Γ h nc ns := by
  intro p l e R s m args below meth c base ro cs D QF H locs ls X hret hrel hS hL hac
  obtain ⟨hx, hb, hml, hown, hts, hin, hR, hK, hRO, hbs0⟩ := id X
  have h9 := kk p l e R s m args below meth c base ro cs D QF H locs ls X hret hrel hS hL hac
  have e1 : gk_v (gk_ad base ro) (.ref (1000000 + 0)) = .ref (ro 0) := by show Value.ref (gk_ad base ro _) = _; rw [gk_ad_ro]
  rw [List.map_cons, e1]
  exact va_slen hx hb hRO.1.1 (Nat.lt_of_lt_of_le hRO.1.2 hbs0) (Nat.not_le.mpr hRO.1.2) hS hdg h9
/-- Math.max, min, abs -/
theorem gk_go_max {idx : Nat} {x y : Int32} (hw : ∀ w ∈ ([.methodLink (M j).1.cls idx Lib.Math.max.name, .static Lib.Math.max.name, .initialized "java/lang/Math", .code Lib.Math.max.name Lib.Math.max.code 2 (some .int)] : List Cond), w ∈ gk_TT) (hd : 1 ≤ d) (h1 : nc ≤ mc) (h2 : ns ≤ ms) (hcat : (st.map fun v => v.category).sum ≤ 8) (hdg : decode (M j).2.1 pc = .ok (.invokestatic idx, 3)) (kk : gk_Go M E d j cf mc ms Γe Q (pc + 3) L (.int (if x < y then y else x) :: st) Γ h nc ns) : gk_Go M E d j cf mc ms Γe Q pc L (.int y :: .int x :: st) Γ h nc ns := by
  intro p l e R s m args below meth c base ro cs D QF H locs ls X hret hrel hS hL hac
  obtain ⟨hx, hb, hml, hown, hts, hin, hR, hK, hRO, hbs0⟩ := id X
  exact va_mmax hx hb (by rw [hml]; exact hL.1.symm) hown (hts _ (hw _ (by simp))) (hts _ (hw _ (by simp))) (hts _ (hw _ (by simp))) (hts _ (hw _ (by simp))) (by omega) (by rw [gk_cat_sum]; omega) (by omega) (by omega) hdg (kk p l e R s m args below meth c base ro cs D QF H locs ls X hret hrel hS hL hac)
theorem gk_go_min {idx : Nat} {x y : Int32} (hw : ∀ w ∈ ([.methodLink (M j).1.cls idx Lib.Math.min.name, .static Lib.Math.min.name, .initialized "java/lang/Math", .code Lib.Math.min.name Lib.Math.min.code 2 (some .int)] : List Cond), w ∈ gk_TT) (hd : 1 ≤ d) (h1 : nc ≤ mc) (h2 : ns ≤ ms) (hcat : (st.map fun v => v.category).sum ≤ 8) (hdg : decode (M j).2.1 pc = .ok (.invokestatic idx, 3)) (kk : gk_Go M E d j cf mc ms Γe Q (pc + 3) L (.int (if y < x then y else x) :: st) Γ h nc ns) : gk_Go M E d j cf mc ms Γe Q pc L (.int y :: .int x :: st) Γ h nc ns := by
  intro p l e R s m args below meth c base ro cs D QF H locs ls X hret hrel hS hL hac
  obtain ⟨hx, hb, hml, hown, hts, hin, hR, hK, hRO, hbs0⟩ := id X
  exact va_mmin hx hb (by rw [hml]; exact hL.1.symm) hown (hts _ (hw _ (by simp))) (hts _ (hw _ (by simp))) (hts _ (hw _ (by simp))) (hts _ (hw _ (by simp))) (by omega) (by rw [gk_cat_sum]; omega) (by omega) (by omega) hdg (kk p l e R s m args below meth c base ro cs D QF H locs ls X hret hrel hS hL hac)
theorem gk_go_abs {idx : Nat} {x : Int32} (hw : ∀ w ∈ ([.methodLink (M j).1.cls idx Lib.Math.abs.name, .static Lib.Math.abs.name, .initialized "java/lang/Math", .code Lib.Math.abs.name Lib.Math.abs.code 1 (some .int)] : List Cond), w ∈ gk_TT) (hd : 1 ≤ d) (h1 : nc ≤ mc) (h2 : ns ≤ ms) (hcat : (st.map fun v => v.category).sum ≤ 8) (hdg : decode (M j).2.1 pc = .ok (.invokestatic idx, 3)) (kk : gk_Go M E d j cf mc ms Γe Q (pc + 3) L (.int (if 0 ≤ x then x else 0 - x) :: st) Γ h nc ns) : gk_Go M E d j cf mc ms Γe Q pc L (.int x :: st) Γ h nc ns := by
  intro p l e R s m args below meth c base ro cs D QF H locs ls X hret hrel hS hL hac
  obtain ⟨hx, hb, hml, hown, hts, hin, hR, hK, hRO, hbs0⟩ := id X
  exact va_mabs hx hb (by rw [hml]; exact hL.1.symm) hown (hts _ (hw _ (by simp))) (hts _ (hw _ (by simp))) (hts _ (hw _ (by simp))) (hts _ (hw _ (by simp))) (by omega) (by rw [gk_cat_sum]; omega) (by omega) (by omega) hdg (kk p l e R s m args below meth c base ro cs D QF H locs ls X hret hrel hS hL hac)
/-- Object's own constructor -/
theorem gk_go_obj {idx k : Nat} (hw : ∀ w ∈ ([.methodLink (M j).1.cls idx Lib.objectInit, .instanceMethod Lib.objectInit, .code Lib.objectInit ⟨#[0xb1]⟩ 1 none] : List Cond), w ∈ gk_TT) (hd : 1 ≤ d) (hcat : (st.map fun v => v.category).sum ≤ 8) (hdg : decode (M j).2.1 pc = .ok (.invokespecial idx, 3)) (kk : gk_Go M E d j cf mc ms Γe Q (pc + 3) L st Γ h nc ns) : gk_Go M E d j cf mc ms Γe Q pc L (.ref k :: st) Γ h nc ns := by
  intro p l e R s m args below meth c base ro cs D QF H locs ls X hret hrel hS hL hac
  obtain ⟨hx, hb, hml, hown, hts, hin, hR, hK, hRO, hbs0⟩ := id X
  refine W.objInit hx hb hown (hts _ (hw _ (by simp))) (hts _ (hw _ (by simp))) (hts _ (hw _ (by simp))) rfl (by rw [hml]; exact hL.1) rfl hdg (by omega) ?_ (kk p l e R s m args below meth c base ro cs D QF H locs ls X hret hrel hS hL hac)
  have := lv_room (m := m) (pc := pc) (ls := ls) (rest := st.map (gk_v (gk_ad base ro))) (st := st.map (gk_v (gk_ad base ro))) (by rw [gk_cat_sum]; exact hcat)
  have h2 : 2 * (F0 m pc ls ((Value.ref k :: st).map (gk_v (gk_ad base ro)))).monitorRoom + ((st.map (gk_v (gk_ad base ro))).map fun v => v.category).sum ≤ 8 := this
  omega
def gk_hc (h : gk_H) (k k0 sp dp n : Nat) : gk_H := (h.1, va_up h.2.1 k (va_cpy (h.2.1 k0) (h.2.1 k) sp dp n), h.2.2)
def gk_hcl (h : gk_H) (k k0 sp dp n : Nat) : gk_H := (h.1, h.2.1, va_up h.2.2 k (va_cpy (h.2.2 k0) (h.2.2 k) sp dp n))
/-- System.arraycopy of ints -/
theorem gk_go_copyi {idx k0 k n0 n1 : Nat} {sp dp n : Int32} {rs0 rs1 : List (Option Nat)} (hw : ∀ w ∈ ([.methodLink (M j).1.cls idx arraycopyName, .native arraycopyName, .static arraycopyName, .initialized "java/lang/System"] : List Cond), w ∈ gk_TT) (hd : 1 ≤ d) (hcat : (st.map fun v => v.category).sum ≤ 8) (h0 : Γ[k0]? = some (1, n0, rs0)) (hk : Γ[k]? = some (1, n1, rs1)) (a1 : ¬ sp < 0) (a2 : ¬ dp < 0) (a3 : ¬ n < 0) (a4 : sp.toNatClampNeg + n.toNatClampNeg ≤ n0) (a5 : dp.toNatClampNeg + n.toNatClampNeg ≤ n1) (hdg : decode (M j).2.1 pc = .ok (.invokestatic idx, 3))
    (kk : gk_Go M E d j cf mc ms Γe Q (pc + 3) L st Γ (gk_hc h k k0 sp.toNatClampNeg dp.toNatClampNeg n.toNatClampNeg) nc ns) : gk_Go M E d j cf mc ms Γe Q pc L (.int n :: .int dp :: .ref k :: .int sp :: .ref k0 :: st) Γ h nc ns := by
  intro p l e R s m args below meth c base ro cs D QF H locs ls X hret hrel hS hL hac
  obtain ⟨hx, hb, hml, hown, hts, hin, hR, hK, hRO, hbs0⟩ := id X
  have e1 : gk_v (gk_ad base ro) (.ref k) = .ref (base + k) := by show Value.ref (gk_ad base ro k) = _; rw [gk_ad_own (gk_lt hrel hk)]
  have e0 : gk_v (gk_ad base ro) (.ref k0) = .ref (base + k0) := by show Value.ref (gk_ad base ro k0) = _; rw [gk_ad_own (gk_lt hrel h0)]
  simp only [List.map_cons, e1, e0]
  refine va_copyi (D := D) (A := gk_A base) (H0 := s.heap) (c0 := cs 0) (c1 := cs 0) (n0 := n0) (n1 := n1) (f := h.2.1 k0) (g := h.2.1 k) (ty := .int) hx hb (by rw [hml]; exact hL.1.symm) hown (hts _ (hw _ (by simp))) (hts _ (hw _ (by simp))) (hts _ (hw _ (by simp))) (hts _ (hw _ (by simp))) hK hrel.2 gk_ws_D hS k0 k 0 0 (gk_ws_get h0) (gk_ws_get hk) rfl rfl rfl a1 a2 a3 a4 a5 (fun _ _ => rfl) (by omega) ?_ hdg (fun H1 locs1 hP1 hD1 hS1 => ?_)
  · rw [gk_cat_sum]
    have : nativeFrameWords "java/lang/System" "arraycopy" 5 + 11 ≤ 52 := by decide +kernel
    omega
  · refine kk p l e R s m args below meth c base ro cs D QF H1 locs1 ls X hret ?_ hS1 hL hac
    refine gk_rel_set0 hrel hk (fun q hq => ⟨rfl, gk_up_ne hq, rfl⟩) ?_ hP1
    show _ = Sum.inl (cs 0, n1, Sum.inl (va_up h.2.1 k _ k))
    rw [gk_up_eq]
theorem gk_go_copyl {idx k0 k n0 n1 : Nat} {sp dp n : Int32} {rs0 rs1 : List (Option Nat)} (hw : ∀ w ∈ ([.methodLink (M j).1.cls idx arraycopyName, .native arraycopyName, .static arraycopyName, .initialized "java/lang/System"] : List Cond), w ∈ gk_TT) (hd : 1 ≤ d) (hcat : (st.map fun v => v.category).sum ≤ 8) (h0 : Γ[k0]? = some (3, n0, rs0)) (hk : Γ[k]? = some (3, n1, rs1)) (a1 : ¬ sp < 0) (a2 : ¬ dp < 0) (a3 : ¬ n < 0) (a4 : sp.toNatClampNeg + n.toNatClampNeg ≤ n0) (a5 : dp.toNatClampNeg + n.toNatClampNeg ≤ n1) (hdg : decode (M j).2.1 pc = .ok (.invokestatic idx, 3))
    (kk : gk_Go M E d j cf mc ms Γe Q (pc + 3) L st Γ (gk_hcl h k k0 sp.toNatClampNeg dp.toNatClampNeg n.toNatClampNeg) nc ns) : gk_Go M E d j cf mc ms Γe Q pc L (.int n :: .int dp :: .ref k :: .int sp :: .ref k0 :: st) Γ h nc ns := by
  intro p l e R s m args below meth c base ro cs D QF H locs ls X hret hrel hS hL hac
  obtain ⟨hx, hb, hml, hown, hts, hin, hR, hK, hRO, hbs0⟩ := id X
  have e1 : gk_v (gk_ad base ro) (.ref k) = .ref (base + k) := by show Value.ref (gk_ad base ro k) = _; rw [gk_ad_own (gk_lt hrel hk)]
  have e0 : gk_v (gk_ad base ro) (.ref k0) = .ref (base + k0) := by show Value.ref (gk_ad base ro k0) = _; rw [gk_ad_own (gk_lt hrel h0)]
  simp only [List.map_cons, e1, e0]
  refine va_copyl (D := D) (A := gk_A base) (H0 := s.heap) (c0 := cs 2) (c1 := cs 2) (n0 := n0) (n1 := n1) (f := h.2.2 k0) (g := h.2.2 k) (ty := .long) hx hb (by rw [hml]; exact hL.1.symm) hown (hts _ (hw _ (by simp))) (hts _ (hw _ (by simp))) (hts _ (hw _ (by simp))) (hts _ (hw _ (by simp))) hK hrel.2 gk_ws_D hS k0 k 2 2 (gk_ws_get h0) (gk_ws_get hk) rfl rfl rfl a1 a2 a3 a4 a5 (fun _ _ => rfl) (by omega) ?_ hdg (fun H1 locs1 hP1 hD1 hS1 => ?_)
  · rw [gk_cat_sum]
    have : nativeFrameWords "java/lang/System" "arraycopy" 5 + 11 ≤ 52 := by decide +kernel
    omega
  · refine kk p l e R s m args below meth c base ro cs D QF H1 locs1 ls X hret ?_ hS1 hL hac
    refine gk_rel_set0 hrel hk (fun q hq => ⟨rfl, rfl, gk_up_ne hq⟩) ?_ hP1
    show _ = Sum.inl (cs 2, n1, Sum.inr (Sum.inl (va_up h.2.2 k _ k)))
    rw [gk_up_eq]
end GKM
end
section
/-! makings -/
set_option maxRecDepth 100000 in
theorem gk_defs {ci : Nat} {C : String} {T : u_T} {N : Nat} (hc : vwCl[ci]? = some (C, T, N)) : (gk_bs ci).length = N ∧ ∀ j, j < N → (parseFieldDescriptor (T j).2.2.1).map defaultValue = ((gk_bs ci)[j]?).map (fun b => bif b then Value.null else .int 0) := by
  match ci, hc with
  | 0, hc => cases hc; exact ⟨rfl, by decide +kernel⟩
  | 1, hc => cases hc; exact ⟨rfl, by decide +kernel⟩
  | 2, hc => cases hc; exact ⟨rfl, by decide +kernel⟩
  | 3, hc => cases hc; exact ⟨rfl, by decide +kernel⟩
  | 4, hc => cases hc; exact ⟨rfl, by decide +kernel⟩
  | 5, hc => cases hc; exact ⟨rfl, by decide +kernel⟩
  | 6, hc => cases hc; exact ⟨rfl, by decide +kernel⟩
  | 7, hc => cases hc; exact ⟨rfl, by decide +kernel⟩
  | 8, hc => cases hc; exact ⟨rfl, by decide +kernel⟩
  | 9, hc => cases hc; exact ⟨rfl, by decide +kernel⟩
  | 10, hc => cases hc; exact ⟨rfl, by decide +kernel⟩
  | k + 11, hc => simp [vwCl] at hc
theorem gk_ws_push {base : Nat} {ad : Nat → Nat} {cs : Nat → ClassId} {Γ : gk_G} {h h' : gk_H} {κ : gk_K} (hh : ∀ q, q ≠ Γ.length → h'.1 q = h.1 q ∧ h'.2.1 q = h.2.1 q ∧ h'.2.2 q = h.2.2 q) : gk_ws base ad cs Γ h ++ [(base + Γ.length, gk_cell ad cs κ (h'.1 Γ.length) (h'.2.1 Γ.length) (h'.2.2 Γ.length))] = gk_ws base ad cs (Γ ++ [κ]) h' := by
  rw [gk_ws, gk_ws, List.mapIdx_append]
  congr 1
  · refine List.ext_getElem? fun i => ?_
    rw [List.getElem?_mapIdx, List.getElem?_mapIdx]
    cases hi : Γ[i]? with
    | none => rfl
    | some κ' =>
      have hl : i < Γ.length := (List.getElem?_eq_some_iff.mp hi).1
      obtain ⟨e1, e2, e3⟩ := hh i (by omega)
      simp only [Option.map_some, e1, e2, e3]
  · simp
def gk_h0 (h : gk_H) (k : Nat) : gk_H := (va_up h.1 k (fun _ => 0), va_up h.2.1 k (fun _ => 0), va_up h.2.2 k (fun _ => 0))
/-- the new cell lies behind the last one -/
theorem gk_behind {base : Nat} {ro : Nat → Nat} {cs : Nat → ClassId} {D : va_G} {Γ : gk_G} {h : gk_H} {H1 : Heap} {q : Nat} {x : va_E} (hP : va_P D vwCl (gk_ws base (gk_ad base ro) cs Γ h ++ [(q, x)]) H1) (hD : va_D (gk_A base) (gk_ws base (gk_ad base ro) cs Γ h ++ [(q, x)])) (hz : H1.size ≤ base + Γ.length + 1) : q = base + Γ.length := by
  have hl : (gk_ws base (gk_ad base ro) cs Γ h).length = Γ.length := by rw [gk_ws, List.length_mapIdx]
  have hg : (gk_ws base (gk_ad base ro) cs Γ h ++ [(q, x)])[Γ.length]? = some (q, x) := by
    rw [List.getElem?_append_right (by omega), hl, Nat.sub_self]; rfl
  have h1 : q < H1.size := (hP _ _ hg).lt
  have h2 : base ≤ q := hD.2 _ _ hg
  rcases Nat.lt_or_ge q (base + Γ.length) with h3 | h3
  · have hk : q - base < Γ.length := by omega
    have hk2 : Γ[q - base]? = some Γ[q - base] := List.getElem?_eq_getElem hk
    have hg2 : (gk_ws base (gk_ad base ro) cs Γ h ++ [(q, x)])[q - base]? = some (base + (q - base), gk_cell (gk_ad base ro) cs Γ[q - base] (h.1 (q - base)) (h.2.1 (q - base)) (h.2.2 (q - base))) := by
      rw [List.getElem?_append_left (by omega)]; exact gk_ws_get hk2
    have := hD.1 _ _ _ _ hg2 hg (show base + (q - base) = q by omega)
    omega
  · omega
section GKN
variable {M : Nat → gk_J} {E : gk_E} {d j : Nat} {cf : Bool} {mc ms : Nat} {Γe : gk_G} {Q : Option Value → gk_H → Prop} {pc : Nat} {L : gk_L} {st : List Value} {Γ : gk_G} {h : gk_H} {nc ns : Nat}
set_option maxHeartbeats 1000000 in
theorem gk_go_new {idx ci N : Nat} {C : String} {T : u_T} (hc : vwCl[ci]? = some (C, T, N)) (hw : ∀ w ∈ ([.classLink (M j).1.cls idx C, .instantiable C N, .initialized C] : List Cond), w ∈ gk_TT) (h1 : nc + 1 ≤ mc) (h2 : ns + N ≤ ms) (h3 : Γ.length < 1000000) (hdg : decode (M j).2.1 pc = .ok (.new idx, 3))
    (kk : gk_Go M E d j cf mc ms Γe Q (pc + 3) L (.ref Γ.length :: st) (Γ ++ [(0, ci, List.replicate N none)]) (gk_h0 h Γ.length) (nc + 1) (ns + N)) : gk_Go M E d j cf mc ms Γe Q pc L st Γ h nc ns := by
  intro p l e R s m args below meth c base ro cs D QF H locs ls X hret hrel hS hL hac
  obtain ⟨hx, hb, hml, hown, hts, hin, hR, hK, hRO, hbs0⟩ := id X
  obtain ⟨c1, ⟨ty0, c2⟩, c3⟩ := gk_clok hc
  obtain ⟨d1, d2⟩ := gk_defs hc
  refine va_new (D := D) (ci := ci) (A := gk_A base) (H0 := s.heap) (fs := gk_fs (gk_ad base ro) (gk_bs ci) (List.replicate N none) (fun _ => 0)) hx hb hts c1 ty0 c2 hown (hts _ (hw _ (by simp))) (hts _ (hw _ (by simp))) (hts _ (hw _ (by simp))) hK hrel.2 gk_ws_D hS (fun q hq => Nat.le_trans hbs0 hq) hc (fun q hq => ?_) (by omega) (by omega) hdg (fun q H1 hP1 hD1 hS1 => gk_size fun hsz => ?_)
  · have e1 := d2 q hq
    rw [c2 q hq] at e1
    have hb9 : (gk_bs ci)[q]? = some (gk_bs ci)[q] := List.getElem?_eq_getElem (by omega)
    rw [hb9] at e1
    rw [vp_V, List.getD_eq_getElem?_getD, gk_fs_get hb9]
    have e2 : (List.replicate N (none : Option Nat)).getD q none = none := by
      rw [List.getD_eq_getElem?_getD]; cases h9 : (List.replicate N (none : Option Nat))[q]? with
      | none => rfl
      | some z => rw [List.eq_of_mem_replicate (List.mem_of_getElem? h9)]; rfl
    rw [e2]
    simp only [Option.map_some, Option.some.injEq] at e1
    rw [e1]; rfl
  · have hq := gk_behind hP1 hD1 (by omega)
    subst hq
    have h9 := kk p l e R s m args below meth c base ro cs D QF H1 locs ls X hret ⟨by rw [List.length_append]; exact h3, ?_⟩ hS1 hL (by rw [List.length_append]; show _ = base + (Γ.length + 1); omega)
    · have e1 : gk_v (gk_ad base ro) (.ref Γ.length) = .ref (base + Γ.length) := by show Value.ref (gk_ad base ro _) = _; rw [gk_ad_own h3]
      rw [List.map_cons, e1] at h9
      exact h9
    · rw [← gk_ws_push (h := h) (fun q hq => ⟨gk_up_ne hq, gk_up_ne hq, gk_up_ne hq⟩)]
      have e2 : gk_cell (gk_ad base ro) cs (0, ci, List.replicate N none) ((gk_h0 h Γ.length).1 Γ.length) ((gk_h0 h Γ.length).2.1 Γ.length) ((gk_h0 h Γ.length).2.2 Γ.length) = .inr (ci, gk_fs (gk_ad base ro) (gk_bs ci) (List.replicate N none) (fun _ => 0)) := by
        show Sum.inr (ci, gk_fs (gk_ad base ro) (gk_bs ci) (List.replicate N none) (va_up h.1 Γ.length (fun _ => 0) Γ.length)) = _
        rw [gk_up_eq]
      rw [e2]; exact hP1
theorem gk_cA {s : State} {D : va_G} {cs : Nat → ClassId} {t : Nat} {ty : FieldType} {cA : ClassId} (hK : va_K D vwCl (gk_tys cs) s) (ht : (gk_tys cs)[t]? = some (cs t, ty)) (hp : refKind ty = false) (h : va_RA s cA ty) : cA = cs t := by
  have h1 := (hK.2 t _ ht).2
  cases ty <;> first | (cases hp; done) | exact Option.some.inj (h.symm.trans h1)
/-- int[], char[], long[] by their tags 1, 2, 3 -/
def gk_at (t : Nat) : ArrayType × FieldType := match t with
  | 1 => (.int, .int)
  | 2 => (.char, .char)
  | _ => (.long, .long)
set_option maxHeartbeats 1000000 in
theorem gk_go_newa {t : Nat} {n : Int32} (ht : t = 1 ∨ t = 2 ∨ t = 3) (hw : Cond.arrayClass (gk_at t).2 ∈ gk_TT) (hn : ¬ n < 0) (hby : n.toNatClampNeg * 8 ≤ 536870912) (h1 : nc + 1 ≤ mc) (h2 : ns + n.toNatClampNeg ≤ ms) (h3 : Γ.length < 1000000) (hdg : decode (M j).2.1 pc = .ok (.newarray (gk_at t).1, 2))
    (kk : gk_Go M E d j cf mc ms Γe Q (pc + 2) L (.ref Γ.length :: st) (Γ ++ [(t, n.toNatClampNeg, [])]) (gk_h0 h Γ.length) (nc + 1) (ns + n.toNatClampNeg)) : gk_Go M E d j cf mc ms Γe Q pc L (.int n :: st) Γ h nc ns := by
  intro p l e R s m args below meth c base ro cs D QF H locs ls X hret hrel hS hL hac
  obtain ⟨hx, hb, hml, hown, hts, hin, hR, hK, hRO, hbs0⟩ := id X
  have fin : ∀ (q : Nat) (H1 : Heap) (x : va_E), x = gk_cell (gk_ad base ro) cs (t, n.toNatClampNeg, []) ((gk_h0 h Γ.length).1 Γ.length) ((gk_h0 h Γ.length).2.1 Γ.length) ((gk_h0 h Γ.length).2.2 Γ.length) → va_P D vwCl (gk_ws base (gk_ad base ro) cs Γ h ++ [(q, x)]) H1 → va_D (gk_A base) (gk_ws base (gk_ad base ro) cs Γ h ++ [(q, x)]) → va_S (gk_A base) s.heap H1 locs → W p l e R s m args below meth c H1 locs (nc + 1) (ns + n.toNatClampNeg) QF (F0 m (pc + 2) ls (.ref q :: st.map (gk_v (gk_ad base ro)))) := by
    intro q H1 x hx9 hP1 hD1 hS1
    refine gk_size fun hsz => ?_
    have hq := gk_behind hP1 hD1 (by omega)
    subst hq
    have h9 := kk p l e R s m args below meth c base ro cs D QF H1 locs ls X hret ⟨by rw [List.length_append]; exact h3, ?_⟩ hS1 hL (by rw [List.length_append]; show _ = base + (Γ.length + 1); omega)
    · have e1 : gk_v (gk_ad base ro) (.ref Γ.length) = .ref (base + Γ.length) := by show Value.ref (gk_ad base ro _) = _; rw [gk_ad_own h3]
      rw [List.map_cons, e1] at h9
      exact h9
    · rw [← gk_ws_push (h := h) (fun q hq => ⟨gk_up_ne hq, gk_up_ne hq, gk_up_ne hq⟩), ← hx9]
      exact hP1
  have tl : ∀ (cA : ClassId) (ty : FieldType), va_K D vwCl (gk_tys cs ++ [(cA, ty)]) s → va_RA s cA ty := fun cA ty h => (h.2 4 (cA, ty) rfl).2
  rw [List.map_cons]
  rcases ht with rfl | rfl | rfl
  · refine va_newa (D := D) (A := gk_A base) (H0 := s.heap) (atype := .int) (ty := .int) (a0 := (n.toNatClampNeg, .inl (fun _ => 0))) hx hb (hts _ hw) rfl hK hrel.2 gk_ws_D hS (fun q hq => Nat.le_trans hbs0 hq) (fun cA => rfl) hn rfl ?_ (by omega) (by omega) hdg (fun q cA H1 hK1 hP1 hD1 hS1 => ?_)
    · show n.toNatClampNeg * 4 ≤ _; omega
    · have := gk_cA (t := 0) hK rfl rfl (tl _ _ hK1); subst this
      exact fin q H1 _ (by show _ = Sum.inl (cs 0, n.toNatClampNeg, Sum.inl (va_up h.2.1 Γ.length (fun _ => 0) Γ.length)); rw [gk_up_eq]) hP1 hD1 hS1
  · refine va_newa (D := D) (A := gk_A base) (H0 := s.heap) (atype := .char) (ty := .char) (a0 := (n.toNatClampNeg, .inl (fun _ => 0))) hx hb (hts _ hw) rfl hK hrel.2 gk_ws_D hS (fun q hq => Nat.le_trans hbs0 hq) (fun cA => rfl) hn rfl ?_ (by omega) (by omega) hdg (fun q cA H1 hK1 hP1 hD1 hS1 => ?_)
    · show n.toNatClampNeg * 2 ≤ _; omega
    · have := gk_cA (t := 1) hK rfl rfl (tl _ _ hK1); subst this
      exact fin q H1 _ (by show _ = Sum.inl (cs 1, n.toNatClampNeg, Sum.inl (va_up h.2.1 Γ.length (fun _ => 0) Γ.length)); rw [gk_up_eq]) hP1 hD1 hS1
  · refine va_newa (D := D) (A := gk_A base) (H0 := s.heap) (atype := .long) (ty := .long) (a0 := (n.toNatClampNeg, .inr (.inl (fun _ => 0)))) hx hb (hts _ hw) rfl hK hrel.2 gk_ws_D hS (fun q hq => Nat.le_trans hbs0 hq) (fun cA => rfl) hn rfl ?_ (by omega) (by omega) hdg (fun q cA H1 hK1 hP1 hD1 hS1 => ?_)
    · show n.toNatClampNeg * 8 ≤ _; omega
    · have := gk_cA (t := 2) hK rfl rfl (tl _ _ hK1); subst this
      exact fin q H1 _ (by show _ = Sum.inl (cs 2, n.toNatClampNeg, Sum.inr (Sum.inl (va_up h.2.2 Γ.length (fun _ => 0) Γ.length))); rw [gk_up_eq]) hP1 hD1 hS1
set_option maxHeartbeats 1000000 in
theorem gk_go_newq {idx : Nat} {n : Int32} (hw : Cond.classLink (M j).1.cls idx "DryPlaces$World" ∈ gk_TT) (hn : ¬ n < 0) (hby : n.toNatClampNeg * 8 ≤ 536870912) (h1 : nc + 1 ≤ mc) (h2 : ns + n.toNatClampNeg ≤ ms) (h3 : Γ.length < 1000000) (hdg : decode (M j).2.1 pc = .ok (.anewarray idx, 3))
    (kk : gk_Go M E d j cf mc ms Γe Q (pc + 3) L (.ref Γ.length :: st) (Γ ++ [(4, n.toNatClampNeg, List.replicate n.toNatClampNeg none)]) (gk_h0 h Γ.length) (nc + 1) (ns + n.toNatClampNeg)) : gk_Go M E d j cf mc ms Γe Q pc L (.int n :: st) Γ h nc ns := by
  intro p l e R s m args below meth c base ro cs D QF H locs ls X hret hrel hS hL hac
  obtain ⟨hx, hb, hml, hown, hts, hin, hR, hK, hRO, hbs0⟩ := id X
  rw [List.map_cons]
  refine va_newq (D := D) (A := gk_A base) (H0 := s.heap) (C := "DryPlaces$World") hx hb hown (hts _ hw) hRO.2.2.2.2.2 hK hrel.2 gk_ws_D hS (fun q hq => Nat.le_trans hbs0 hq) hn rfl (by omega) (by omega) (by omega) hdg (fun q cA H1 hK1 hP1 hD1 hS1 => gk_size fun hsz => ?_)
  have hra : va_RA s cA (.object "DryPlaces$World") := (hK1.2 4 (cA, .object "DryPlaces$World") rfl).2
  have hrb : va_RA s (cs 3) (.object "DryPlaces$World") := (hK.2 3 (cs 3, .object "DryPlaces$World") rfl).2
  have hcA : cA = cs 3 := by
    obtain ⟨_, _, _, _, _, g1⟩ := hra
    obtain ⟨_, _, _, _, _, g2⟩ := hrb
    exact Option.some.inj (g1.symm.trans g2)
  subst hcA
  have hq := gk_behind hP1 hD1 (by omega)
  subst hq
  have h9 := kk p l e R s m args below meth c base ro cs D QF H1 locs ls X hret ⟨by rw [List.length_append]; exact h3, ?_⟩ hS1 hL (by rw [List.length_append]; show _ = base + (Γ.length + 1); omega)
  · have e1 : gk_v (gk_ad base ro) (.ref Γ.length) = .ref (base + Γ.length) := by show Value.ref (gk_ad base ro _) = _; rw [gk_ad_own h3]
    rw [List.map_cons, e1] at h9
    exact h9
  · rw [← gk_ws_push (h := h) (fun q hq => ⟨gk_up_ne hq, gk_up_ne hq, gk_up_ne hq⟩)]
    have e2 : gk_cell (gk_ad base ro) cs (4, n.toNatClampNeg, List.replicate n.toNatClampNeg none) ((gk_h0 h Γ.length).1 Γ.length) ((gk_h0 h Γ.length).2.1 Γ.length) ((gk_h0 h Γ.length).2.2 Γ.length) = .inl (cs 3, n.toNatClampNeg, .inr (.inr (.inr (.inr (fun _ => none))))) := by
      show Sum.inl (cs 3, n.toNatClampNeg, Sum.inr (Sum.inr (Sum.inr (Sum.inr (fun i => ((List.replicate n.toNatClampNeg (none : Option Nat)).getD i none).map (gk_ad base ro)))))) = _
      have : (fun i => ((List.replicate n.toNatClampNeg (none : Option Nat)).getD i none).map (gk_ad base ro)) = fun _ => none := by
        funext q
        rw [List.getD_eq_getElem?_getD]; cases h9 : (List.replicate n.toNatClampNeg (none : Option Nat))[q]? with
        | none => rfl
        | some z => rw [List.eq_of_mem_replicate (List.mem_of_getElem? h9)]; rfl
      rw [this]
    rw [e2]; exact hP1
set_option maxHeartbeats 1000000 in
theorem gk_go_aast {k n a : Nat} {i : Int32} {rs rs' : List (Option Nat)} (hk : Γ[k]? = some (4, n, rs)) (ha : Γ[a]? = some (0, 8, rs')) (hi : vp_in i n) (hrs : i.toNatClampNeg < rs.length) (hdg : decode (M j).2.1 pc = .ok (.aastore, 1)) (kk : gk_Go M E d j cf mc ms Γe Q (pc + 1) L st (Γ.set k (4, n, rs.set i.toNatClampNeg (some a))) h nc ns) : gk_Go M E d j cf mc ms Γe Q pc L (.ref a :: .int i :: .ref k :: st) Γ h nc ns := by
  intro p l e R s m args below meth c base ro cs D QF H locs ls X hret hrel hS hL hac
  obtain ⟨hx, hb, hml, hown, hts, hin, hR, hK, hRO, hbs0⟩ := id X
  have e1 : gk_v (gk_ad base ro) (.ref k) = .ref (base + k) := by show Value.ref (gk_ad base ro k) = _; rw [gk_ad_own (gk_lt hrel hk)]
  have e0 : gk_v (gk_ad base ro) (.ref a) = .ref (base + a) := by show Value.ref (gk_ad base ro a) = _; rw [gk_ad_own (gk_lt hrel ha)]
  simp only [List.map_cons, e1, e0]
  refine va_astq (D := D) (A := gk_A base) (H0 := s.heap) (cA := cs 3) (r := (RX9, TX9, 13)) (n := n) (f := fun i => (rs.getD i none).map (gk_ad base ro)) hx hb hK hrel.2 gk_ws_D hS k 3 a 8 (gk_ws_get hk) rfl (gk_ws_get ha) rfl hi hdg (fun H1 locs1 hP1 hD1 hS1 => ?_)
  refine kk p l e R s m args below meth c base ro cs D QF H1 locs1 ls X hret ?_ hS1 hL (by rw [List.length_set]; exact hac)
  refine gk_rel_set hrel hk (fun q hq => ⟨rfl, rfl, rfl⟩) ?_ hP1
  show _ = Sum.inl (cs 3, n, Sum.inr (Sum.inr (Sum.inr (Sum.inr (fun q => ((rs.set i.toNatClampNeg (some a)).getD q none).map (gk_ad base ro))))))
  have : (fun q => ((rs.set i.toNatClampNeg (some a)).getD q none).map (gk_ad base ro)) = va_up (fun i => (rs.getD i none).map (gk_ad base ro)) i.toNatClampNeg (some (base + a)) := by
    funext q
    by_cases hq : q = i.toNatClampNeg
    · subst hq
      rw [gk_up_eq, List.getD_eq_getElem?_getD, List.getElem?_set_self hrs]
      show some (gk_ad base ro a) = _
      rw [gk_ad_own (gk_lt hrel ha)]
    · rw [gk_up_ne hq, List.getD_eq_getElem?_getD, List.getElem?_set_ne (Ne.symm hq), ← List.getD_eq_getElem?_getD]
  rw [this]
end GKN
end
section
/-! the walk as a function: what must hold for a method's body to come to its end with Q -/
def gk_lk {α : Type} : List (Nat × α) → Nat → Option α
  | [], _ => none
  | q :: r, k => bif Nat.beq q.1 k then some q.2 else gk_lk r k
theorem gk_lk_mem {α : Type} : ∀ {t : List (Nat × α)} {k : Nat} {v : α}, gk_lk t k = some v → (k, v) ∈ t := by
  intro t
  induction t with
  | nil => intro k v h; cases h
  | cons q r ih =>
    intro k v h
    rw [gk_lk] at h
    cases hq : Nat.beq q.1 k with
    | true =>
      rw [hq] at h
      have := Nat.eq_of_beq_eq_true hq
      cases h
      rw [← this]
      exact List.mem_cons_self
    | false => rw [hq] at h; exact List.mem_cons_of_mem _ (ih h)
/-- a method's table: pc, instruction, next pc, target -/
abbrev gk_T : Type := List (Nat × Instr × Nat × Nat)
/-- a pool: fields (idx, ci, slot, kd), calls (idx, kd, j', ci, n, answer 0 none 1 int 2 long, cells, slots), ints, longs, classes -/
abbrev gk_P : Type := List (Nat × Nat × Nat × Nat) × List (Nat × Nat × Nat × Nat × Nat × Nat × Nat × Nat) × List (Nat × Int32) × List (Nat × Int64) × List (Nat × Nat)
/-- a method's own: answer's kind (0 none, 1 int, 2 long, 3 boolean, 4 char, 5 byte), switches, cells behind its makings' calls -/
abbrev gk_O : Type := Nat × List (Nat × List (Int32 × Nat) × Nat) × List (Nat × gk_G)
def gk_rt (rk : Nat) : Option FieldType := match rk with
  | 0 => none
  | 1 => some .int
  | 2 => some .long
  | 3 => some .boolean
  | 4 => some .char
  | _ => some .byte
/-- the callee's contract, one frame deeper -/
def gk_call (M : Nat → gk_J) (E : gk_E) (d j : Nat) (av : List Value) (Γ Γ1 : gk_G) (h : gk_H) (mc ms : Nat) (K : Option Value → gk_H → Prop) : Prop := ∃ d', d' + 1 = d ∧ gk_Con M E d' j av Γ Γ1 h mc ms K
def gk_tk : Nat → List Value → List Value → Option (List Value × List Value)
  | 0, acc, st => some (acc, st)
  | n + 1, acc, v :: st => gk_tk n (v :: acc) st
  | _ + 1, _, [] => none
theorem gk_tk_eq : ∀ {n : Nat} {acc st av rest : List Value}, gk_tk n acc st = some (av, rest) → ∃ bv, av = bv ++ acc ∧ bv.length = n ∧ st = bv.reverse ++ rest := by
  intro n
  induction n with
  | zero => intro acc st av rest h; cases h; exact ⟨[], rfl, rfl, rfl⟩
  | succ n ih =>
    intro acc st av rest h
    cases st with
    | nil => cases h
    | cons v st =>
      obtain ⟨bv, h1, h2, h3⟩ := ih (acc := v :: acc) h
      refine ⟨bv ++ [v], by rw [h1]; simp, by simp [h2], ?_⟩
      rw [h3]; simp
def gk_cs (st : List Value) : Nat := (st.map fun v => v.category).sum
def gk_al (i : Nat) (K : Option Nat → Prop) : Nat → List (Option Nat) → Prop
  | _, [] => True
  | q, a :: r => (i = q → K a) ∧ gk_al i K (q + 1) r
theorem gk_al_at {i : Nat} {K : Option Nat → Prop} : ∀ {rs : List (Option Nat)} {q : Nat}, gk_al i K q rs → q ≤ i → i < q + rs.length → K (rs.getD (i - q) none) := by
  intro rs
  induction rs with
  | nil => intro q _ h1 h2; simp at h2; omega
  | cons a r ih =>
    intro q h h1 h2
    by_cases e : i = q
    · subst e
      rw [Nat.sub_self]; exact h.1 rfl
    · have h3 := ih h.2 (by omega) (by simp at h2; omega)
      rw [show i - q = i - (q + 1) + 1 by omega]
      exact h3
/-- what is asked of an answer: none, an int, a long -/
def gk_qv (K : gk_H → Prop) : Option Value → gk_H → Prop := fun v h1 => match v with
  | none => K h1
  | some _ => False
def gk_qi (K : Int32 → gk_H → Prop) : Option Value → gk_H → Prop := fun v h1 => match v with
  | some (.int x) => K x h1
  | _ => False
def gk_ql (K : Int64 → gk_H → Prop) : Option Value → gk_H → Prop := fun v h1 => match v with
  | some (.long x) => K x h1
  | _ => False
/-- a number gets a name -/
def gk_nm {α : Type} (b : Bool) (x : α) (F : α → Prop) : Prop := bif b then (∀ y, y = x → F y) else F x
theorem gk_nm_use {α : Type} {b : Bool} {x : α} {F : α → Prop} (h : gk_nm b x F) : F x := by
  cases b with
  | true => exact h x rfl
  | false => exact h
section GKW
variable (nm : Bool) (M : Nat → gk_J) (E : gk_E) (d j : Nat) (cf : Bool) (mc ms : Nat) (Γe : gk_G) (Q : Option Value → gk_H → Prop) (P : gk_P) (O : gk_O) (K : Nat → gk_L → List Value → gk_G → gk_H → Nat → Nat → Prop)
def gk_ld (nxt i kd : Nat) (L : gk_L) (st : List Value) (Γ : gk_G) (h : gk_H) (nc ns : Nat) : Prop := match L[i]? with
  | some (some (.int x)) => bif kd == 0 then K nxt L (.int x :: st) Γ h nc ns else False
  | some (some (.long x)) => bif kd == 1 then K nxt L (.long x :: st) Γ h nc ns else False
  | some (some (.ref x)) => bif kd == 2 then K nxt L (.ref x :: st) Γ h nc ns else False
  | some (some .null) => bif kd == 3 then K nxt L (.null :: st) Γ h nc ns else False
  | _ => False
def gk_sto (nxt i kd : Nat) (L : gk_L) (st : List Value) (Γ : gk_G) (h : gk_H) (nc ns : Nat) : Prop := match st with
  | .int x :: r => bif kd == 0 && Nat.blt i L.length then gk_nm nm x (fun y => K nxt (gk_s1 L i (.int y)) r Γ h nc ns) else False
  | .long x :: r => bif kd == 1 && Nat.blt (i + 1) L.length then gk_nm nm x (fun y => K nxt (gk_s2 L i (.long y)) r Γ h nc ns) else False
  | .ref x :: r => bif kd == 2 && Nat.blt i L.length then K nxt (gk_s1 L i (.ref x)) r Γ h nc ns else False
  | _ => False
def gk_rd (kd : Nat) (nxt : Nat) (L : gk_L) (st : List Value) (Γ : gk_G) (h : gk_H) (nc ns : Nat) : Prop := match st with
  | .int i :: .ref k :: r => bif Nat.beq k 1000000 then (bif kd == 1 then vp_in i E.1.1 ∧ K nxt L (.int (E.2 i.toNatClampNeg) :: r) Γ h nc ns else False) else bif Nat.blt 1000002 k then (bif kd == 5 && Nat.blt k 1000005 then vp_in i (gk_len.getD (k - 1000003) 0) ∧ K nxt L (.int ((gk_byt.getD (k - 1000003) []).getD i.toNatClampNeg 0) :: r) Γ h nc ns else False) else match Γ[k]? with
    | some (1, n, _) => bif kd == 1 then vp_in i n ∧ K nxt L (.int (h.2.1 k i.toNatClampNeg) :: r) Γ h nc ns else False
    | some (2, n, _) => bif kd == 2 then vp_in i n ∧ K nxt L (.int (h.2.1 k i.toNatClampNeg) :: r) Γ h nc ns else False
    | some (3, n, _) => bif kd == 3 then vp_in i n ∧ K nxt L (.long (h.2.2 k i.toNatClampNeg) :: r) Γ h nc ns else False
    | some (4, n, rs) => bif kd == 4 && Nat.beq rs.length n then vp_in i n ∧ gk_al i.toNatClampNeg (fun a => K nxt L (va_rf a :: r) Γ h nc ns) 0 rs else False
    | _ => False
  | _ => False
def gk_wr (kd : Nat) (nxt : Nat) (L : gk_L) (st : List Value) (Γ : gk_G) (h : gk_H) (nc ns : Nat) : Prop := match st with
  | .int x :: .int i :: .ref k :: r => match Γ[k]? with
    | some (1, n, _) => bif kd == 1 then vp_in i n ∧ K nxt L r Γ (gk_ha h k i.toNatClampNeg x) nc ns else False
    | some (2, n, _) => bif kd == 2 then vp_in i n ∧ K nxt L r Γ (gk_ha h k i.toNatClampNeg (vp_nar .char x)) nc ns else False
    | _ => False
  | .long x :: .int i :: .ref k :: r => match Γ[k]? with
    | some (3, n, _) => bif kd == 3 then vp_in i n ∧ K nxt L r Γ (gk_hl h k i.toNatClampNeg x) nc ns else False
    | _ => False
  | .ref a :: .int i :: .ref k :: r => match Γ[k]?, Γ[a]? with
    | some (4, n, rs), some (0, 8, _) => bif kd == 4 && cf && Nat.blt i.toNatClampNeg rs.length then vp_in i n ∧ K nxt L r (Γ.set k (4, n, rs.set i.toNatClampNeg (some a))) h nc ns else False
    | _, _ => False
  | _ => False
def gk_len1 (nxt : Nat) (L : gk_L) (st : List Value) (Γ : gk_G) (h : gk_H) (nc ns : Nat) : Prop := match st with
  | .ref k :: r => bif Nat.beq k 1000000 then K nxt L (.int (Int32.ofNat E.1.1) :: r) Γ h nc ns else bif Nat.blt 1000002 k then (bif Nat.blt k 1000005 then K nxt L (.int (OfNat.ofNat (gk_len.getD (k - 1000003) 0)) :: r) Γ h nc ns else False) else match Γ[k]? with
    | some (1, n, _) => K nxt L (.int (OfNat.ofNat n) :: r) Γ h nc ns
    | some (2, n, _) => K nxt L (.int (OfNat.ofNat n) :: r) Γ h nc ns
    | some (3, n, _) => K nxt L (.int (OfNat.ofNat n) :: r) Γ h nc ns
    | _ => False
  | _ => False
def gk_gf (e : Nat × Nat × Nat) (nxt : Nat) (L : gk_L) (st : List Value) (Γ : gk_G) (h : gk_H) (nc ns : Nat) : Prop := match st with
  | .ref k :: r => bif Nat.blt 1000000 k then (bif Nat.blt k 1000003 then (bif Nat.beq e.2.2 3 then K nxt L (.ref (k + 2) :: r) Γ h nc ns else bif Nat.beq e.2.2 4 then K nxt L (.int 0 :: r) Γ h nc ns else False) else False) else match Γ[k]? with
    | some (0, ci, rs) => bif Nat.beq ci e.1 then (bif Nat.beq e.2.2 0 || Nat.beq e.2.2 1 then K nxt L (.int (h.1 k e.2.1) :: r) Γ h nc ns else bif Nat.beq e.2.2 2 || Nat.beq e.2.2 5 then K nxt L (va_rf (rs.getD e.2.1 none) :: r) Γ h nc ns else False) else False
    | _ => False
  | _ => False
def gk_pf (e : Nat × Nat × Nat) (nxt : Nat) (L : gk_L) (st : List Value) (Γ : gk_G) (h : gk_H) (nc ns : Nat) : Prop := match st with
  | .int x :: .ref k :: r => match Γ[k]? with
    | some (0, ci, _) => bif Nat.beq ci e.1 then (bif Nat.beq e.2.2 0 then K nxt L r Γ (gk_hf h k e.2.1 x) nc ns else bif Nat.beq e.2.2 1 then (x = 0 ∨ x = 1) ∧ K nxt L r Γ (gk_hf h k e.2.1 x) nc ns else False) else False
    | _ => False
  | .ref a :: .ref k :: r => match Γ[k]? with
    | some (0, ci, rs) => bif Nat.beq ci e.1 && (Nat.beq e.2.2 5 && (cf && Nat.blt e.2.1 rs.length)) then K nxt L r (Γ.set k (0, ci, rs.set e.2.1 (some a))) h nc ns else False
    | _ => False
  | .null :: .ref k :: r => match Γ[k]? with
    | some (0, ci, rs) => bif Nat.beq ci e.1 && (Nat.beq e.2.2 5 && (cf && Nat.blt e.2.1 rs.length)) then K nxt L r (Γ.set k (0, ci, rs.set e.2.1 none)) h nc ns else False
    | _ => False
  | _ => False
/-- behind a call -/
def gk_bk (rk : Nat) (nxt : Nat) (L : gk_L) (r : List Value) (Γ1 : gk_G) (nc ns : Nat) : Option Value → gk_H → Prop := match rk with
  | 0 => gk_qv (fun h1 => K nxt L r Γ1 h1 nc ns)
  | 1 => gk_qi (fun x h1 => K nxt L (.int x :: r) Γ1 h1 nc ns)
  | _ => gk_ql (fun x h1 => K nxt L (.long x :: r) Γ1 h1 nc ns)
def gk_cl (e : Nat × Nat × Nat × Nat × Nat × Nat × Nat) (pc nxt : Nat) (av : List Value) (L : gk_L) (r : List Value) (Γ : gk_G) (h : gk_H) (nc ns : Nat) : Prop :=
  bif Nat.ble (gk_cs r) 8 then (match cf with
    | false => gk_call M E d e.2.1 av Γ Γ h 0 0 (gk_bk K e.2.2.2.2.1 nxt L r Γ nc ns)
    | true => match gk_lk O.2.2 pc with
      | none => gk_call M E d e.2.1 av Γ Γ h 0 0 (gk_bk K e.2.2.2.2.1 nxt L r Γ nc ns)
      | some Γ1 => (Γ1.length = Γ.length + e.2.2.2.2.2.1 ∧ nc + e.2.2.2.2.2.1 ≤ mc ∧ ns + e.2.2.2.2.2.2 ≤ ms) ∧ gk_call M E d e.2.1 av Γ Γ1 h e.2.2.2.2.2.1 e.2.2.2.2.2.2 (gk_bk K e.2.2.2.2.1 nxt L r Γ1 (nc + e.2.2.2.2.2.1) (ns + e.2.2.2.2.2.2))) else False
def gk_in (i : Instr) (e : Nat × Nat × Nat × Nat × Nat × Nat × Nat) (pc nxt : Nat) (L : gk_L) (st : List Value) (Γ : gk_G) (h : gk_H) (nc ns : Nat) : Prop := match i with
  | .invokevirtual _ => match gk_tk e.2.2.2.1 [] st with
    | some (av, .ref k :: r) => bif Nat.beq e.1 0 then (match Γ[k]? with
      | some (0, ci, _) => bif Nat.beq ci e.2.2.1 then gk_cl M E d cf mc ms O K e pc nxt (.ref k :: av) L r Γ h nc ns else False
      | _ => False) else bif Nat.beq e.1 7 && (Nat.beq k 1000001 || Nat.beq k 1000002) then gk_cl M E d cf mc ms O K e pc nxt (.ref k :: av) L r Γ h nc ns else False
    | _ => False
  | .invokestatic _ => bif Nat.beq e.1 4 then (match st with
      | .int n :: .int dp :: .ref k :: .int sp :: .ref k0 :: r => bif Nat.ble (gk_cs r) 8 then (match Γ[k0]?, Γ[k]? with
        | some (1, n0, _), some (1, n1, _) => (1 ≤ d ∧ ¬ sp < 0 ∧ ¬ dp < 0 ∧ ¬ n < 0 ∧ sp.toNatClampNeg + n.toNatClampNeg ≤ n0 ∧ dp.toNatClampNeg + n.toNatClampNeg ≤ n1) ∧ K nxt L r Γ (gk_hc h k k0 sp.toNatClampNeg dp.toNatClampNeg n.toNatClampNeg) nc ns
        | some (3, n0, _), some (3, n1, _) => (1 ≤ d ∧ ¬ sp < 0 ∧ ¬ dp < 0 ∧ ¬ n < 0 ∧ sp.toNatClampNeg + n.toNatClampNeg ≤ n0 ∧ dp.toNatClampNeg + n.toNatClampNeg ≤ n1) ∧ K nxt L r Γ (gk_hcl h k k0 sp.toNatClampNeg dp.toNatClampNeg n.toNatClampNeg) nc ns
        | _, _ => False) else False
      | _ => False) else bif Nat.beq e.1 8 then (match st with
      | .int y :: .int x :: r => bif Nat.ble (gk_cs r) 8 then 1 ≤ d ∧ K nxt L (.int (if x < y then y else x) :: r) Γ h nc ns else False
      | _ => False) else bif Nat.beq e.1 9 then (match st with
      | .int y :: .int x :: r => bif Nat.ble (gk_cs r) 8 then 1 ≤ d ∧ K nxt L (.int (if y < x then y else x) :: r) Γ h nc ns else False
      | _ => False) else bif Nat.beq e.1 10 then (match st with
      | .int x :: r => bif Nat.ble (gk_cs r) 8 then 1 ≤ d ∧ K nxt L (.int (if 0 ≤ x then x else 0 - x) :: r) Γ h nc ns else False
      | _ => False) else bif Nat.beq e.1 1 || Nat.beq e.1 5 then (match gk_tk e.2.2.2.1 [] st with
    | some (av, r) => gk_cl M E d cf mc ms O K e pc nxt av L r Γ h nc ns
    | _ => False) else False
  | .invokespecial _ => bif Nat.beq e.1 3 then (match st with
      | .ref _ :: r => bif Nat.ble (gk_cs r) 8 then 1 ≤ d ∧ K nxt L r Γ h nc ns else False
      | _ => False) else bif Nat.beq e.1 2 || Nat.beq e.1 6 then (match gk_tk e.2.2.2.1 [] st with
    | some (av, .ref k :: r) => gk_cl M E d cf mc ms O K e pc nxt (.ref k :: av) L r Γ h nc ns
    | _ => False) else False
  | _ => False
/-- at an end -/
def gk_end (v : Option Value) (Γ : gk_G) (h : gk_H) (nc ns : Nat) : Prop := match cf with
  | false => Q v h
  | true => (Γ = Γe ∧ nc ≤ mc ∧ ns ≤ ms) ∧ Q v h
def gk_rtn (i : Instr) (st : List Value) (Γ : gk_G) (h : gk_H) (nc ns : Nat) : Prop := match i, st with
  | .return_, [] => bif Nat.beq O.1 0 then gk_end cf mc ms Γe Q none Γ h nc ns else False
  | .lreturn, [.long x] => bif Nat.beq O.1 2 then gk_end cf mc ms Γe Q (some (.long x)) Γ h nc ns else False
  | .ireturn, [.int x] => match O.1 with
    | 1 => gk_end cf mc ms Γe Q (some (.int x)) Γ h nc ns
    | 3 => (x = 0 ∨ x = 1) ∧ gk_end cf mc ms Γe Q (some (.int x)) Γ h nc ns
    | 4 => narrow .char (.int x) = .int x ∧ gk_end cf mc ms Γe Q (some (.int x)) Γ h nc ns
    | 5 => narrow .byte (.int x) = .int x ∧ gk_end cf mc ms Γe Q (some (.int x)) Γ h nc ns
    | _ => False
  | _, _ => False
def gk_nw (i : Instr) (nxt : Nat) (L : gk_L) (st : List Value) (Γ : gk_G) (h : gk_H) (nc ns : Nat) : Prop := match cf, i, st with
  | true, .new idx, st => match gk_lk P.2.2.2.2 idx with
    | some ci => (nc + 1 ≤ mc ∧ ns + (gk_bs ci).length ≤ ms ∧ Γ.length < 1000000) ∧ K nxt L (.ref Γ.length :: st) (Γ ++ [(0, ci, List.replicate (gk_bs ci).length none)]) (gk_h0 h Γ.length) (nc + 1) (ns + (gk_bs ci).length)
    | none => False
  | true, .newarray .int, .int n :: r => (¬ n < 0 ∧ n.toNatClampNeg * 8 ≤ 536870912 ∧ nc + 1 ≤ mc ∧ ns + n.toNatClampNeg ≤ ms ∧ Γ.length < 1000000) ∧ K nxt L (.ref Γ.length :: r) (Γ ++ [(1, n.toNatClampNeg, [])]) (gk_h0 h Γ.length) (nc + 1) (ns + n.toNatClampNeg)
  | true, .newarray .char, .int n :: r => (¬ n < 0 ∧ n.toNatClampNeg * 8 ≤ 536870912 ∧ nc + 1 ≤ mc ∧ ns + n.toNatClampNeg ≤ ms ∧ Γ.length < 1000000) ∧ K nxt L (.ref Γ.length :: r) (Γ ++ [(2, n.toNatClampNeg, [])]) (gk_h0 h Γ.length) (nc + 1) (ns + n.toNatClampNeg)
  | true, .newarray .long, .int n :: r => (¬ n < 0 ∧ n.toNatClampNeg * 8 ≤ 536870912 ∧ nc + 1 ≤ mc ∧ ns + n.toNatClampNeg ≤ ms ∧ Γ.length < 1000000) ∧ K nxt L (.ref Γ.length :: r) (Γ ++ [(3, n.toNatClampNeg, [])]) (gk_h0 h Γ.length) (nc + 1) (ns + n.toNatClampNeg)
  | true, .anewarray idx, .int n :: r => match gk_lk P.2.2.2.2 idx with
    | some 8 => (¬ n < 0 ∧ n.toNatClampNeg * 8 ≤ 536870912 ∧ nc + 1 ≤ mc ∧ ns + n.toNatClampNeg ≤ ms ∧ Γ.length < 1000000) ∧ K nxt L (.ref Γ.length :: r) (Γ ++ [(4, n.toNatClampNeg, List.replicate n.toNatClampNeg none)]) (gk_h0 h Γ.length) (nc + 1) (ns + n.toNatClampNeg)
    | _ => False
  | _, _, _ => False
def gk_br (i : Instr) (nxt tgt : Nat) (L : gk_L) (st : List Value) (Γ : gk_G) (h : gk_H) (nc ns : Nat) : Prop := match i, st with
  | .goto _, st => K tgt L st Γ h nc ns
  | .ifCond .eq _, .int x :: r => (x = 0 → K tgt L r Γ h nc ns) ∧ (¬ x = 0 → K nxt L r Γ h nc ns)
  | .ifCond .ne _, .int x :: r => (¬ x = 0 → K tgt L r Γ h nc ns) ∧ (x = 0 → K nxt L r Γ h nc ns)
  | .ifCond .lt _, .int x :: r => (x < 0 → K tgt L r Γ h nc ns) ∧ (¬ x < 0 → K nxt L r Γ h nc ns)
  | .ifCond .ge _, .int x :: r => (0 ≤ x → K tgt L r Γ h nc ns) ∧ (¬ 0 ≤ x → K nxt L r Γ h nc ns)
  | .ifCond .gt _, .int x :: r => (0 < x → K tgt L r Γ h nc ns) ∧ (¬ 0 < x → K nxt L r Γ h nc ns)
  | .ifCond .le _, .int x :: r => (x ≤ 0 → K tgt L r Γ h nc ns) ∧ (¬ x ≤ 0 → K nxt L r Γ h nc ns)
  | .if_icmp .eq _, .int y :: .int x :: r => (x = y → K tgt L r Γ h nc ns) ∧ (¬ x = y → K nxt L r Γ h nc ns)
  | .if_icmp .ne _, .int y :: .int x :: r => (¬ x = y → K tgt L r Γ h nc ns) ∧ (x = y → K nxt L r Γ h nc ns)
  | .if_icmp .lt _, .int y :: .int x :: r => (x < y → K tgt L r Γ h nc ns) ∧ (¬ x < y → K nxt L r Γ h nc ns)
  | .if_icmp .ge _, .int y :: .int x :: r => (y ≤ x → K tgt L r Γ h nc ns) ∧ (¬ y ≤ x → K nxt L r Γ h nc ns)
  | .if_icmp .gt _, .int y :: .int x :: r => (y < x → K tgt L r Γ h nc ns) ∧ (¬ y < x → K nxt L r Γ h nc ns)
  | .if_icmp .le _, .int y :: .int x :: r => (x ≤ y → K tgt L r Γ h nc ns) ∧ (¬ x ≤ y → K nxt L r Γ h nc ns)
  | .ifnull _, .null :: r => K tgt L r Γ h nc ns
  | .ifnull _, .ref _ :: r => K nxt L r Γ h nc ns
  | .ifnonnull _, .null :: r => K nxt L r Γ h nc ns
  | .ifnonnull _, .ref _ :: r => K tgt L r Γ h nc ns
  | _, _ => False
/-- one instruction -/
def gk_one (pc : Nat) (i : Instr) (nxt tgt : Nat) (L : gk_L) (st : List Value) (Γ : gk_G) (h : gk_H) (nc ns : Nat) : Prop := match i with
  | .iload n => gk_ld K nxt n 0 L st Γ h nc ns
  | .iload_n n => gk_ld K nxt n.val 0 L st Γ h nc ns
  | .lload n => gk_ld K nxt n 1 L st Γ h nc ns
  | .lload_n n => gk_ld K nxt n.val 1 L st Γ h nc ns
  | .aload n => match L[n]? with
    | some (some .null) => gk_ld K nxt n 3 L st Γ h nc ns
    | _ => gk_ld K nxt n 2 L st Γ h nc ns
  | .aload_n n => gk_ld K nxt n.val 2 L st Γ h nc ns
  | .istore n => gk_sto nm K nxt n 0 L st Γ h nc ns
  | .istore_n n => gk_sto nm K nxt n.val 0 L st Γ h nc ns
  | .lstore n => gk_sto nm K nxt n 1 L st Γ h nc ns
  | .lstore_n n => gk_sto nm K nxt n.val 1 L st Γ h nc ns
  | .astore n => gk_sto nm K nxt n 2 L st Γ h nc ns
  | .astore_n n => gk_sto nm K nxt n.val 2 L st Γ h nc ns
  | .iinc n z => match L[n]? with
    | some (some (.int x)) => gk_nm nm (x + gk_lit z) (fun y => K nxt (gk_s1 L n (.int y)) st Γ h nc ns)
    | _ => False
  | .idiv => match st with
    | .int y :: .int x :: r => ¬ y = 0 ∧ K nxt L (.int (x / y) :: r) Γ h nc ns
    | _ => False
  | .irem => match st with
    | .int y :: .int x :: r => ¬ y = 0 ∧ K nxt L (.int (x - x / y * y) :: r) Γ h nc ns
    | _ => False
  | .iaload => gk_rd E K 1 nxt L st Γ h nc ns
  | .caload => gk_rd E K 2 nxt L st Γ h nc ns
  | .laload => gk_rd E K 3 nxt L st Γ h nc ns
  | .aaload => gk_rd E K 4 nxt L st Γ h nc ns
  | .baload => gk_rd E K 5 nxt L st Γ h nc ns
  | .iastore => gk_wr cf K 1 nxt L st Γ h nc ns
  | .castore => gk_wr cf K 2 nxt L st Γ h nc ns
  | .lastore => gk_wr cf K 3 nxt L st Γ h nc ns
  | .aastore => gk_wr cf K 4 nxt L st Γ h nc ns
  | .arraylength => gk_len1 E K nxt L st Γ h nc ns
  | .getfield idx => match gk_lk P.1 idx with
    | some e => gk_gf K e nxt L st Γ h nc ns
    | none => False
  | .putfield idx => match gk_lk P.1 idx with
    | some e => gk_pf cf K e nxt L st Γ h nc ns
    | none => False
  | .getstatic _ => bif Nat.beq tgt 0 then K nxt L (.int 1 :: st) Γ h nc ns else K nxt L ((bif E.1.2 then .ref 1000005 else .null) :: st) Γ h nc ns
  | .ldc idx => match gk_lk P.2.2.1 idx with
    | some x => K nxt L (.int x :: st) Γ h nc ns
    | none => bif Nat.beq idx 57 then K nxt L (.ref 1000001 :: st) Γ h nc ns else bif Nat.beq idx 49 then K nxt L (.ref 1000002 :: st) Γ h nc ns else False
  | .ldc_w idx => match gk_lk P.2.2.1 idx with
    | some x => K nxt L (.int x :: st) Γ h nc ns
    | none => False
  | .ldc2_w idx => match gk_lk P.2.2.2.1 idx with
    | some x => K nxt L (.long x :: st) Γ h nc ns
    | none => False
  | .tableswitch _ _ _ _ => match st, gk_lk O.2.1 pc with
    | .int x :: r, some q => gk_sw x q.2 (fun t => K t L r Γ h nc ns) q.1
    | _, _ => False
  | .lookupswitch _ _ => match st, gk_lk O.2.1 pc with
    | .int x :: r, some q => gk_sw x q.2 (fun t => K t L r Γ h nc ns) q.1
    | _, _ => False
  | .goto o => gk_br K (.goto o) nxt tgt L st Γ h nc ns
  | .ifCond c o => gk_br K (.ifCond c o) nxt tgt L st Γ h nc ns
  | .if_icmp c o => gk_br K (.if_icmp c o) nxt tgt L st Γ h nc ns
  | .ifnull o => gk_br K (.ifnull o) nxt tgt L st Γ h nc ns
  | .ifnonnull o => gk_br K (.ifnonnull o) nxt tgt L st Γ h nc ns
  | .invokevirtual idx => match gk_lk P.2.1 idx with
    | some e => gk_in M E d cf mc ms O K (.invokevirtual idx) e pc nxt L st Γ h nc ns
    | none => False
  | .invokestatic idx => match gk_lk P.2.1 idx with
    | some e => gk_in M E d cf mc ms O K (.invokestatic idx) e pc nxt L st Γ h nc ns
    | none => False
  | .invokespecial idx => match gk_lk P.2.1 idx with
    | some e => gk_in M E d cf mc ms O K (.invokespecial idx) e pc nxt L st Γ h nc ns
    | none => False
  | .return_ => gk_rtn cf mc ms Γe Q O .return_ st Γ h nc ns
  | .lreturn => gk_rtn cf mc ms Γe Q O .lreturn st Γ h nc ns
  | .ireturn => gk_rtn cf mc ms Γe Q O .ireturn st Γ h nc ns
  | .new idx => gk_nw cf mc ms P K (.new idx) nxt L st Γ h nc ns
  | .newarray t => gk_nw cf mc ms P K (.newarray t) nxt L st Γ h nc ns
  | .anewarray idx => gk_nw cf mc ms P K (.anewarray idx) nxt L st Γ h nc ns
  | i => match gk_alu i st with
    | some st' => K nxt L st' Γ h nc ns
    | none => False
end GKW
end
section
/-! the function is sound -/
def gk_tgok (pc : Nat) (i : Instr) (tgt : Nat) : Bool := match i with
  | .goto o => decide ((pc : Int) + o = tgt)
  | .ifCond _ o => decide ((pc : Int) + o = tgt)
  | .if_icmp _ o => decide ((pc : Int) + o = tgt)
  | .ifnull o => decide ((pc : Int) + o = tgt)
  | .ifnonnull o => decide ((pc : Int) + o = tgt)
  | _ => true
def gk_eok (bytes : ByteArray) (q : Nat × Instr × Nat × Nat) : Bool := match q.2.1 with
  | .tableswitch a b c e => decide (decode bytes q.1 = .ok (.tableswitch a b c e, q.2.2.1 - q.1))
  | .lookupswitch a b => decide (decode bytes q.1 = .ok (.lookupswitch a b, q.2.2.1 - q.1))
  | i => decide (decode bytes q.1 = .ok (i, gk_ln i)) && (Nat.beq q.2.2.1 (q.1 + gk_ln i) && gk_tgok q.1 i q.2.2.2)
def gk_fok1 (own : String) (e : Nat × Nat × Nat × Nat) : Prop := match e.2.2.2 with
  | 3 => Cond.fieldLink own e.1 "java/lang/String" "value" "[B" ∈ gk_TT
  | 4 => Cond.fieldLink own e.1 "java/lang/String" "coder" "B" ∈ gk_TT
  | kd => gk_fok own e.1 e.2.1 e.2.2.1 kd
def gk_cok1 (M : Nat → gk_J) (own : String) (e : Nat × Nat × Nat × Nat × Nat × Nat × Nat × Nat) : Prop := match e.2.1 with
  | 3 => ∀ w ∈ ([.methodLink own e.1 Lib.objectInit, .instanceMethod Lib.objectInit, .code Lib.objectInit ⟨#[0xb1]⟩ 1 none] : List Cond), w ∈ gk_TT
  | 4 => ∀ w ∈ ([.methodLink own e.1 arraycopyName, .native arraycopyName, .static arraycopyName, .initialized "java/lang/System"] : List Cond), w ∈ gk_TT
  | 8 => ∀ w ∈ ([.methodLink own e.1 Lib.Math.max.name, .static Lib.Math.max.name, .initialized "java/lang/Math", .code Lib.Math.max.name Lib.Math.max.code 2 (some .int)] : List Cond), w ∈ gk_TT
  | 9 => ∀ w ∈ ([.methodLink own e.1 Lib.Math.min.name, .static Lib.Math.min.name, .initialized "java/lang/Math", .code Lib.Math.min.name Lib.Math.min.code 2 (some .int)] : List Cond), w ∈ gk_TT
  | 10 => ∀ w ∈ ([.methodLink own e.1 Lib.Math.abs.name, .static Lib.Math.abs.name, .initialized "java/lang/Math", .code Lib.Math.abs.name Lib.Math.abs.code 1 (some .int)] : List Cond), w ∈ gk_TT
  | kd => gk_cok own e.1 kd (M e.2.2.1) e.2.2.2.1 e.2.2.2.2.1
def gk_nok (own : String) (e : Nat × Nat) : Prop := ∃ (C : String) (T : u_T) (N : Nat), vwCl[e.2]? = some (C, T, N) ∧ ∀ w ∈ ([.classLink own e.1 C, .instantiable C N, .initialized C] : List Cond), w ∈ gk_TT
/-- a class's pool says what is so -/
def gk_pok (M : Nat → gk_J) (own : String) (P : gk_P) : Prop := (∀ e ∈ P.1, gk_fok1 own e) ∧ (∀ e ∈ P.2.1, gk_cok1 M own e) ∧ (∀ e ∈ P.2.2.1, Cond.constant own e.1 e.2 ∈ gk_TT) ∧ (∀ e ∈ P.2.2.2.1, Cond.constantLong own e.1 e.2 ∈ gk_TT) ∧ ∀ e ∈ P.2.2.2.2, gk_nok own e
def gk_xok (own : String) (P : gk_P) (O : gk_O) (q : Nat × Instr × Nat × Nat) : Prop := match q.2.1 with
  | .tableswitch a b c e => ∀ z, gk_lk O.2.1 q.1 = some z → gk_tokb q.1 a b c e z.1 z.2 = true
  | .lookupswitch a b => ∀ z, gk_lk O.2.1 q.1 = some z → gk_lokb q.1 a b z.1 z.2 = true
  | .getstatic idx => match q.2.2.2 with
    | 0 => Cond.fieldLink own idx "java/lang/String" "COMPACT_STRINGS" "Z" ∈ gk_TT
    | _ => Cond.fieldLink own idx "jdk/internal/util/Preconditions" "SIOOBE_FORMATTER" "Ljava/util/function/BiFunction;" ∈ gk_TT
  | .ldc idx => gk_lk P.2.2.1 idx = none → own = "DryPlaces$Tape"
  | _ => True
/-- a method's tables say what is so -/
def gk_ok (M : Nat → gk_J) (j : Nat) (tb : gk_T) (P : gk_P) (O : gk_O) : Prop := (∀ q ∈ tb, gk_eok (M j).2.1 q = true) ∧ gk_pok M (M j).1.cls P ∧ (∀ q ∈ tb, gk_xok (M j).1.cls P O q) ∧ (M j).2.2.2 = gk_rt O.1
set_option maxRecDepth 100000 in
theorem gk_arrs : Cond.arrayClass .int ∈ gk_TT ∧ Cond.arrayClass .char ∈ gk_TT ∧ Cond.arrayClass .long ∈ gk_TT := ⟨gk_TT_of (by decide +kernel) rfl, gk_TT_of (by decide +kernel) rfl, gk_TT_of (by decide +kernel) rfl⟩
section GKS
variable {M : Nat → gk_J} {E : gk_E} {d j : Nat} {cf : Bool} {mc ms : Nat} {Γe : gk_G} {Q : Option Value → gk_H → Prop} {P : gk_P} {O : gk_O} {K : Nat → gk_L → List Value → gk_G → gk_H → Nat → Nat → Prop}
/-- what a state keeps where nothing is made -/
def gk_inv (cf : Bool) (mc ms : Nat) (Γe Γ : gk_G) (nc ns : Nat) : Prop := (cf = false → Γ = Γe) ∧ nc ≤ mc ∧ ns ≤ ms
def gk_KG (M : Nat → gk_J) (E : gk_E) (d j : Nat) (cf : Bool) (mc ms : Nat) (Γe : gk_G) (Q : Option Value → gk_H → Prop) (K : Nat → gk_L → List Value → gk_G → gk_H → Nat → Nat → Prop) : Prop := ∀ pc L st Γ h nc ns, gk_inv cf mc ms Γe Γ nc ns → K pc L st Γ h nc ns → gk_Go M E d j cf mc ms Γe Q pc L st Γ h nc ns
variable {pc nxt tgt : Nat} {L : gk_L} {st : List Value} {Γ : gk_G} {h : gk_H} {nc ns : Nat}
theorem gk_two (a k : Nat) (h1 : a < k) (h2 : k < a + 3) : k = a + 1 ∨ k = a + 2 := by omega
theorem gk_bif {b : Bool} {A : Prop} (h : bif b then A else False) : b = true ∧ A := by cases b with | true => exact ⟨rfl, h⟩ | false => exact absurd h id
set_option maxHeartbeats 1000000 in
theorem gk_ld_sound (hK : gk_KG M E d j cf mc ms Γe Q K) (hi : gk_inv cf mc ms Γe Γ nc ns) {i n kd : Nat} {ins : Instr} (hw : gk_ld K nxt n kd L st Γ h nc ns) (hn : nxt = pc + i) (hdg : decode (M j).2.1 pc = .ok (ins, i)) (hins : (kd = 0 ∧ ((ins = .iload n ∧ i = 2) ∨ ∃ f : Fin 4, ins = .iload_n f ∧ f.val = n ∧ i = 1)) ∨ (kd = 1 ∧ ((ins = .lload n ∧ i = 2) ∨ ∃ f : Fin 4, ins = .lload_n f ∧ f.val = n ∧ i = 1)) ∨ (kd = 2 ∧ ((ins = .aload n ∧ i = 2) ∨ ∃ f : Fin 4, ins = .aload_n f ∧ f.val = n ∧ i = 1)) ∨ (kd = 3 ∧ ins = .aload n ∧ i = 2)) : gk_Go M E d j cf mc ms Γe Q pc L st Γ h nc ns := by
  subst hn
  unfold gk_ld at hw
  split at hw
  · rename_i x hl
    obtain ⟨h1, h2⟩ := gk_bif hw
    have h3 : kd = 0 := by simpa using h1
    subst h3
    rcases hins with ⟨-, ⟨rfl, rfl⟩ | ⟨f, rfl, rfl, rfl⟩⟩ | ⟨h9, -⟩ | ⟨h9, -⟩ | ⟨h9, -⟩
    · exact gk_go_iload hl hdg (hK _ _ _ _ _ _ _ hi h2)
    · exact gk_go_iload_n hl hdg (hK _ _ _ _ _ _ _ hi h2)
    all_goals cases h9
  · rename_i x hl
    obtain ⟨h1, h2⟩ := gk_bif hw
    have h3 : kd = 1 := by simpa using h1
    subst h3
    rcases hins with ⟨h9, -⟩ | ⟨-, ⟨rfl, rfl⟩ | ⟨f, rfl, rfl, rfl⟩⟩ | ⟨h9, -⟩ | ⟨h9, -⟩
    · cases h9
    · exact gk_go_lload hl hdg (hK _ _ _ _ _ _ _ hi h2)
    · exact gk_go_lload_n hl hdg (hK _ _ _ _ _ _ _ hi h2)
    all_goals cases h9
  · rename_i x hl
    obtain ⟨h1, h2⟩ := gk_bif hw
    have h3 : kd = 2 := by simpa using h1
    subst h3
    rcases hins with ⟨h9, -⟩ | ⟨h9, -⟩ | ⟨-, ⟨rfl, rfl⟩ | ⟨f, rfl, rfl, rfl⟩⟩ | ⟨h9, -⟩
    · cases h9
    · cases h9
    · exact gk_go_aload hl hdg (hK _ _ _ _ _ _ _ hi h2)
    · exact gk_go_aload_n hl hdg (hK _ _ _ _ _ _ _ hi h2)
    · cases h9
  · rename_i hl
    obtain ⟨h1, h2⟩ := gk_bif hw
    have h3 : kd = 3 := by simpa using h1
    subst h3
    rcases hins with ⟨h9, -⟩ | ⟨h9, -⟩ | ⟨h9, -⟩ | ⟨-, rfl, rfl⟩
    · cases h9
    · cases h9
    · cases h9
    · exact gk_go_aloadN hl hdg (hK _ _ _ _ _ _ _ hi h2)
  · exact absurd hw id
set_option maxHeartbeats 1000000 in
theorem gk_sto_sound {nm : Bool} (hK : gk_KG M E d j cf mc ms Γe Q K) (hi : gk_inv cf mc ms Γe Γ nc ns) {i n kd : Nat} {ins : Instr} (hw : gk_sto nm K nxt n kd L st Γ h nc ns) (hn : nxt = pc + i) (hdg : decode (M j).2.1 pc = .ok (ins, i)) (hins : (kd = 0 ∧ ((ins = .istore n ∧ i = 2) ∨ ∃ f : Fin 4, ins = .istore_n f ∧ f.val = n ∧ i = 1)) ∨ (kd = 1 ∧ ((ins = .lstore n ∧ i = 2) ∨ ∃ f : Fin 4, ins = .lstore_n f ∧ f.val = n ∧ i = 1)) ∨ (kd = 2 ∧ ((ins = .astore n ∧ i = 2) ∨ ∃ f : Fin 4, ins = .astore_n f ∧ f.val = n ∧ i = 1))) : gk_Go M E d j cf mc ms Γe Q pc L st Γ h nc ns := by
  subst hn
  unfold gk_sto at hw
  split at hw
  · obtain ⟨h1, h2⟩ := gk_bif hw
    simp only [Bool.and_eq_true, beq_iff_eq, Nat.blt_eq] at h1
    obtain ⟨rfl, h4⟩ := h1
    have h2 := gk_nm_use h2
    rcases hins with ⟨-, ⟨rfl, rfl⟩ | ⟨f, rfl, rfl, rfl⟩⟩ | ⟨h9, -⟩ | ⟨h9, -⟩
    · exact gk_go_istore h4 hdg (hK _ _ _ _ _ _ _ hi h2)
    · exact gk_go_istore_n h4 hdg (hK _ _ _ _ _ _ _ hi h2)
    all_goals cases h9
  · obtain ⟨h1, h2⟩ := gk_bif hw
    simp only [Bool.and_eq_true, beq_iff_eq, Nat.blt_eq] at h1
    obtain ⟨rfl, h4⟩ := h1
    have h2 := gk_nm_use h2
    rcases hins with ⟨h9, -⟩ | ⟨-, ⟨rfl, rfl⟩ | ⟨f, rfl, rfl, rfl⟩⟩ | ⟨h9, -⟩
    · cases h9
    · exact gk_go_lstore h4 hdg (hK _ _ _ _ _ _ _ hi h2)
    · exact gk_go_lstore_n h4 hdg (hK _ _ _ _ _ _ _ hi h2)
    · cases h9
  · obtain ⟨h1, h2⟩ := gk_bif hw
    simp only [Bool.and_eq_true, beq_iff_eq, Nat.blt_eq] at h1
    obtain ⟨rfl, h4⟩ := h1
    rcases hins with ⟨h9, -⟩ | ⟨h9, -⟩ | ⟨-, ⟨rfl, rfl⟩ | ⟨f, rfl, rfl, rfl⟩⟩
    · cases h9
    · cases h9
    · exact gk_go_astore h4 hdg (hK _ _ _ _ _ _ _ hi h2)
    · exact gk_go_astore_n h4 hdg (hK _ _ _ _ _ _ _ hi h2)
  · exact absurd hw id
def gk_rdi (kd : Nat) : Instr := match kd with
  | 1 => .iaload
  | 2 => .caload
  | 3 => .laload
  | 4 => .aaload
  | _ => .baload
set_option maxHeartbeats 2000000 in
theorem gk_rd_sound (hK : gk_KG M E d j cf mc ms Γe Q K) (hi : gk_inv cf mc ms Γe Γ nc ns) {kd : Nat} (hw : gk_rd E K kd nxt L st Γ h nc ns) (hn : nxt = pc + 1) (hdg : decode (M j).2.1 pc = .ok (gk_rdi kd, 1)) : gk_Go M E d j cf mc ms Γe Q pc L st Γ h nc ns := by
  subst hn
  unfold gk_rd at hw
  split at hw
  · rename_i i k r
    cases hk0 : Nat.beq k 1000000 with
    | true =>
      rw [hk0] at hw
      obtain ⟨h1, h2, h3⟩ := gk_bif hw
      have h4 : kd = 1 := by simpa using h1
      subst h4
      have := Nat.eq_of_beq_eq_true hk0
      subst this
      exact gk_go_sld h2 hdg (hK _ _ _ _ _ _ _ hi h3)
    | false =>
      rw [hk0] at hw
      cases hk1 : Nat.blt 1000002 k with
      | true =>
        rw [hk1] at hw
        obtain ⟨h1, h2, h3⟩ := gk_bif hw
        simp only [Bool.and_eq_true, beq_iff_eq, Nat.blt_eq] at h1 hk1
        obtain ⟨rfl, h4⟩ := h1
        rcases gk_two 1000002 k hk1 (by first | exact h4 | exact h1) with rfl | rfl
        · exact gk_go_bald (i := 0) (by decide) h2 hdg (hK _ _ _ _ _ _ _ hi h3)
        · exact gk_go_bald (i := 1) (by decide) h2 hdg (hK _ _ _ _ _ _ _ hi h3)
      | false =>
        rw [hk1] at hw
        simp only [cond_false] at hw
        split at hw
        · rename_i n rs hg
          obtain ⟨h1, h2, h3⟩ := gk_bif hw
          have h4 : kd = 1 := by simpa using h1
          subst h4
          exact gk_go_iald hg h2 hdg (hK _ _ _ _ _ _ _ hi h3)
        · rename_i n rs hg
          obtain ⟨h1, h2, h3⟩ := gk_bif hw
          have h4 : kd = 2 := by simpa using h1
          subst h4
          exact gk_go_cald hg h2 hdg (hK _ _ _ _ _ _ _ hi h3)
        · rename_i n rs hg
          obtain ⟨h1, h2, h3⟩ := gk_bif hw
          have h4 : kd = 3 := by simpa using h1
          subst h4
          exact gk_go_lald hg h2 hdg (hK _ _ _ _ _ _ _ hi h3)
        · rename_i n rs hg
          obtain ⟨h1, h2, h3⟩ := gk_bif hw
          simp only [Bool.and_eq_true, beq_iff_eq] at h1
          obtain ⟨rfl, h5⟩ := h1
          have h5 := Nat.eq_of_beq_eq_true h5
          refine gk_go_aald hg h2 hdg (hK _ _ _ _ _ _ _ hi ?_)
          have h6 := gk_al_at h3 (Nat.zero_le _) (by rw [Nat.zero_add, h5]; exact Nat.not_le.mp (fun q => h2 (Or.inr q)))
          exact h6
        · exact absurd hw id
  · exact absurd hw id
def gk_wri (kd : Nat) : Instr := match kd with
  | 1 => .iastore
  | 2 => .castore
  | 3 => .lastore
  | _ => .aastore
set_option maxHeartbeats 2000000 in
theorem gk_wr_sound (hK : gk_KG M E d j cf mc ms Γe Q K) (hi : gk_inv cf mc ms Γe Γ nc ns) {kd : Nat} (hw : gk_wr cf K kd nxt L st Γ h nc ns) (hn : nxt = pc + 1) (hdg : decode (M j).2.1 pc = .ok (gk_wri kd, 1)) : gk_Go M E d j cf mc ms Γe Q pc L st Γ h nc ns := by
  subst hn
  unfold gk_wr at hw
  split at hw
  · split at hw
    · rename_i hg
      obtain ⟨h1, h2, h3⟩ := gk_bif hw
      have h4 : kd = 1 := by simpa using h1
      subst h4
      exact gk_go_iast hg h2 hdg (hK _ _ _ _ _ _ _ hi h3)
    · rename_i hg
      obtain ⟨h1, h2, h3⟩ := gk_bif hw
      have h4 : kd = 2 := by simpa using h1
      subst h4
      exact gk_go_cast hg h2 hdg (hK _ _ _ _ _ _ _ hi h3)
    · exact absurd hw id
  · split at hw
    · rename_i hg
      obtain ⟨h1, h2, h3⟩ := gk_bif hw
      have h4 : kd = 3 := by simpa using h1
      subst h4
      exact gk_go_last hg h2 hdg (hK _ _ _ _ _ _ _ hi h3)
    · exact absurd hw id
  · split at hw
    · rename_i hg ha
      obtain ⟨h1, h2, h3⟩ := gk_bif hw
      simp only [Bool.and_eq_true, beq_iff_eq, Nat.blt_eq] at h1
      obtain ⟨⟨rfl, h4⟩, h5⟩ := h1
      exact gk_go_aast hg ha h2 h5 hdg (hK _ _ _ _ _ _ _ ⟨fun h9 => (by rw [h4] at h9; cases h9), hi.2⟩ h3)
    · exact absurd hw id
  · exact absurd hw id
set_option maxHeartbeats 2000000 in
theorem gk_len1_sound (hK : gk_KG M E d j cf mc ms Γe Q K) (hi : gk_inv cf mc ms Γe Γ nc ns) (hw : gk_len1 E K nxt L st Γ h nc ns) (hn : nxt = pc + 1) (hdg : decode (M j).2.1 pc = .ok (.arraylength, 1)) : gk_Go M E d j cf mc ms Γe Q pc L st Γ h nc ns := by
  subst hn
  unfold gk_len1 at hw
  split at hw
  · rename_i k r
    cases hk0 : Nat.beq k 1000000 with
    | true =>
      rw [hk0] at hw
      have := Nat.eq_of_beq_eq_true hk0
      subst this
      exact gk_go_slen hdg (hK _ _ _ _ _ _ _ hi hw)
    | false =>
      rw [hk0] at hw
      cases hk1 : Nat.blt 1000002 k with
      | true =>
        rw [hk1] at hw
        obtain ⟨h1, h3⟩ := gk_bif hw
        simp only [Nat.blt_eq] at h1 hk1
        rcases gk_two 1000002 k hk1 (by first | exact h4 | exact h1) with rfl | rfl
        · exact gk_go_blen (i := 0) (by decide) hdg (hK _ _ _ _ _ _ _ hi h3)
        · exact gk_go_blen (i := 1) (by decide) hdg (hK _ _ _ _ _ _ _ hi h3)
      | false =>
        rw [hk1] at hw
        simp only [cond_false] at hw
        split at hw
        · rename_i hg; exact gk_go_alen hg (Or.inl rfl) hdg (hK _ _ _ _ _ _ _ hi hw)
        · rename_i hg; exact gk_go_alen hg (Or.inr (Or.inl rfl)) hdg (hK _ _ _ _ _ _ _ hi hw)
        · rename_i hg; exact gk_go_alen hg (Or.inr (Or.inr rfl)) hdg (hK _ _ _ _ _ _ _ hi hw)
        · exact absurd hw id
  · exact absurd hw id
set_option maxHeartbeats 2000000 in
theorem gk_gf_sound (hK : gk_KG M E d j cf mc ms Γe Q K) (hi : gk_inv cf mc ms Γe Γ nc ns) {idx : Nat} {e : Nat × Nat × Nat} (hf : gk_fok1 (M j).1.cls (idx, e)) (hw : gk_gf K e nxt L st Γ h nc ns) (hn : nxt = pc + 3) (hdg : decode (M j).2.1 pc = .ok (.getfield idx, 3)) : gk_Go M E d j cf mc ms Γe Q pc L st Γ h nc ns := by
  subst hn
  unfold gk_gf at hw
  obtain ⟨ci, sl, kd⟩ := e
  split at hw
  · rename_i k r
    cases hk0 : Nat.blt 1000000 k with
    | true =>
      rw [hk0] at hw
      obtain ⟨h1, h2⟩ := gk_bif hw
      simp only [Nat.blt_eq] at h1 hk0
      have e1 := gk_two 1000000 k hk0 h1
      cases hk3 : Nat.beq kd 3 with
      | true =>
        rw [hk3] at h2
        have := Nat.eq_of_beq_eq_true hk3
        subst this
        rcases e1 with rfl | rfl
        · exact gk_go_gets (kd := 3) (i := 0) (by decide) (Or.inl ⟨rfl, hf⟩) hdg (hK _ _ _ _ _ _ _ hi h2)
        · exact gk_go_gets (kd := 3) (i := 1) (by decide) (Or.inl ⟨rfl, hf⟩) hdg (hK _ _ _ _ _ _ _ hi h2)
      | false =>
        rw [hk3] at h2
        obtain ⟨h4, h5⟩ := gk_bif h2
        have := Nat.eq_of_beq_eq_true h4
        subst this
        rcases e1 with rfl | rfl
        · exact gk_go_gets (kd := 4) (i := 0) (by decide) (Or.inr ⟨rfl, hf⟩) hdg (hK _ _ _ _ _ _ _ hi h5)
        · exact gk_go_gets (kd := 4) (i := 1) (by decide) (Or.inr ⟨rfl, hf⟩) hdg (hK _ _ _ _ _ _ _ hi h5)
    | false =>
      rw [hk0] at hw
      simp only [cond_false] at hw
      split at hw
      · rename_i ci' rs hg
        obtain ⟨h1, h2⟩ := gk_bif hw
        have := Nat.eq_of_beq_eq_true h1
        subst this
        cases hk3 : (Nat.beq kd 0 || Nat.beq kd 1) with
        | true =>
          rw [hk3] at h2
          simp only [Bool.or_eq_true] at hk3
          have hf2 : gk_fok (M j).1.cls idx ci' sl kd := by
            rcases hk3 with h9 | h9 <;> (have := Nat.eq_of_beq_eq_true h9; subst this; exact hf)
          have hb : (gk_bs ci')[sl]? = some false := by
            obtain ⟨C, T, N, ty, g1, g2, g3, g4, g5, g6⟩ := hf2
            rcases hk3 with h9 | h9 <;> (have := Nat.eq_of_beq_eq_true h9; subst this; exact g6.1)
          exact gk_go_get hf2 hb hg hdg (hK _ _ _ _ _ _ _ hi h2)
        | false =>
          rw [hk3] at h2
          obtain ⟨h4, h5⟩ := gk_bif h2
          simp only [Bool.or_eq_true] at h4
          have hf2 : gk_fok (M j).1.cls idx ci' sl kd := by
            rcases h4 with h9 | h9 <;> (have := Nat.eq_of_beq_eq_true h9; subst this; exact hf)
          have hb : (gk_bs ci')[sl]? = some true := by
            obtain ⟨C, T, N, ty, g1, g2, g3, g4, g5, g6⟩ := hf2
            rcases h4 with h9 | h9
            · have := Nat.eq_of_beq_eq_true h9; subst this; exact g6
            · have := Nat.eq_of_beq_eq_true h9; subst this; exact g6.1
          exact gk_go_get hf2 hb hg hdg (hK _ _ _ _ _ _ _ hi h5)
      · exact absurd hw id
  · exact absurd hw id
set_option maxHeartbeats 2000000 in
theorem gk_pf_sound (hK : gk_KG M E d j cf mc ms Γe Q K) (hi : gk_inv cf mc ms Γe Γ nc ns) {idx : Nat} {e : Nat × Nat × Nat} (hf : gk_fok1 (M j).1.cls (idx, e)) (hw : gk_pf cf K e nxt L st Γ h nc ns) (hn : nxt = pc + 3) (hdg : decode (M j).2.1 pc = .ok (.putfield idx, 3)) : gk_Go M E d j cf mc ms Γe Q pc L st Γ h nc ns := by
  subst hn
  unfold gk_pf at hw
  obtain ⟨ci, sl, kd⟩ := e
  split at hw
  · split at hw
    · rename_i ci' rs hg
      obtain ⟨h1, h2⟩ := gk_bif hw
      have := Nat.eq_of_beq_eq_true h1
      subst this
      cases hk3 : Nat.beq kd 0 with
      | true =>
        rw [hk3] at h2
        have := Nat.eq_of_beq_eq_true hk3
        subst this
        exact gk_go_puti (kd := 0) hf (Or.inl rfl) hg hdg (hK _ _ _ _ _ _ _ hi h2)
      | false =>
        rw [hk3] at h2
        obtain ⟨h4, h5, h6⟩ := gk_bif h2
        have := Nat.eq_of_beq_eq_true h4
        subst this
        exact gk_go_puti (kd := 1) hf (Or.inr ⟨rfl, h5⟩) hg hdg (hK _ _ _ _ _ _ _ hi h6)
    · exact absurd hw id
  · split at hw
    · rename_i a k r x ci' rs hg
      obtain ⟨h1, h2⟩ := gk_bif hw
      simp only [Bool.and_eq_true, Nat.blt_eq] at h1
      obtain ⟨g1, g2, g3, g4⟩ := h1
      have := Nat.eq_of_beq_eq_true g1
      subst this
      have := Nat.eq_of_beq_eq_true g2
      subst this
      exact gk_go_putr (a := some a) g3 hf rfl hg g4 hdg (hK _ _ _ _ _ _ _ ⟨fun h9 => (by rw [g3] at h9; cases h9), hi.2⟩ h2)
    · exact absurd hw id
  · split at hw
    · rename_i k r x ci' rs hg
      obtain ⟨h1, h2⟩ := gk_bif hw
      simp only [Bool.and_eq_true, Nat.blt_eq] at h1
      obtain ⟨g1, g2, g3, g4⟩ := h1
      have := Nat.eq_of_beq_eq_true g1
      subst this
      have := Nat.eq_of_beq_eq_true g2
      subst this
      exact gk_go_putr (a := none) g3 hf rfl hg g4 hdg (hK _ _ _ _ _ _ _ ⟨fun h9 => (by rw [g3] at h9; cases h9), hi.2⟩ h2)
    · exact absurd hw id
  · exact absurd hw id
end GKS
end
section
section GKS2
variable {M : Nat → gk_J} {E : gk_E} {d j : Nat} {cf : Bool} {mc ms : Nat} {Γe : gk_G} {Q : Option Value → gk_H → Prop} {P : gk_P} {O : gk_O} {K : Nat → gk_L → List Value → gk_G → gk_H → Nat → Nat → Prop}
variable {pc nxt tgt : Nat} {L : gk_L} {st : List Value} {Γ : gk_G} {h : gk_H} {nc ns : Nat}
theorem gk_bk_use {rk : Nat} {r : List Value} {Γ1 : gk_G} (hK : gk_KG M E d j cf mc ms Γe Q K) (hi1 : gk_inv cf mc ms Γe Γ1 nc ns) {v : Option Value} {h1 : gk_H} (hb : gk_bk K rk nxt L r Γ1 nc ns v h1) : gk_Go M E d j cf mc ms Γe Q nxt L (v.toList ++ r) Γ1 h1 nc ns := by
  match rk, hb with
  | 0, hb => match v, hb with
    | none, hb => exact hK _ _ _ _ _ _ _ hi1 hb
  | 1, hb => match v, hb with
    | some (.int x), hb => exact hK _ _ _ _ _ _ _ hi1 hb
  | n + 2, hb => match v, hb with
    | some (.long x), hb => exact hK _ _ _ _ _ _ _ hi1 hb
set_option maxHeartbeats 1000000 in
/-- what a call's walk asks, for any kind of call -/
theorem gk_cl_sound (hK : gk_KG M E d j cf mc ms Γe Q K) (hi : gk_inv cf mc ms Γe Γ nc ns) {e : Nat × Nat × Nat × Nat × Nat × Nat × Nat} {av r : List Value} {G : Prop} (hw : gk_cl M E d cf mc ms O K e pc nxt av L r Γ h nc ns)
    (kk : ∀ (d' mc' ms' : Nat) (Γ1 : gk_G) (Q' : Option Value → gk_H → Prop), d' + 1 ≤ d → (r.map fun v => v.category).sum ≤ 8 → gk_Con M E d' e.2.1 av Γ Γ1 h mc' ms' Q' → Γ1.length = Γ.length + mc' → nc + mc' ≤ mc ∧ ns + ms' ≤ ms → (∀ (v : Option Value) (h1 : gk_H), Q' v h1 → gk_Go M E d j cf mc ms Γe Q nxt L (v.toList ++ r) Γ1 h1 (nc + mc') (ns + ms')) → G) : G := by
  unfold gk_cl at hw
  obtain ⟨h1, h2⟩ := gk_bif hw
  have hcat : (r.map fun v => v.category).sum ≤ 8 := Nat.le_of_ble_eq_true h1
  have plain : gk_call M E d e.2.1 av Γ Γ h 0 0 (gk_bk K e.2.2.2.2.1 nxt L r Γ nc ns) → (nc ≤ mc ∧ ns ≤ ms) → G := by
    intro hc hrm
    obtain ⟨d', hd, hcon⟩ := hc
    exact kk d' 0 0 Γ _ (by omega) hcat hcon rfl hrm (fun v h1 hq => gk_bk_use hK hi hq)
  cases cf with
  | false => exact plain h2 hi.2
  | true =>
    simp only at h2
    split at h2
    · exact plain h2 hi.2
    · obtain ⟨⟨a1, a2, a3⟩, d', hd, hcon⟩ := h2
      exact kk d' _ _ _ _ (by omega) hcat hcon a1 ⟨a2, a3⟩ (fun v h1 hq => gk_bk_use hK ⟨fun h9 => (by cases h9), a2, a3⟩ hq)
set_option maxHeartbeats 2000000 in
theorem gk_in_sound (hK : gk_KG M E d j cf mc ms Γe Q K) (hi : gk_inv cf mc ms Γe Γ nc ns) {i : Instr} {idx : Nat} {e : Nat × Nat × Nat × Nat × Nat × Nat × Nat} (hc : gk_cok1 M (M j).1.cls (idx, e)) (hw : gk_in M E d cf mc ms O K i e pc nxt L st Γ h nc ns) (hn : nxt = pc + 3) (hdg : decode (M j).2.1 pc = .ok (i, 3)) (hii : i = .invokevirtual idx ∨ i = .invokestatic idx ∨ i = .invokespecial idx) : gk_Go M E d j cf mc ms Γe Q pc L st Γ h nc ns := by
  subst hn
  obtain ⟨kd, j', ci, n, rk, mc1, ms1⟩ := e
  rcases hii with rfl | rfl | rfl
  · simp only [gk_in] at hw
    split at hw
    · rename_i av k r htk
      obtain ⟨bv, b1, b2, b3⟩ := gk_tk_eq htk
      rw [List.append_nil] at b1
      subst b1
      subst b3
      cases hk0 : Nat.beq kd 0 with
      | true =>
        rw [hk0] at hw
        have := Nat.eq_of_beq_eq_true hk0
        subst this
        simp only [cond_true] at hw
        split at hw
        · rename_i ci' rs hg
          obtain ⟨h1, h2⟩ := gk_bif hw
          have := Nat.eq_of_beq_eq_true h1
          subst this
          exact gk_cl_sound hK hi h2 (fun d' mc' ms' Γ1 Q' hd hcat hcon hlen hrm hgo => gk_go_callV (kd := 0) hc (Or.inl ⟨rfl, rs, hg⟩) b2 hd hcat hcon hlen hrm hdg hgo)
        · exact absurd hw id
      | false =>
        rw [hk0] at hw
        obtain ⟨h1, h2⟩ := gk_bif hw
        simp only [Bool.and_eq_true, Bool.or_eq_true] at h1
        have := Nat.eq_of_beq_eq_true h1.1
        subst this
        have hk : k = 1000001 ∨ k = 1000002 := h1.2.imp Nat.eq_of_beq_eq_true Nat.eq_of_beq_eq_true
        exact gk_cl_sound hK hi h2 (fun d' mc' ms' Γ1 Q' hd hcat hcon hlen hrm hgo => gk_go_callV (kd := 7) (ci := ci) hc (Or.inr ⟨rfl, hk⟩) b2 hd hcat hcon hlen hrm hdg hgo)
    · exact absurd hw id
  · simp only [gk_in] at hw
    cases hk0 : Nat.beq kd 4 with
    | true =>
      rw [hk0] at hw
      have := Nat.eq_of_beq_eq_true hk0
      subst this
      simp only [cond_true] at hw
      split at hw
      · obtain ⟨h1, h2⟩ := gk_bif hw
        have hcat := Nat.le_of_ble_eq_true h1
        split at h2
        · rename_i g0 g1
          obtain ⟨⟨a0, a1, a2, a3, a4, a5⟩, h3⟩ := h2
          exact gk_go_copyi hc a0 hcat g0 g1 a1 a2 a3 a4 a5 hdg (hK _ _ _ _ _ _ _ hi h3)
        · rename_i g0 g1
          obtain ⟨⟨a0, a1, a2, a3, a4, a5⟩, h3⟩ := h2
          exact gk_go_copyl hc a0 hcat g0 g1 a1 a2 a3 a4 a5 hdg (hK _ _ _ _ _ _ _ hi h3)
        · exact absurd h2 id
      · exact absurd hw id
    | false =>
     rw [hk0] at hw
     simp only [cond_false] at hw
     cases hk8 : Nat.beq kd 8 with
     | true =>
      rw [hk8] at hw
      have := Nat.eq_of_beq_eq_true hk8
      subst this
      simp only [cond_true] at hw
      split at hw
      · obtain ⟨h1, h2, h3⟩ := gk_bif hw
        exact gk_go_max hc h2 hi.2.1 hi.2.2 (Nat.le_of_ble_eq_true h1) hdg (hK _ _ _ _ _ _ _ hi h3)
      · exact absurd hw id
     | false =>
     rw [hk8] at hw
     simp only [cond_false] at hw
     cases hk9 : Nat.beq kd 9 with
     | true =>
      rw [hk9] at hw
      have := Nat.eq_of_beq_eq_true hk9
      subst this
      simp only [cond_true] at hw
      split at hw
      · obtain ⟨h1, h2, h3⟩ := gk_bif hw
        exact gk_go_min hc h2 hi.2.1 hi.2.2 (Nat.le_of_ble_eq_true h1) hdg (hK _ _ _ _ _ _ _ hi h3)
      · exact absurd hw id
     | false =>
     rw [hk9] at hw
     simp only [cond_false] at hw
     cases hk10 : Nat.beq kd 10 with
     | true =>
      rw [hk10] at hw
      have := Nat.eq_of_beq_eq_true hk10
      subst this
      simp only [cond_true] at hw
      split at hw
      · obtain ⟨h1, h2, h3⟩ := gk_bif hw
        exact gk_go_abs hc h2 hi.2.1 hi.2.2 (Nat.le_of_ble_eq_true h1) hdg (hK _ _ _ _ _ _ _ hi h3)
      · exact absurd hw id
     | false =>
      rw [hk10] at hw
      obtain ⟨h1, h2⟩ := gk_bif hw
      simp only [Bool.or_eq_true] at h1
      split at h2
      · rename_i av r htk
        obtain ⟨bv, b1, b2, b3⟩ := gk_tk_eq htk
        rw [List.append_nil] at b1
        subst b1
        subst b3
        rcases h1 with h9 | h9
        · have := Nat.eq_of_beq_eq_true h9
          subst this
          exact gk_cl_sound hK hi h2 (fun d' mc' ms' Γ1 Q' hd hcat hcon hlen hrm hgo => gk_go_callS (kd := 1) (ci := ci) hc (Or.inl rfl) b2 hd hcat hcon hlen hrm hdg hgo)
        · have := Nat.eq_of_beq_eq_true h9
          subst this
          exact gk_cl_sound hK hi h2 (fun d' mc' ms' Γ1 Q' hd hcat hcon hlen hrm hgo => gk_go_callS (kd := 5) (ci := ci) hc (Or.inr rfl) b2 hd hcat hcon hlen hrm hdg hgo)
      · exact absurd h2 id
  · simp only [gk_in] at hw
    cases hk0 : Nat.beq kd 3 with
    | true =>
      rw [hk0] at hw
      have := Nat.eq_of_beq_eq_true hk0
      subst this
      simp only [cond_true] at hw
      split at hw
      · obtain ⟨h1, h2, h3⟩ := gk_bif hw
        exact gk_go_obj hc h2 (Nat.le_of_ble_eq_true h1) hdg (hK _ _ _ _ _ _ _ hi h3)
      · exact absurd hw id
    | false =>
      rw [hk0] at hw
      obtain ⟨h1, h2⟩ := gk_bif hw
      simp only [Bool.or_eq_true] at h1
      split at h2
      · rename_i av k r htk
        obtain ⟨bv, b1, b2, b3⟩ := gk_tk_eq htk
        rw [List.append_nil] at b1
        subst b1
        subst b3
        rcases h1 with h9 | h9
        · have := Nat.eq_of_beq_eq_true h9
          subst this
          exact gk_cl_sound hK hi h2 (fun d' mc' ms' Γ1 Q' hd hcat hcon hlen hrm hgo => gk_go_callI (kd := 2) (ci := ci) hc (Or.inl rfl) b2 hd hcat hcon hlen hrm hdg hgo)
        · have := Nat.eq_of_beq_eq_true h9
          subst this
          exact gk_cl_sound hK hi h2 (fun d' mc' ms' Γ1 Q' hd hcat hcon hlen hrm hgo => gk_go_callI (kd := 6) (ci := ci) hc (Or.inr rfl) b2 hd hcat hcon hlen hrm hdg hgo)
      · exact absurd h2 id
theorem gk_end_sound (hi : gk_inv cf mc ms Γe Γ nc ns) {v : Option Value} (hw : gk_end cf mc ms Γe Q v Γ h nc ns) : Q v h ∧ Γ = Γe ∧ nc ≤ mc ∧ ns ≤ ms := by
  cases cf with
  | false => exact ⟨hw, hi.1 rfl, hi.2⟩
  | true => exact ⟨hw.2, hw.1⟩
set_option maxHeartbeats 1000000 in
theorem gk_rtn_sound (hi : gk_inv cf mc ms Γe Γ nc ns) {i : Instr} (hrt : (M j).2.2.2 = gk_rt O.1) (hw : gk_rtn cf mc ms Γe Q O i st Γ h nc ns) (hdg : decode (M j).2.1 pc = .ok (i, 1)) : gk_Go M E d j cf mc ms Γe Q pc L st Γ h nc ns := by
  unfold gk_rtn at hw
  split at hw
  · obtain ⟨h1, h2⟩ := gk_bif hw
    have h0 := Nat.eq_of_beq_eq_true h1
    rw [h0] at hrt
    obtain ⟨q1, q2, q3, q4⟩ := gk_end_sound hi h2
    exact gk_go_ret (v := none) q1 (by rw [hrt]; exact trivial) q2 q3 q4 rfl (by rw [hrt]; exact hdg)
  · obtain ⟨h1, h2⟩ := gk_bif hw
    have h0 := Nat.eq_of_beq_eq_true h1
    rw [h0] at hrt
    obtain ⟨q1, q2, q3, q4⟩ := gk_end_sound hi h2
    exact gk_go_ret (v := some (.long _)) q1 (by rw [hrt]; exact trivial) q2 q3 q4 rfl (by rw [hrt]; exact hdg)
  · rename_i x
    generalize O.1 = rk at hw hrt
    match rk, hw, hrt with
    | 1, hw, hrt =>
      obtain ⟨q1, q2, q3, q4⟩ := gk_end_sound hi hw
      exact gk_go_ret (v := some (.int x)) q1 (by rw [hrt]; exact trivial) q2 q3 q4 rfl (by rw [hrt]; exact hdg)
    | 3, hw, hrt =>
      obtain ⟨hx, hw⟩ := hw
      obtain ⟨q1, q2, q3, q4⟩ := gk_end_sound hi hw
      refine gk_go_ret (v := some (.int x)) q1 ?_ q2 q3 q4 rfl (by rw [hrt]; exact hdg)
      rw [hrt]
      show narrow .boolean (.int x) = .int x
      rcases hx with rfl | rfl <;> decide +kernel
    | 4, hw, hrt =>
      obtain ⟨hx, hw⟩ := hw
      obtain ⟨q1, q2, q3, q4⟩ := gk_end_sound hi hw
      exact gk_go_ret (v := some (.int x)) q1 (by rw [hrt]; exact hx) q2 q3 q4 rfl (by rw [hrt]; exact hdg)
    | 5, hw, hrt =>
      obtain ⟨hx, hw⟩ := hw
      obtain ⟨q1, q2, q3, q4⟩ := gk_end_sound hi hw
      exact gk_go_ret (v := some (.int x)) q1 (by rw [hrt]; exact hx) q2 q3 q4 rfl (by rw [hrt]; exact hdg)
  · exact absurd hw id
set_option maxHeartbeats 2000000 in
theorem gk_nw_sound (hK : gk_KG M E d j cf mc ms Γe Q K) (hP : ∀ e ∈ P.2.2.2.2, gk_nok (M j).1.cls e) {i : Instr} {len : Nat} (hw : gk_nw cf mc ms P K i nxt L st Γ h nc ns) (hn : nxt = pc + gk_ln i) (hdg : decode (M j).2.1 pc = .ok (i, gk_ln i)) : gk_Go M E d j cf mc ms Γe Q pc L st Γ h nc ns := by
  subst hn
  unfold gk_nw at hw
  split at hw
  · split at hw
    · rename_i ci hl
      obtain ⟨C, T, N, c1, c2⟩ := hP _ (gk_lk_mem hl)
      obtain ⟨d1, -⟩ := gk_defs c1
      obtain ⟨⟨a1, a2, a3⟩, hk⟩ := hw
      rw [d1] at a2 hk
      exact gk_go_new c1 c2 a1 a2 a3 hdg (hK _ _ _ _ _ _ _ ⟨fun h9 => (by cases h9), a1, a2⟩ hk)
    · exact absurd hw id
  · obtain ⟨⟨a0, a1, a2, a3, a4⟩, hk⟩ := hw
    exact gk_go_newa (t := 1) (Or.inl rfl) gk_arrs.1 a0 a1 a2 a3 a4 hdg (hK _ _ _ _ _ _ _ ⟨fun h9 => (by cases h9), a2, a3⟩ hk)
  · obtain ⟨⟨a0, a1, a2, a3, a4⟩, hk⟩ := hw
    exact gk_go_newa (t := 2) (Or.inr (Or.inl rfl)) gk_arrs.2.1 a0 a1 a2 a3 a4 hdg (hK _ _ _ _ _ _ _ ⟨fun h9 => (by cases h9), a2, a3⟩ hk)
  · obtain ⟨⟨a0, a1, a2, a3, a4⟩, hk⟩ := hw
    exact gk_go_newa (t := 3) (Or.inr (Or.inr rfl)) gk_arrs.2.2 a0 a1 a2 a3 a4 hdg (hK _ _ _ _ _ _ _ ⟨fun h9 => (by cases h9), a2, a3⟩ hk)
  · split at hw
    · rename_i hl
      obtain ⟨C, T, N, c1, c2⟩ := hP _ (gk_lk_mem hl)
      cases c1
      obtain ⟨⟨a0, a1, a2, a3, a4⟩, hk⟩ := hw
      exact gk_go_newq (c2 _ (by simp [RX9])) a0 a1 a2 a3 a4 hdg (hK _ _ _ _ _ _ _ ⟨fun h9 => (by cases h9), a2, a3⟩ hk)
    · exact absurd hw id
  · exact absurd hw id
end GKS2
end
section
section GKS3
variable {M : Nat → gk_J} {E : gk_E} {d j : Nat} {cf : Bool} {mc ms : Nat} {Γe : gk_G} {Q : Option Value → gk_H → Prop} {P : gk_P} {O : gk_O} {K : Nat → gk_L → List Value → gk_G → gk_H → Nat → Nat → Prop}
variable {pc nxt tgt : Nat} {L : gk_L} {st : List Value} {Γ : gk_G} {h : gk_H} {nc ns : Nat}
set_option maxHeartbeats 2000000 in
theorem gk_br_sound (hK : gk_KG M E d j cf mc ms Γe Q K) (hi : gk_inv cf mc ms Γe Γ nc ns) {i : Instr} (hw : gk_br K i nxt tgt L st Γ h nc ns) (hn : nxt = pc + 3) (hdg : decode (M j).2.1 pc = .ok (i, 3)) (ht : gk_tgok pc i tgt = true) : gk_Go M E d j cf mc ms Γe Q pc L st Γ h nc ns := by
  subst hn
  unfold gk_br at hw
  split at hw
  · exact gk_go_goto hdg (of_decide_eq_true ht) (hK _ _ _ _ _ _ _ hi hw)
  · intro p l e R s m args below meth c base ro cs D QF H locs ls X hret hrel hS hL hac
    exact lv_if_eq X.1 X.2.1 hdg (of_decide_eq_true ht) (fun c9 => hK _ _ _ _ _ _ _ hi (hw.1 c9) p l e R s m args below meth c base ro cs D QF H locs ls X hret hrel hS hL hac) (fun c9 => hK _ _ _ _ _ _ _ hi (hw.2 c9) p l e R s m args below meth c base ro cs D QF H locs ls X hret hrel hS hL hac)
  · intro p l e R s m args below meth c base ro cs D QF H locs ls X hret hrel hS hL hac
    exact lv_if_ne X.1 X.2.1 hdg (of_decide_eq_true ht) (fun c9 => hK _ _ _ _ _ _ _ hi (hw.1 c9) p l e R s m args below meth c base ro cs D QF H locs ls X hret hrel hS hL hac) (fun c9 => hK _ _ _ _ _ _ _ hi (hw.2 c9) p l e R s m args below meth c base ro cs D QF H locs ls X hret hrel hS hL hac)
  · intro p l e R s m args below meth c base ro cs D QF H locs ls X hret hrel hS hL hac
    exact lv_if_lt X.1 X.2.1 hdg (of_decide_eq_true ht) (fun c9 => hK _ _ _ _ _ _ _ hi (hw.1 c9) p l e R s m args below meth c base ro cs D QF H locs ls X hret hrel hS hL hac) (fun c9 => hK _ _ _ _ _ _ _ hi (hw.2 c9) p l e R s m args below meth c base ro cs D QF H locs ls X hret hrel hS hL hac)
  · intro p l e R s m args below meth c base ro cs D QF H locs ls X hret hrel hS hL hac
    exact lv_if_ge X.1 X.2.1 hdg (of_decide_eq_true ht) (fun c9 => hK _ _ _ _ _ _ _ hi (hw.1 c9) p l e R s m args below meth c base ro cs D QF H locs ls X hret hrel hS hL hac) (fun c9 => hK _ _ _ _ _ _ _ hi (hw.2 c9) p l e R s m args below meth c base ro cs D QF H locs ls X hret hrel hS hL hac)
  · intro p l e R s m args below meth c base ro cs D QF H locs ls X hret hrel hS hL hac
    exact lv_if_gt X.1 X.2.1 hdg (of_decide_eq_true ht) (fun c9 => hK _ _ _ _ _ _ _ hi (hw.1 c9) p l e R s m args below meth c base ro cs D QF H locs ls X hret hrel hS hL hac) (fun c9 => hK _ _ _ _ _ _ _ hi (hw.2 c9) p l e R s m args below meth c base ro cs D QF H locs ls X hret hrel hS hL hac)
  · intro p l e R s m args below meth c base ro cs D QF H locs ls X hret hrel hS hL hac
    exact lv_if_le X.1 X.2.1 hdg (of_decide_eq_true ht) (fun c9 => hK _ _ _ _ _ _ _ hi (hw.1 c9) p l e R s m args below meth c base ro cs D QF H locs ls X hret hrel hS hL hac) (fun c9 => hK _ _ _ _ _ _ _ hi (hw.2 c9) p l e R s m args below meth c base ro cs D QF H locs ls X hret hrel hS hL hac)
  · intro p l e R s m args below meth c base ro cs D QF H locs ls X hret hrel hS hL hac
    exact lv_icmp_eq X.1 X.2.1 hdg (of_decide_eq_true ht) (fun c9 => hK _ _ _ _ _ _ _ hi (hw.1 c9) p l e R s m args below meth c base ro cs D QF H locs ls X hret hrel hS hL hac) (fun c9 => hK _ _ _ _ _ _ _ hi (hw.2 c9) p l e R s m args below meth c base ro cs D QF H locs ls X hret hrel hS hL hac)
  · intro p l e R s m args below meth c base ro cs D QF H locs ls X hret hrel hS hL hac
    exact lv_icmp_ne X.1 X.2.1 hdg (of_decide_eq_true ht) (fun c9 => hK _ _ _ _ _ _ _ hi (hw.1 c9) p l e R s m args below meth c base ro cs D QF H locs ls X hret hrel hS hL hac) (fun c9 => hK _ _ _ _ _ _ _ hi (hw.2 c9) p l e R s m args below meth c base ro cs D QF H locs ls X hret hrel hS hL hac)
  · intro p l e R s m args below meth c base ro cs D QF H locs ls X hret hrel hS hL hac
    exact lv_icmp_lt X.1 X.2.1 hdg (of_decide_eq_true ht) (fun c9 => hK _ _ _ _ _ _ _ hi (hw.1 c9) p l e R s m args below meth c base ro cs D QF H locs ls X hret hrel hS hL hac) (fun c9 => hK _ _ _ _ _ _ _ hi (hw.2 c9) p l e R s m args below meth c base ro cs D QF H locs ls X hret hrel hS hL hac)
  · intro p l e R s m args below meth c base ro cs D QF H locs ls X hret hrel hS hL hac
    exact lv_icmp_ge X.1 X.2.1 hdg (of_decide_eq_true ht) (fun c9 => hK _ _ _ _ _ _ _ hi (hw.1 c9) p l e R s m args below meth c base ro cs D QF H locs ls X hret hrel hS hL hac) (fun c9 => hK _ _ _ _ _ _ _ hi (hw.2 c9) p l e R s m args below meth c base ro cs D QF H locs ls X hret hrel hS hL hac)
  · intro p l e R s m args below meth c base ro cs D QF H locs ls X hret hrel hS hL hac
    exact lv_icmp_gt X.1 X.2.1 hdg (of_decide_eq_true ht) (fun c9 => hK _ _ _ _ _ _ _ hi (hw.1 c9) p l e R s m args below meth c base ro cs D QF H locs ls X hret hrel hS hL hac) (fun c9 => hK _ _ _ _ _ _ _ hi (hw.2 c9) p l e R s m args below meth c base ro cs D QF H locs ls X hret hrel hS hL hac)
  · intro p l e R s m args below meth c base ro cs D QF H locs ls X hret hrel hS hL hac
    exact lv_icmp_le X.1 X.2.1 hdg (of_decide_eq_true ht) (fun c9 => hK _ _ _ _ _ _ _ hi (hw.1 c9) p l e R s m args below meth c base ro cs D QF H locs ls X hret hrel hS hL hac) (fun c9 => hK _ _ _ _ _ _ _ hi (hw.2 c9) p l e R s m args below meth c base ro cs D QF H locs ls X hret hrel hS hL hac)
  · exact gk_go_ifnull (v := none) hdg (of_decide_eq_true ht) (hK _ _ _ _ _ _ _ hi hw)
  · exact gk_go_ifnull (v := some _) hdg (of_decide_eq_true ht) (hK _ _ _ _ _ _ _ hi hw)
  · exact gk_go_ifnonnull (v := none) hdg (of_decide_eq_true ht) (hK _ _ _ _ _ _ _ hi hw)
  · exact gk_go_ifnonnull (v := some _) hdg (of_decide_eq_true ht) (hK _ _ _ _ _ _ _ hi hw)
  · exact absurd hw id
theorem gk_eok_plain {bytes : ByteArray} {i : Instr} (h : (decide (decode bytes pc = .ok (i, gk_ln i)) && (Nat.beq nxt (pc + gk_ln i) && gk_tgok pc i tgt)) = true) : decode bytes pc = .ok (i, gk_ln i) ∧ nxt = pc + gk_ln i ∧ gk_tgok pc i tgt = true := by
  simp only [Bool.and_eq_true, decide_eq_true_eq] at h
  exact ⟨h.1, Nat.eq_of_beq_eq_true h.2.1, h.2.2⟩
theorem gk_sw_imp {x : Int32} {td : Nat} {A B : Nat → Prop} (hAB : ∀ t, A t → B t) : ∀ {sw : List (Int32 × Nat)}, gk_sw x td A sw → gk_sw x td B sw := by
  intro sw
  induction sw with
  | nil => intro h; exact hAB _ h
  | cons q r ih => intro h; exact ⟨fun e => hAB _ (h.1 e), fun e => ih (h.2 e)⟩
set_option maxHeartbeats 4000000 in
/-- ONE INSTRUCTION -/
theorem gk_one_sound {nm : Bool} {tb : gk_T} (ok : gk_ok M j tb P O) (hK : gk_KG M E d j cf mc ms Γe Q K) (hi : gk_inv cf mc ms Γe Γ nc ns) {i : Instr} (hin : (pc, i, nxt, tgt) ∈ tb) (hw : gk_one nm M E d cf mc ms Γe Q P O K pc i nxt tgt L st Γ h nc ns) : gk_Go M E d j cf mc ms Γe Q pc L st Γ h nc ns := by
  obtain ⟨o1, ⟨p1, p2, p3, p4, p5⟩, o3, o4⟩ := ok
  have he := o1 _ hin
  have hx := o3 _ hin
  have plain : (∀ a b c e, i ≠ .tableswitch a b c e) → (∀ a b, i ≠ .lookupswitch a b) → decode (M j).2.1 pc = .ok (i, gk_ln i) ∧ nxt = pc + gk_ln i ∧ gk_tgok pc i tgt = true := by
    intro n1 n2
    unfold gk_eok at he
    split at he
    · rename_i hq; exact absurd hq (n1 _ _ _ _)
    · rename_i hq; exact absurd hq (n2 _ _)
    · exact gk_eok_plain he
  have alu : gk_one nm M E d cf mc ms Γe Q P O K pc i nxt tgt L st Γ h nc ns = (match gk_alu i st with | some st' => K nxt L st' Γ h nc ns | none => False) → gk_Go M E d j cf mc ms Γe Q pc L st Γ h nc ns := by
    intro e
    rw [e] at hw
    split at hw
    · rename_i st' ha
      obtain ⟨h1, h2, -⟩ := plain (fun a b c e q => by rw [q] at ha; simp [gk_alu] at ha) (fun a b q => by rw [q] at ha; simp [gk_alu] at ha)
      rw [h2] at hw
      exact gk_go_alu h1 ha (hK _ _ _ _ _ _ _ hi hw)
    · exact absurd hw id
  cases i <;> first | (exact alu rfl; done) | skip
  case iload n => obtain ⟨h1, h2, -⟩ := plain (by intros; simp) (by intros; simp); exact gk_ld_sound hK hi hw h2 h1 (Or.inl ⟨rfl, Or.inl ⟨rfl, rfl⟩⟩)
  case iload_n n => obtain ⟨h1, h2, -⟩ := plain (by intros; simp) (by intros; simp); exact gk_ld_sound hK hi hw h2 h1 (Or.inl ⟨rfl, Or.inr ⟨n, rfl, rfl, rfl⟩⟩)
  case lload n => obtain ⟨h1, h2, -⟩ := plain (by intros; simp) (by intros; simp); exact gk_ld_sound hK hi hw h2 h1 (Or.inr (Or.inl ⟨rfl, Or.inl ⟨rfl, rfl⟩⟩))
  case lload_n n => obtain ⟨h1, h2, -⟩ := plain (by intros; simp) (by intros; simp); exact gk_ld_sound hK hi hw h2 h1 (Or.inr (Or.inl ⟨rfl, Or.inr ⟨n, rfl, rfl, rfl⟩⟩))
  case aload n =>
    obtain ⟨h1, h2, -⟩ := plain (by intros; simp) (by intros; simp)
    simp only [gk_one] at hw
    split at hw
    · exact gk_ld_sound hK hi hw h2 h1 (Or.inr (Or.inr (Or.inr ⟨rfl, rfl, rfl⟩)))
    · exact gk_ld_sound hK hi hw h2 h1 (Or.inr (Or.inr (Or.inl ⟨rfl, Or.inl ⟨rfl, rfl⟩⟩)))
  case aload_n n => obtain ⟨h1, h2, -⟩ := plain (by intros; simp) (by intros; simp); exact gk_ld_sound hK hi hw h2 h1 (Or.inr (Or.inr (Or.inl ⟨rfl, Or.inr ⟨n, rfl, rfl, rfl⟩⟩)))
  case istore n => obtain ⟨h1, h2, -⟩ := plain (by intros; simp) (by intros; simp); exact gk_sto_sound hK hi hw h2 h1 (Or.inl ⟨rfl, Or.inl ⟨rfl, rfl⟩⟩)
  case istore_n n => obtain ⟨h1, h2, -⟩ := plain (by intros; simp) (by intros; simp); exact gk_sto_sound hK hi hw h2 h1 (Or.inl ⟨rfl, Or.inr ⟨n, rfl, rfl, rfl⟩⟩)
  case lstore n => obtain ⟨h1, h2, -⟩ := plain (by intros; simp) (by intros; simp); exact gk_sto_sound hK hi hw h2 h1 (Or.inr (Or.inl ⟨rfl, Or.inl ⟨rfl, rfl⟩⟩))
  case lstore_n n => obtain ⟨h1, h2, -⟩ := plain (by intros; simp) (by intros; simp); exact gk_sto_sound hK hi hw h2 h1 (Or.inr (Or.inl ⟨rfl, Or.inr ⟨n, rfl, rfl, rfl⟩⟩))
  case astore n => obtain ⟨h1, h2, -⟩ := plain (by intros; simp) (by intros; simp); exact gk_sto_sound hK hi hw h2 h1 (Or.inr (Or.inr ⟨rfl, Or.inl ⟨rfl, rfl⟩⟩))
  case astore_n n => obtain ⟨h1, h2, -⟩ := plain (by intros; simp) (by intros; simp); exact gk_sto_sound hK hi hw h2 h1 (Or.inr (Or.inr ⟨rfl, Or.inr ⟨n, rfl, rfl, rfl⟩⟩))
  case iinc n z =>
    obtain ⟨h1, h2, -⟩ := plain (by intros; simp) (by intros; simp)
    simp only [gk_one] at hw
    split at hw
    · rename_i hl; have hw := gk_nm_use hw; rw [h2] at hw; exact gk_go_iinc hl h1 (hK _ _ _ _ _ _ _ hi hw)
    · exact absurd hw id
  case idiv =>
    obtain ⟨h1, h2, -⟩ := plain (by intros; simp) (by intros; simp)
    simp only [gk_one] at hw
    split at hw
    · rw [h2] at hw
      intro p l e R s m args below meth c base ro cs D QF H locs ls X hret hrel hS hL hac
      exact lv_idiv X.1 X.2.1 h1 hw.1 (hK _ _ _ _ _ _ _ hi hw.2 p l e R s m args below meth c base ro cs D QF H locs ls X hret hrel hS hL hac)
    · exact absurd hw id
  case irem =>
    obtain ⟨h1, h2, -⟩ := plain (by intros; simp) (by intros; simp)
    simp only [gk_one] at hw
    split at hw
    · rw [h2] at hw
      intro p l e R s m args below meth c base ro cs D QF H locs ls X hret hrel hS hL hac
      exact lv_irem X.1 X.2.1 h1 hw.1 (hK _ _ _ _ _ _ _ hi hw.2 p l e R s m args below meth c base ro cs D QF H locs ls X hret hrel hS hL hac)
    · exact absurd hw id
  case iaload => obtain ⟨h1, h2, -⟩ := plain (by intros; simp) (by intros; simp); exact gk_rd_sound (kd := 1) hK hi hw h2 h1
  case caload => obtain ⟨h1, h2, -⟩ := plain (by intros; simp) (by intros; simp); exact gk_rd_sound (kd := 2) hK hi hw h2 h1
  case laload => obtain ⟨h1, h2, -⟩ := plain (by intros; simp) (by intros; simp); exact gk_rd_sound (kd := 3) hK hi hw h2 h1
  case aaload => obtain ⟨h1, h2, -⟩ := plain (by intros; simp) (by intros; simp); exact gk_rd_sound (kd := 4) hK hi hw h2 h1
  case baload => obtain ⟨h1, h2, -⟩ := plain (by intros; simp) (by intros; simp); exact gk_rd_sound (kd := 5) hK hi hw h2 h1
  case iastore => obtain ⟨h1, h2, -⟩ := plain (by intros; simp) (by intros; simp); exact gk_wr_sound (kd := 1) hK hi hw h2 h1
  case castore => obtain ⟨h1, h2, -⟩ := plain (by intros; simp) (by intros; simp); exact gk_wr_sound (kd := 2) hK hi hw h2 h1
  case lastore => obtain ⟨h1, h2, -⟩ := plain (by intros; simp) (by intros; simp); exact gk_wr_sound (kd := 3) hK hi hw h2 h1
  case aastore => obtain ⟨h1, h2, -⟩ := plain (by intros; simp) (by intros; simp); exact gk_wr_sound (kd := 4) hK hi hw h2 h1
  case arraylength => obtain ⟨h1, h2, -⟩ := plain (by intros; simp) (by intros; simp); exact gk_len1_sound hK hi hw h2 h1
  case getfield idx =>
    obtain ⟨h1, h2, -⟩ := plain (by intros; simp) (by intros; simp)
    simp only [gk_one] at hw
    split at hw
    · rename_i e hl; exact gk_gf_sound hK hi (p1 _ (gk_lk_mem hl)) hw h2 h1
    · exact absurd hw id
  case putfield idx =>
    obtain ⟨h1, h2, -⟩ := plain (by intros; simp) (by intros; simp)
    simp only [gk_one] at hw
    split at hw
    · rename_i e hl; exact gk_pf_sound hK hi (p1 _ (gk_lk_mem hl)) hw h2 h1
    · exact absurd hw id
  case getstatic idx =>
    obtain ⟨h1, h2, -⟩ := plain (by intros; simp) (by intros; simp)
    simp only [gk_one] at hw
    rw [h2] at hw
    cases tgt with
    | zero => exact gk_go_static hx h1 (hK _ _ _ _ _ _ _ hi hw)
    | succ t => exact gk_go_static2 hx h1 (hK _ _ _ _ _ _ _ hi hw)
  case ldc idx =>
    obtain ⟨h1, h2, -⟩ := plain (by intros; simp) (by intros; simp)
    simp only [gk_one] at hw
    split at hw
    · rename_i x hl; rw [h2] at hw; exact gk_go_ldc (p3 _ (gk_lk_mem hl)) h1 (hK _ _ _ _ _ _ _ hi hw)
    · rename_i hl
      have hown := hx hl
      rw [h2] at hw
      cases hb : Nat.beq idx 57 with
      | true =>
        rw [hb] at hw
        have := Nat.eq_of_beq_eq_true hb
        exact gk_go_ldcs (i := 0) (Or.inl ⟨this, rfl⟩) hown h1 (hK _ _ _ _ _ _ _ hi hw)
      | false =>
        rw [hb] at hw
        obtain ⟨h3, h4⟩ := gk_bif hw
        have := Nat.eq_of_beq_eq_true h3
        exact gk_go_ldcs (i := 1) (Or.inr ⟨this, rfl⟩) hown h1 (hK _ _ _ _ _ _ _ hi h4)
  case ldc_w idx =>
    obtain ⟨h1, h2, -⟩ := plain (by intros; simp) (by intros; simp)
    simp only [gk_one] at hw
    split at hw
    · rename_i x hl; rw [h2] at hw; exact gk_go_ldcw (p3 _ (gk_lk_mem hl)) h1 (hK _ _ _ _ _ _ _ hi hw)
    · exact absurd hw id
  case ldc2_w idx =>
    obtain ⟨h1, h2, -⟩ := plain (by intros; simp) (by intros; simp)
    simp only [gk_one] at hw
    split at hw
    · rename_i x hl; rw [h2] at hw; exact gk_go_ldc2 (p4 _ (gk_lk_mem hl)) h1 (hK _ _ _ _ _ _ _ hi hw)
    · exact absurd hw id
  case tableswitch a b c e =>
    have h1 := of_decide_eq_true he
    simp only [gk_one] at hw
    split at hw
    · rename_i x r q hl
      exact gk_go_table h1 (hx _ hl) (gk_sw_imp (fun t ht => hK _ _ _ _ _ _ _ hi ht) hw)
    · exact absurd hw id
  case lookupswitch a b =>
    have h1 := of_decide_eq_true he
    simp only [gk_one] at hw
    split at hw
    · rename_i x r q hl
      exact gk_go_lookup h1 (hx _ hl) (gk_sw_imp (fun t ht => hK _ _ _ _ _ _ _ hi ht) hw)
    · exact absurd hw id
  case goto o => obtain ⟨h1, h2, h3⟩ := plain (by intros; simp) (by intros; simp); exact gk_br_sound (i := .goto o) (nxt := nxt) (tgt := tgt) hK hi hw h2 h1 h3
  case ifCond c o => obtain ⟨h1, h2, h3⟩ := plain (by intros; simp) (by intros; simp); exact gk_br_sound hK hi hw h2 h1 h3
  case if_icmp c o => obtain ⟨h1, h2, h3⟩ := plain (by intros; simp) (by intros; simp); exact gk_br_sound hK hi hw h2 h1 h3
  case ifnull o => obtain ⟨h1, h2, h3⟩ := plain (by intros; simp) (by intros; simp); exact gk_br_sound hK hi hw h2 h1 h3
  case ifnonnull o => obtain ⟨h1, h2, h3⟩ := plain (by intros; simp) (by intros; simp); exact gk_br_sound hK hi hw h2 h1 h3
  case invokevirtual idx =>
    obtain ⟨h1, h2, -⟩ := plain (by intros; simp) (by intros; simp)
    simp only [gk_one] at hw
    split at hw
    · rename_i e hl; exact gk_in_sound hK hi (p2 _ (gk_lk_mem hl)) hw h2 h1 (Or.inl rfl)
    · exact absurd hw id
  case invokestatic idx =>
    obtain ⟨h1, h2, -⟩ := plain (by intros; simp) (by intros; simp)
    simp only [gk_one] at hw
    split at hw
    · rename_i e hl; exact gk_in_sound hK hi (p2 _ (gk_lk_mem hl)) hw h2 h1 (Or.inr (Or.inl rfl))
    · exact absurd hw id
  case invokespecial idx =>
    obtain ⟨h1, h2, -⟩ := plain (by intros; simp) (by intros; simp)
    simp only [gk_one] at hw
    split at hw
    · rename_i e hl; exact gk_in_sound hK hi (p2 _ (gk_lk_mem hl)) hw h2 h1 (Or.inr (Or.inr rfl))
    · exact absurd hw id
  case return_ => obtain ⟨h1, h2, -⟩ := plain (by intros; simp) (by intros; simp); exact gk_rtn_sound hi o4 hw h1
  case lreturn => obtain ⟨h1, h2, -⟩ := plain (by intros; simp) (by intros; simp); exact gk_rtn_sound hi o4 hw h1
  case ireturn => obtain ⟨h1, h2, -⟩ := plain (by intros; simp) (by intros; simp); exact gk_rtn_sound hi o4 hw h1
  case new idx => obtain ⟨h1, h2, -⟩ := plain (by intros; simp) (by intros; simp); exact gk_nw_sound (len := 0) hK p5 hw h2 h1
  case newarray t => obtain ⟨h1, h2, -⟩ := plain (by intros; simp) (by intros; simp); exact gk_nw_sound (len := 0) hK p5 hw h2 h1
  case anewarray idx => obtain ⟨h1, h2, -⟩ := plain (by intros; simp) (by intros; simp); exact gk_nw_sound (len := 0) hK p5 hw h2 h1
end GKS3
/-- the locals that are still read -/
def gk_mask : List Bool → gk_L → gk_L
  | b :: bs, v :: L => (bif b then v else none) :: gk_mask bs L
  | [], v :: L => none :: gk_mask [] L
  | _, [] => []
theorem gk_mask_len : ∀ (L : gk_L) (bs : List Bool), (gk_mask bs L).length = L.length := by
  intro L
  induction L with
  | nil => intro bs; cases bs <;> rfl
  | cons v L ih => intro bs; cases bs <;> simp [gk_mask, ih]
theorem gk_mask_get : ∀ (L : gk_L) (bs : List Bool) (i : Nat) (v : Value), (gk_mask bs L)[i]? = some (some v) → L[i]? = some (some v) := by
  intro L
  induction L with
  | nil => intro bs i v h; cases bs <;> cases h
  | cons w L ih =>
    intro bs i v h
    cases bs with
    | nil =>
      cases i with
      | zero => cases h
      | succ i => exact ih [] i v h
    | cons b bs =>
      cases i with
      | zero => cases b with
        | true => exact h
        | false => cases h
      | succ i => exact ih bs i v h
def gk_isw (i : Instr) (tgt : Nat) : Bool := match i with
  | .putfield _ | .iastore | .castore | .lastore => true
  | .invokestatic _ => Nat.beq tgt 1
  | _ => false
/-- THE WALK: n instructions at most; at a head it stops and asks the judgement itself, with the locals that are still read -/
def gk_wp (nm nh : Bool) (M : Nat → gk_J) (E : gk_E) (d j : Nat) (cf : Bool) (mc ms : Nat) (Γe : gk_G) (Q : Option Value → gk_H → Prop) (tb : gk_T) (P : gk_P) (O : gk_O) (hd : List (Nat × List Bool)) : Nat → Nat → gk_L → List Value → gk_G → gk_H → Nat → Nat → Prop
  | 0, pc, L, st, Γ, h, nc, ns => gk_Go M E d j cf mc ms Γe Q pc L st Γ h nc ns
  | n + 1, pc, L, st, Γ, h, nc, ns => match gk_lk tb pc with
    | none => False
    | some (i, nxt, tgt) => gk_one nm M E d cf mc ms Γe Q P O (fun pc' L' st' Γ' h0 nc' ns' => gk_nm (nh && gk_isw i tgt) h0 (fun h' => match gk_lk hd pc' with
      | some bs => gk_Go M E d j cf mc ms Γe Q pc' (gk_mask bs L') st' Γ' h' nc' ns'
      | none => gk_wp nm nh M E d j cf mc ms Γe Q tb P O hd n pc' L' st' Γ' h' nc' ns')) pc i nxt tgt L st Γ h nc ns
theorem gk_wp_sound {nm nh : Bool} {M : Nat → gk_J} {E : gk_E} {d j : Nat} {cf : Bool} {mc ms : Nat} {Γe : gk_G} {Q : Option Value → gk_H → Prop} {tb : gk_T} {P : gk_P} {O : gk_O} {hd : List (Nat × List Bool)} (ok : gk_ok M j tb P O) : ∀ (n pc : Nat) (L : gk_L) (st : List Value) (Γ : gk_G) (h : gk_H) (nc ns : Nat), gk_inv cf mc ms Γe Γ nc ns → gk_wp nm nh M E d j cf mc ms Γe Q tb P O hd n pc L st Γ h nc ns → gk_Go M E d j cf mc ms Γe Q pc L st Γ h nc ns := by
  intro n
  induction n with
  | zero => intro pc L st Γ h nc ns _ hw; exact hw
  | succ n ih =>
    intro pc L st Γ h nc ns hi hw
    rw [gk_wp] at hw
    split at hw
    · exact absurd hw id
    · rename_i i nxt tgt hl
      refine gk_one_sound ok ?_ hi (gk_lk_mem hl) hw
      intro pc' L' st' Γ' h' nc' ns' hi' hk
      have hk := gk_nm_use hk
      split at hk
      · exact gk_go_mono (gk_mask_len _ _) (gk_mask_get _ _) hk
      · exact ih _ _ _ _ _ _ _ hi' hk
end
