section
-- ===== PART A: goes FIRST, ahead of the names: the tables' words, and 'selects' of the private methods out of them =====
/-- a private method of a class that the tables say can be made, by its rows of tables_1 -/
def lw_okq (q : MethodName × Nat) : Prop := (q.1.cls ≠ "java/lang/invoke/MethodHandle" ∧ q.1.cls ≠ "java/lang/invoke/VarHandle") ∧ Cond.instantiable q.1.cls q.2 ∈ tables_1 ∧ Cond.privateMethod q.1 ∈ tables_1 ∧ Cond.instanceMethod q.1 ∈ tables_1
theorem lw_p0 : lw_okq (⟨"DryPlaces$Teller", "face", "(LDryPlaces$World;II)V"⟩, 3) := ⟨⟨by decide +kernel, by decide +kernel⟩, List.mem_of_getElem? (i := 260) (by decide +kernel), List.mem_of_getElem? (i := 418) (by decide +kernel), List.mem_of_getElem? (i := 419) (by decide +kernel)⟩
theorem lw_p1 : lw_okq (⟨"DryPlaces$Teller", "ask", "(II)I"⟩, 3) := ⟨⟨by decide +kernel, by decide +kernel⟩, List.mem_of_getElem? (i := 260) (by decide +kernel), List.mem_of_getElem? (i := 451) (by decide +kernel), List.mem_of_getElem? (i := 452) (by decide +kernel)⟩
theorem lw_p2 : lw_okq (⟨"DryPlaces$Teller", "run", "(II)I"⟩, 3) := ⟨⟨by decide +kernel, by decide +kernel⟩, List.mem_of_getElem? (i := 260) (by decide +kernel), List.mem_of_getElem? (i := 455) (by decide +kernel), List.mem_of_getElem? (i := 456) (by decide +kernel)⟩
theorem lw_p3 : lw_okq (⟨"DryPlaces$Keeper", "purchase", "(II)V"⟩, 5) := ⟨⟨by decide +kernel, by decide +kernel⟩, List.mem_of_getElem? (i := 276) (by decide +kernel), List.mem_of_getElem? (i := 495) (by decide +kernel), List.mem_of_getElem? (i := 496) (by decide +kernel)⟩
theorem lw_p4 : lw_okq (⟨"DryPlaces$Keeper", "note", "(III)V"⟩, 5) := ⟨⟨by decide +kernel, by decide +kernel⟩, List.mem_of_getElem? (i := 276) (by decide +kernel), List.mem_of_getElem? (i := 499) (by decide +kernel), List.mem_of_getElem? (i := 500) (by decide +kernel)⟩
theorem lw_p5 : lw_okq (⟨"DryPlaces$Keeper", "partWith", "(II)V"⟩, 5) := ⟨⟨by decide +kernel, by decide +kernel⟩, List.mem_of_getElem? (i := 276) (by decide +kernel), List.mem_of_getElem? (i := 503) (by decide +kernel), List.mem_of_getElem? (i := 504) (by decide +kernel)⟩
theorem lw_p6 : lw_okq (⟨"DryPlaces$Keeper", "keepDiary", "()V"⟩, 5) := ⟨⟨by decide +kernel, by decide +kernel⟩, List.mem_of_getElem? (i := 276) (by decide +kernel), List.mem_of_getElem? (i := 523) (by decide +kernel), List.mem_of_getElem? (i := 524) (by decide +kernel)⟩
theorem lw_p7 : lw_okq (⟨"DryPlaces$Keeper", "creepIn", "(I)I"⟩, 5) := ⟨⟨by decide +kernel, by decide +kernel⟩, List.mem_of_getElem? (i := 276) (by decide +kernel), List.mem_of_getElem? (i := 538) (by decide +kernel), List.mem_of_getElem? (i := 539) (by decide +kernel)⟩
theorem lw_p8 : lw_okq (⟨"DryPlaces$Keeper", "isHit", "(I)Z"⟩, 5) := ⟨⟨by decide +kernel, by decide +kernel⟩, List.mem_of_getElem? (i := 276) (by decide +kernel), List.mem_of_getElem? (i := 555) (by decide +kernel), List.mem_of_getElem? (i := 556) (by decide +kernel)⟩
theorem lw_p9 : lw_okq (⟨"DryPlaces$Keeper", "receive", "(I)V"⟩, 5) := ⟨⟨by decide +kernel, by decide +kernel⟩, List.mem_of_getElem? (i := 276) (by decide +kernel), List.mem_of_getElem? (i := 566) (by decide +kernel), List.mem_of_getElem? (i := 567) (by decide +kernel)⟩
theorem lw_p10 : lw_okq (⟨"DryPlaces$Tape", "skipBlanks", "()V"⟩, 6) := ⟨⟨by decide +kernel, by decide +kernel⟩, List.mem_of_getElem? (i := 197) (by decide +kernel), List.mem_of_getElem? (i := 611) (by decide +kernel), List.mem_of_getElem? (i := 612) (by decide +kernel)⟩
theorem lw_p11 : lw_okq (⟨"DryPlaces$Tape", "isLetter", "(I)Z"⟩, 6) := ⟨⟨by decide +kernel, by decide +kernel⟩, List.mem_of_getElem? (i := 197) (by decide +kernel), List.mem_of_getElem? (i := 615) (by decide +kernel), List.mem_of_getElem? (i := 616) (by decide +kernel)⟩
theorem lw_p12 : lw_okq (⟨"DryPlaces$Tape", "readWord", "(I)V"⟩, 6) := ⟨⟨by decide +kernel, by decide +kernel⟩, List.mem_of_getElem? (i := 197) (by decide +kernel), List.mem_of_getElem? (i := 619) (by decide +kernel), List.mem_of_getElem? (i := 620) (by decide +kernel)⟩
theorem lw_p13 : lw_okq (⟨"DryPlaces$Tape", "isWordAt", "(III)Z"⟩, 6) := ⟨⟨by decide +kernel, by decide +kernel⟩, List.mem_of_getElem? (i := 197) (by decide +kernel), List.mem_of_getElem? (i := 672) (by decide +kernel), List.mem_of_getElem? (i := 673) (by decide +kernel)⟩
theorem lw_p14 : lw_okq (⟨"DryPlaces$Tape", "isDigit", "(I)Z"⟩, 6) := ⟨⟨by decide +kernel, by decide +kernel⟩, List.mem_of_getElem? (i := 197) (by decide +kernel), List.mem_of_getElem? (i := 676) (by decide +kernel), List.mem_of_getElem? (i := 677) (by decide +kernel)⟩
theorem lw_p15 : lw_okq (⟨"DryPlaces$Tape", "readNumber", "(I)V"⟩, 6) := ⟨⟨by decide +kernel, by decide +kernel⟩, List.mem_of_getElem? (i := 197) (by decide +kernel), List.mem_of_getElem? (i := 680) (by decide +kernel), List.mem_of_getElem? (i := 681) (by decide +kernel)⟩
def lw_privs_1 : List (MethodName × Nat) := [(⟨"DryPlaces$Teller", "face", "(LDryPlaces$World;II)V"⟩, 3), (⟨"DryPlaces$Teller", "ask", "(II)I"⟩, 3), (⟨"DryPlaces$Teller", "run", "(II)I"⟩, 3), (⟨"DryPlaces$Keeper", "purchase", "(II)V"⟩, 5), (⟨"DryPlaces$Keeper", "note", "(III)V"⟩, 5), (⟨"DryPlaces$Keeper", "partWith", "(II)V"⟩, 5), (⟨"DryPlaces$Keeper", "keepDiary", "()V"⟩, 5), (⟨"DryPlaces$Keeper", "creepIn", "(I)I"⟩, 5), (⟨"DryPlaces$Keeper", "isHit", "(I)Z"⟩, 5), (⟨"DryPlaces$Keeper", "receive", "(I)V"⟩, 5), (⟨"DryPlaces$Tape", "skipBlanks", "()V"⟩, 6), (⟨"DryPlaces$Tape", "isLetter", "(I)Z"⟩, 6), (⟨"DryPlaces$Tape", "readWord", "(I)V"⟩, 6), (⟨"DryPlaces$Tape", "isWordAt", "(III)Z"⟩, 6), (⟨"DryPlaces$Tape", "isDigit", "(I)Z"⟩, 6), (⟨"DryPlaces$Tape", "readNumber", "(I)V"⟩, 6)]
theorem lw_r1 : ∀ q ∈ lw_privs_1, lw_okq q := List.forall_mem_cons.mpr ⟨lw_p0, List.forall_mem_cons.mpr ⟨lw_p1, List.forall_mem_cons.mpr ⟨lw_p2, List.forall_mem_cons.mpr ⟨lw_p3, List.forall_mem_cons.mpr ⟨lw_p4, List.forall_mem_cons.mpr ⟨lw_p5, List.forall_mem_cons.mpr ⟨lw_p6, List.forall_mem_cons.mpr ⟨lw_p7, List.forall_mem_cons.mpr ⟨lw_p8, List.forall_mem_cons.mpr ⟨lw_p9, List.forall_mem_cons.mpr ⟨lw_p10, List.forall_mem_cons.mpr ⟨lw_p11, List.forall_mem_cons.mpr ⟨lw_p12, List.forall_mem_cons.mpr ⟨lw_p13, List.forall_mem_cons.mpr ⟨lw_p14, List.forall_mem_cons.mpr ⟨lw_p15, fun _ h => absurd h List.not_mem_nil⟩⟩⟩⟩⟩⟩⟩⟩⟩⟩⟩⟩⟩⟩⟩⟩
theorem lw_p16 : lw_okq (⟨"DryPlaces$Parser", "canBegin", "(I)Z"⟩, 7) := ⟨⟨by decide +kernel, by decide +kernel⟩, List.mem_of_getElem? (i := 227) (by decide +kernel), List.mem_of_getElem? (i := 740) (by decide +kernel), List.mem_of_getElem? (i := 741) (by decide +kernel)⟩
theorem lw_p17 : lw_okq (⟨"DryPlaces$Parser", "refuse", "(I)Z"⟩, 7) := ⟨⟨by decide +kernel, by decide +kernel⟩, List.mem_of_getElem? (i := 227) (by decide +kernel), List.mem_of_getElem? (i := 744) (by decide +kernel), List.mem_of_getElem? (i := 745) (by decide +kernel)⟩
theorem lw_p18 : lw_okq (⟨"DryPlaces$Parser", "readLaw", "()Z"⟩, 7) := ⟨⟨by decide +kernel, by decide +kernel⟩, List.mem_of_getElem? (i := 227) (by decide +kernel), List.mem_of_getElem? (i := 749) (by decide +kernel), List.mem_of_getElem? (i := 750) (by decide +kernel)⟩
theorem lw_p19 : lw_okq (⟨"DryPlaces$Parser", "step", "()V"⟩, 7) := ⟨⟨by decide +kernel, by decide +kernel⟩, List.mem_of_getElem? (i := 227) (by decide +kernel), List.mem_of_getElem? (i := 757) (by decide +kernel), List.mem_of_getElem? (i := 758) (by decide +kernel)⟩
theorem lw_p20 : lw_okq (⟨"DryPlaces$Parser", "readSum", "()Z"⟩, 7) := ⟨⟨by decide +kernel, by decide +kernel⟩, List.mem_of_getElem? (i := 227) (by decide +kernel), List.mem_of_getElem? (i := 761) (by decide +kernel), List.mem_of_getElem? (i := 762) (by decide +kernel)⟩
theorem lw_p21 : lw_okq (⟨"DryPlaces$Parser", "readUnit", "()Z"⟩, 7) := ⟨⟨by decide +kernel, by decide +kernel⟩, List.mem_of_getElem? (i := 227) (by decide +kernel), List.mem_of_getElem? (i := 765) (by decide +kernel), List.mem_of_getElem? (i := 766) (by decide +kernel)⟩
theorem lw_p22 : lw_okq (⟨"DryPlaces$Parser", "isReckoning", "()Z"⟩, 7) := ⟨⟨by decide +kernel, by decide +kernel⟩, List.mem_of_getElem? (i := 227) (by decide +kernel), List.mem_of_getElem? (i := 773) (by decide +kernel), List.mem_of_getElem? (i := 774) (by decide +kernel)⟩
theorem lw_p23 : lw_okq (⟨"DryPlaces$Parser", "takeNumber", "(III)I"⟩, 7) := ⟨⟨by decide +kernel, by decide +kernel⟩, List.mem_of_getElem? (i := 227) (by decide +kernel), List.mem_of_getElem? (i := 777) (by decide +kernel), List.mem_of_getElem? (i := 778) (by decide +kernel)⟩
theorem lw_p24 : lw_okq (⟨"DryPlaces$Parser", "addWaiting", "(I)V"⟩, 7) := ⟨⟨by decide +kernel, by decide +kernel⟩, List.mem_of_getElem? (i := 227) (by decide +kernel), List.mem_of_getElem? (i := 782) (by decide +kernel), List.mem_of_getElem? (i := 783) (by decide +kernel)⟩
theorem lw_p25 : lw_okq (⟨"DryPlaces$Parser", "readCondition", "(I)Z"⟩, 7) := ⟨⟨by decide +kernel, by decide +kernel⟩, List.mem_of_getElem? (i := 227) (by decide +kernel), List.mem_of_getElem? (i := 790) (by decide +kernel), List.mem_of_getElem? (i := 791) (by decide +kernel)⟩
theorem lw_p26 : lw_okq (⟨"DryPlaces$Parser", "readOne", "(I)Z"⟩, 7) := ⟨⟨by decide +kernel, by decide +kernel⟩, List.mem_of_getElem? (i := 227) (by decide +kernel), List.mem_of_getElem? (i := 794) (by decide +kernel), List.mem_of_getElem? (i := 795) (by decide +kernel)⟩
theorem lw_p27 : lw_okq (⟨"DryPlaces$Parser", "take", "(I)Z"⟩, 7) := ⟨⟨by decide +kernel, by decide +kernel⟩, List.mem_of_getElem? (i := 227) (by decide +kernel), List.mem_of_getElem? (i := 798) (by decide +kernel), List.mem_of_getElem? (i := 799) (by decide +kernel)⟩
theorem lw_p28 : lw_okq (⟨"DryPlaces$Parser", "comparison", "()I"⟩, 7) := ⟨⟨by decide +kernel, by decide +kernel⟩, List.mem_of_getElem? (i := 227) (by decide +kernel), List.mem_of_getElem? (i := 802) (by decide +kernel), List.mem_of_getElem? (i := 803) (by decide +kernel)⟩
theorem lw_p29 : lw_okq (⟨"DryPlaces$Parser", "readPassage", "()Z"⟩, 7) := ⟨⟨by decide +kernel, by decide +kernel⟩, List.mem_of_getElem? (i := 227) (by decide +kernel), List.mem_of_getElem? (i := 810) (by decide +kernel), List.mem_of_getElem? (i := 811) (by decide +kernel)⟩
theorem lw_p30 : lw_okq (⟨"DryPlaces$Parser", "takeRoom", "(I)I"⟩, 7) := ⟨⟨by decide +kernel, by decide +kernel⟩, List.mem_of_getElem? (i := 227) (by decide +kernel), List.mem_of_getElem? (i := 814) (by decide +kernel), List.mem_of_getElem? (i := 815) (by decide +kernel)⟩
theorem lw_p31 : lw_okq (⟨"DryPlaces$Parser", "readEntry", "()Z"⟩, 7) := ⟨⟨by decide +kernel, by decide +kernel⟩, List.mem_of_getElem? (i := 227) (by decide +kernel), List.mem_of_getElem? (i := 822) (by decide +kernel), List.mem_of_getElem? (i := 823) (by decide +kernel)⟩
def lw_privs_2 : List (MethodName × Nat) := [(⟨"DryPlaces$Parser", "canBegin", "(I)Z"⟩, 7), (⟨"DryPlaces$Parser", "refuse", "(I)Z"⟩, 7), (⟨"DryPlaces$Parser", "readLaw", "()Z"⟩, 7), (⟨"DryPlaces$Parser", "step", "()V"⟩, 7), (⟨"DryPlaces$Parser", "readSum", "()Z"⟩, 7), (⟨"DryPlaces$Parser", "readUnit", "()Z"⟩, 7), (⟨"DryPlaces$Parser", "isReckoning", "()Z"⟩, 7), (⟨"DryPlaces$Parser", "takeNumber", "(III)I"⟩, 7), (⟨"DryPlaces$Parser", "addWaiting", "(I)V"⟩, 7), (⟨"DryPlaces$Parser", "readCondition", "(I)Z"⟩, 7), (⟨"DryPlaces$Parser", "readOne", "(I)Z"⟩, 7), (⟨"DryPlaces$Parser", "take", "(I)Z"⟩, 7), (⟨"DryPlaces$Parser", "comparison", "()I"⟩, 7), (⟨"DryPlaces$Parser", "readPassage", "()Z"⟩, 7), (⟨"DryPlaces$Parser", "takeRoom", "(I)I"⟩, 7), (⟨"DryPlaces$Parser", "readEntry", "()Z"⟩, 7)]
theorem lw_r2 : ∀ q ∈ lw_privs_2, lw_okq q := List.forall_mem_cons.mpr ⟨lw_p16, List.forall_mem_cons.mpr ⟨lw_p17, List.forall_mem_cons.mpr ⟨lw_p18, List.forall_mem_cons.mpr ⟨lw_p19, List.forall_mem_cons.mpr ⟨lw_p20, List.forall_mem_cons.mpr ⟨lw_p21, List.forall_mem_cons.mpr ⟨lw_p22, List.forall_mem_cons.mpr ⟨lw_p23, List.forall_mem_cons.mpr ⟨lw_p24, List.forall_mem_cons.mpr ⟨lw_p25, List.forall_mem_cons.mpr ⟨lw_p26, List.forall_mem_cons.mpr ⟨lw_p27, List.forall_mem_cons.mpr ⟨lw_p28, List.forall_mem_cons.mpr ⟨lw_p29, List.forall_mem_cons.mpr ⟨lw_p30, List.forall_mem_cons.mpr ⟨lw_p31, fun _ h => absurd h List.not_mem_nil⟩⟩⟩⟩⟩⟩⟩⟩⟩⟩⟩⟩⟩⟩⟩⟩
theorem lw_p32 : lw_okq (⟨"DryPlaces$Parser", "actOfWord", "()I"⟩, 7) := ⟨⟨by decide +kernel, by decide +kernel⟩, List.mem_of_getElem? (i := 227) (by decide +kernel), List.mem_of_getElem? (i := 826) (by decide +kernel), List.mem_of_getElem? (i := 827) (by decide +kernel)⟩
theorem lw_p33 : lw_okq (⟨"DryPlaces$Parser", "takePlace", "(I)I"⟩, 7) := ⟨⟨by decide +kernel, by decide +kernel⟩, List.mem_of_getElem? (i := 227) (by decide +kernel), List.mem_of_getElem? (i := 830) (by decide +kernel), List.mem_of_getElem? (i := 831) (by decide +kernel)⟩
theorem lw_p34 : lw_okq (⟨"DryPlaces$Parser", "takeDetail", "(I)I"⟩, 7) := ⟨⟨by decide +kernel, by decide +kernel⟩, List.mem_of_getElem? (i := 227) (by decide +kernel), List.mem_of_getElem? (i := 834) (by decide +kernel), List.mem_of_getElem? (i := 835) (by decide +kernel)⟩
theorem lw_p35 : lw_okq (⟨"DryPlaces$Parser", "readVoucher", "()Z"⟩, 7) := ⟨⟨by decide +kernel, by decide +kernel⟩, List.mem_of_getElem? (i := 227) (by decide +kernel), List.mem_of_getElem? (i := 842) (by decide +kernel), List.mem_of_getElem? (i := 843) (by decide +kernel)⟩
theorem lw_p36 : lw_okq (⟨"DryPlaces", "priceOf", "(I)I"⟩, 16) := ⟨⟨by decide +kernel, by decide +kernel⟩, List.mem_of_getElem? (i := 23) (by decide +kernel), List.mem_of_getElem? (i := 1016) (by decide +kernel), List.mem_of_getElem? (i := 1017) (by decide +kernel)⟩
theorem lw_p37 : lw_okq (⟨"DryPlaces$Tour", "measure", "([I)V"⟩, 2) := ⟨⟨by decide +kernel, by decide +kernel⟩, List.mem_of_getElem? (i := 298) (by decide +kernel), List.mem_of_getElem? (i := 1029) (by decide +kernel), List.mem_of_getElem? (i := 1030) (by decide +kernel)⟩
theorem lw_p38 : lw_okq (⟨"DryPlaces$Tour", "goOn", "(II)V"⟩, 2) := ⟨⟨by decide +kernel, by decide +kernel⟩, List.mem_of_getElem? (i := 298) (by decide +kernel), List.mem_of_getElem? (i := 1036) (by decide +kernel), List.mem_of_getElem? (i := 1037) (by decide +kernel)⟩
theorem lw_p39 : lw_okq (⟨"DryPlaces", "vouchersOfAll", "(I)I"⟩, 16) := ⟨⟨by decide +kernel, by decide +kernel⟩, List.mem_of_getElem? (i := 23) (by decide +kernel), List.mem_of_getElem? (i := 1049) (by decide +kernel), List.mem_of_getElem? (i := 1050) (by decide +kernel)⟩
theorem lw_p40 : lw_okq (⟨"DryPlaces", "heapOf", "(I)I"⟩, 16) := ⟨⟨by decide +kernel, by decide +kernel⟩, List.mem_of_getElem? (i := 23) (by decide +kernel), List.mem_of_getElem? (i := 1077) (by decide +kernel), List.mem_of_getElem? (i := 1078) (by decide +kernel)⟩
theorem lw_p41 : lw_okq (⟨"DryPlacesModel", "isIn", "(III)Z"⟩, 55) := ⟨⟨by decide +kernel, by decide +kernel⟩, List.mem_of_getElem? (i := 1106) (by decide +kernel), List.mem_of_getElem? (i := 1290) (by decide +kernel), List.mem_of_getElem? (i := 1291) (by decide +kernel)⟩
theorem lw_p42 : lw_okq (⟨"DryPlacesModel", "rowAt", "(II)I"⟩, 55) := ⟨⟨by decide +kernel, by decide +kernel⟩, List.mem_of_getElem? (i := 1106) (by decide +kernel), List.mem_of_getElem? (i := 1294) (by decide +kernel), List.mem_of_getElem? (i := 1295) (by decide +kernel)⟩
theorem lw_p43 : lw_okq (⟨"DryPlacesModel", "isPlace", "(I)Z"⟩, 55) := ⟨⟨by decide +kernel, by decide +kernel⟩, List.mem_of_getElem? (i := 1106) (by decide +kernel), List.mem_of_getElem? (i := 1302) (by decide +kernel), List.mem_of_getElem? (i := 1303) (by decide +kernel)⟩
theorem lw_p44 : lw_okq (⟨"DryPlacesModel", "types", "(I)V"⟩, 55) := ⟨⟨by decide +kernel, by decide +kernel⟩, List.mem_of_getElem? (i := 1106) (by decide +kernel), List.mem_of_getElem? (i := 1315) (by decide +kernel), List.mem_of_getElem? (i := 1316) (by decide +kernel)⟩
theorem lw_p45 : lw_okq (⟨"DryPlacesModel", "readsText", "(I)I"⟩, 55) := ⟨⟨by decide +kernel, by decide +kernel⟩, List.mem_of_getElem? (i := 1106) (by decide +kernel), List.mem_of_getElem? (i := 1327) (by decide +kernel), List.mem_of_getElem? (i := 1328) (by decide +kernel)⟩
theorem lw_p46 : lw_okq (⟨"DryPlacesModel", "reads", "()V"⟩, 55) := ⟨⟨by decide +kernel, by decide +kernel⟩, List.mem_of_getElem? (i := 1106) (by decide +kernel), List.mem_of_getElem? (i := 1331) (by decide +kernel), List.mem_of_getElem? (i := 1332) (by decide +kernel)⟩
theorem lw_p47 : lw_okq (⟨"DryPlacesModel", "raw", "(I)I"⟩, 55) := ⟨⟨by decide +kernel, by decide +kernel⟩, List.mem_of_getElem? (i := 1106) (by decide +kernel), List.mem_of_getElem? (i := 1335) (by decide +kernel), List.mem_of_getElem? (i := 1336) (by decide +kernel)⟩
def lw_privs_3 : List (MethodName × Nat) := [(⟨"DryPlaces$Parser", "actOfWord", "()I"⟩, 7), (⟨"DryPlaces$Parser", "takePlace", "(I)I"⟩, 7), (⟨"DryPlaces$Parser", "takeDetail", "(I)I"⟩, 7), (⟨"DryPlaces$Parser", "readVoucher", "()Z"⟩, 7), (⟨"DryPlaces", "priceOf", "(I)I"⟩, 16), (⟨"DryPlaces$Tour", "measure", "([I)V"⟩, 2), (⟨"DryPlaces$Tour", "goOn", "(II)V"⟩, 2), (⟨"DryPlaces", "vouchersOfAll", "(I)I"⟩, 16), (⟨"DryPlaces", "heapOf", "(I)I"⟩, 16), (⟨"DryPlacesModel", "isIn", "(III)Z"⟩, 55), (⟨"DryPlacesModel", "rowAt", "(II)I"⟩, 55), (⟨"DryPlacesModel", "isPlace", "(I)Z"⟩, 55), (⟨"DryPlacesModel", "types", "(I)V"⟩, 55), (⟨"DryPlacesModel", "readsText", "(I)I"⟩, 55), (⟨"DryPlacesModel", "reads", "()V"⟩, 55), (⟨"DryPlacesModel", "raw", "(I)I"⟩, 55)]
theorem lw_r3 : ∀ q ∈ lw_privs_3, lw_okq q := List.forall_mem_cons.mpr ⟨lw_p32, List.forall_mem_cons.mpr ⟨lw_p33, List.forall_mem_cons.mpr ⟨lw_p34, List.forall_mem_cons.mpr ⟨lw_p35, List.forall_mem_cons.mpr ⟨lw_p36, List.forall_mem_cons.mpr ⟨lw_p37, List.forall_mem_cons.mpr ⟨lw_p38, List.forall_mem_cons.mpr ⟨lw_p39, List.forall_mem_cons.mpr ⟨lw_p40, List.forall_mem_cons.mpr ⟨lw_p41, List.forall_mem_cons.mpr ⟨lw_p42, List.forall_mem_cons.mpr ⟨lw_p43, List.forall_mem_cons.mpr ⟨lw_p44, List.forall_mem_cons.mpr ⟨lw_p45, List.forall_mem_cons.mpr ⟨lw_p46, List.forall_mem_cons.mpr ⟨lw_p47, fun _ h => absurd h List.not_mem_nil⟩⟩⟩⟩⟩⟩⟩⟩⟩⟩⟩⟩⟩⟩⟩⟩
theorem lw_p48 : lw_okq (⟨"DryPlacesModel", "isLetter", "(I)Z"⟩, 55) := ⟨⟨by decide +kernel, by decide +kernel⟩, List.mem_of_getElem? (i := 1106) (by decide +kernel), List.mem_of_getElem? (i := 1339) (by decide +kernel), List.mem_of_getElem? (i := 1340) (by decide +kernel)⟩
theorem lw_p49 : lw_okq (⟨"DryPlacesModel", "wordAt", "(II)I"⟩, 55) := ⟨⟨by decide +kernel, by decide +kernel⟩, List.mem_of_getElem? (i := 1106) (by decide +kernel), List.mem_of_getElem? (i := 1343) (by decide +kernel), List.mem_of_getElem? (i := 1344) (by decide +kernel)⟩
theorem lw_p50 : lw_okq (⟨"DryPlacesModel", "isDigit", "(I)Z"⟩, 55) := ⟨⟨by decide +kernel, by decide +kernel⟩, List.mem_of_getElem? (i := 1106) (by decide +kernel), List.mem_of_getElem? (i := 1347) (by decide +kernel), List.mem_of_getElem? (i := 1348) (by decide +kernel)⟩
theorem lw_p51 : lw_okq (⟨"DryPlacesModel", "isMarkSign", "(I)Z"⟩, 55) := ⟨⟨by decide +kernel, by decide +kernel⟩, List.mem_of_getElem? (i := 1106) (by decide +kernel), List.mem_of_getElem? (i := 1351) (by decide +kernel), List.mem_of_getElem? (i := 1352) (by decide +kernel)⟩
theorem lw_p52 : lw_okq (⟨"DryPlacesModel", "readPassages", "()I"⟩, 55) := ⟨⟨by decide +kernel, by decide +kernel⟩, List.mem_of_getElem? (i := 1106) (by decide +kernel), List.mem_of_getElem? (i := 1355) (by decide +kernel), List.mem_of_getElem? (i := 1356) (by decide +kernel)⟩
theorem lw_p53 : lw_okq (⟨"DryPlacesModel", "isWord", "(I)Z"⟩, 55) := ⟨⟨by decide +kernel, by decide +kernel⟩, List.mem_of_getElem? (i := 1106) (by decide +kernel), List.mem_of_getElem? (i := 1359) (by decide +kernel), List.mem_of_getElem? (i := 1360) (by decide +kernel)⟩
theorem lw_p54 : lw_okq (⟨"DryPlacesModel", "errs", "(I)I"⟩, 55) := ⟨⟨by decide +kernel, by decide +kernel⟩, List.mem_of_getElem? (i := 1106) (by decide +kernel), List.mem_of_getElem? (i := 1363) (by decide +kernel), List.mem_of_getElem? (i := 1364) (by decide +kernel)⟩
theorem lw_p55 : lw_okq (⟨"DryPlacesModel", "readPassage", "()I"⟩, 55) := ⟨⟨by decide +kernel, by decide +kernel⟩, List.mem_of_getElem? (i := 1106) (by decide +kernel), List.mem_of_getElem? (i := 1367) (by decide +kernel), List.mem_of_getElem? (i := 1368) (by decide +kernel)⟩
theorem lw_p56 : lw_okq (⟨"DryPlacesModel", "readTold", "(III)I"⟩, 55) := ⟨⟨by decide +kernel, by decide +kernel⟩, List.mem_of_getElem? (i := 1106) (by decide +kernel), List.mem_of_getElem? (i := 1371) (by decide +kernel), List.mem_of_getElem? (i := 1372) (by decide +kernel)⟩
theorem lw_p57 : lw_okq (⟨"DryPlacesModel", "readNumber", "(II)I"⟩, 55) := ⟨⟨by decide +kernel, by decide +kernel⟩, List.mem_of_getElem? (i := 1106) (by decide +kernel), List.mem_of_getElem? (i := 1375) (by decide +kernel), List.mem_of_getElem? (i := 1376) (by decide +kernel)⟩
theorem lw_p58 : lw_okq (⟨"DryPlacesModel", "readOther", "(III)I"⟩, 55) := ⟨⟨by decide +kernel, by decide +kernel⟩, List.mem_of_getElem? (i := 1106) (by decide +kernel), List.mem_of_getElem? (i := 1379) (by decide +kernel), List.mem_of_getElem? (i := 1380) (by decide +kernel)⟩
theorem lw_p59 : lw_okq (⟨"DryPlacesModel", "takesPassage", "(II)V"⟩, 55) := ⟨⟨by decide +kernel, by decide +kernel⟩, List.mem_of_getElem? (i := 1106) (by decide +kernel), List.mem_of_getElem? (i := 1383) (by decide +kernel), List.mem_of_getElem? (i := 1384) (by decide +kernel)⟩
theorem lw_p60 : lw_okq (⟨"DryPlacesModel", "readMark", "(I)I"⟩, 55) := ⟨⟨by decide +kernel, by decide +kernel⟩, List.mem_of_getElem? (i := 1106) (by decide +kernel), List.mem_of_getElem? (i := 1387) (by decide +kernel), List.mem_of_getElem? (i := 1388) (by decide +kernel)⟩
theorem lw_p61 : lw_okq (⟨"DryPlacesModel", "isSign", "(I)Z"⟩, 55) := ⟨⟨by decide +kernel, by decide +kernel⟩, List.mem_of_getElem? (i := 1106) (by decide +kernel), List.mem_of_getElem? (i := 1391) (by decide +kernel), List.mem_of_getElem? (i := 1392) (by decide +kernel)⟩
theorem lw_p62 : lw_okq (⟨"DryPlacesModel", "readDiary", "()I"⟩, 55) := ⟨⟨by decide +kernel, by decide +kernel⟩, List.mem_of_getElem? (i := 1106) (by decide +kernel), List.mem_of_getElem? (i := 1395) (by decide +kernel), List.mem_of_getElem? (i := 1396) (by decide +kernel)⟩
theorem lw_p63 : lw_okq (⟨"DryPlacesModel", "readDeed", "(I)I"⟩, 55) := ⟨⟨by decide +kernel, by decide +kernel⟩, List.mem_of_getElem? (i := 1106) (by decide +kernel), List.mem_of_getElem? (i := 1399) (by decide +kernel), List.mem_of_getElem? (i := 1400) (by decide +kernel)⟩
def lw_privs_4 : List (MethodName × Nat) := [(⟨"DryPlacesModel", "isLetter", "(I)Z"⟩, 55), (⟨"DryPlacesModel", "wordAt", "(II)I"⟩, 55), (⟨"DryPlacesModel", "isDigit", "(I)Z"⟩, 55), (⟨"DryPlacesModel", "isMarkSign", "(I)Z"⟩, 55), (⟨"DryPlacesModel", "readPassages", "()I"⟩, 55), (⟨"DryPlacesModel", "isWord", "(I)Z"⟩, 55), (⟨"DryPlacesModel", "errs", "(I)I"⟩, 55), (⟨"DryPlacesModel", "readPassage", "()I"⟩, 55), (⟨"DryPlacesModel", "readTold", "(III)I"⟩, 55), (⟨"DryPlacesModel", "readNumber", "(II)I"⟩, 55), (⟨"DryPlacesModel", "readOther", "(III)I"⟩, 55), (⟨"DryPlacesModel", "takesPassage", "(II)V"⟩, 55), (⟨"DryPlacesModel", "readMark", "(I)I"⟩, 55), (⟨"DryPlacesModel", "isSign", "(I)Z"⟩, 55), (⟨"DryPlacesModel", "readDiary", "()I"⟩, 55), (⟨"DryPlacesModel", "readDeed", "(I)I"⟩, 55)]
theorem lw_r4 : ∀ q ∈ lw_privs_4, lw_okq q := List.forall_mem_cons.mpr ⟨lw_p48, List.forall_mem_cons.mpr ⟨lw_p49, List.forall_mem_cons.mpr ⟨lw_p50, List.forall_mem_cons.mpr ⟨lw_p51, List.forall_mem_cons.mpr ⟨lw_p52, List.forall_mem_cons.mpr ⟨lw_p53, List.forall_mem_cons.mpr ⟨lw_p54, List.forall_mem_cons.mpr ⟨lw_p55, List.forall_mem_cons.mpr ⟨lw_p56, List.forall_mem_cons.mpr ⟨lw_p57, List.forall_mem_cons.mpr ⟨lw_p58, List.forall_mem_cons.mpr ⟨lw_p59, List.forall_mem_cons.mpr ⟨lw_p60, List.forall_mem_cons.mpr ⟨lw_p61, List.forall_mem_cons.mpr ⟨lw_p62, List.forall_mem_cons.mpr ⟨lw_p63, fun _ h => absurd h List.not_mem_nil⟩⟩⟩⟩⟩⟩⟩⟩⟩⟩⟩⟩⟩⟩⟩⟩
theorem lw_p64 : lw_okq (⟨"DryPlacesModel", "kindOfDeed", "()I"⟩, 55) := ⟨⟨by decide +kernel, by decide +kernel⟩, List.mem_of_getElem? (i := 1106) (by decide +kernel), List.mem_of_getElem? (i := 1403) (by decide +kernel), List.mem_of_getElem? (i := 1404) (by decide +kernel)⟩
theorem lw_p65 : lw_okq (⟨"DryPlacesModel", "readDeedMore", "(I)I"⟩, 55) := ⟨⟨by decide +kernel, by decide +kernel⟩, List.mem_of_getElem? (i := 1106) (by decide +kernel), List.mem_of_getElem? (i := 1407) (by decide +kernel), List.mem_of_getElem? (i := 1408) (by decide +kernel)⟩
theorem lw_p66 : lw_okq (⟨"DryPlacesModel", "readVouches", "()I"⟩, 55) := ⟨⟨by decide +kernel, by decide +kernel⟩, List.mem_of_getElem? (i := 1106) (by decide +kernel), List.mem_of_getElem? (i := 1411) (by decide +kernel), List.mem_of_getElem? (i := 1412) (by decide +kernel)⟩
theorem lw_p67 : lw_okq (⟨"DryPlacesModel", "readVouch", "()I"⟩, 55) := ⟨⟨by decide +kernel, by decide +kernel⟩, List.mem_of_getElem? (i := 1106) (by decide +kernel), List.mem_of_getElem? (i := 1415) (by decide +kernel), List.mem_of_getElem? (i := 1416) (by decide +kernel)⟩
theorem lw_p68 : lw_okq (⟨"DryPlacesModel", "readLaw", "()I"⟩, 55) := ⟨⟨by decide +kernel, by decide +kernel⟩, List.mem_of_getElem? (i := 1106) (by decide +kernel), List.mem_of_getElem? (i := 1419) (by decide +kernel), List.mem_of_getElem? (i := 1420) (by decide +kernel)⟩
theorem lw_p69 : lw_okq (⟨"DryPlacesModel", "isLineWord", "()Z"⟩, 55) := ⟨⟨by decide +kernel, by decide +kernel⟩, List.mem_of_getElem? (i := 1106) (by decide +kernel), List.mem_of_getElem? (i := 1423) (by decide +kernel), List.mem_of_getElem? (i := 1424) (by decide +kernel)⟩
theorem lw_p70 : lw_okq (⟨"DryPlacesModel", "readSum", "()I"⟩, 55) := ⟨⟨by decide +kernel, by decide +kernel⟩, List.mem_of_getElem? (i := 1106) (by decide +kernel), List.mem_of_getElem? (i := 1427) (by decide +kernel), List.mem_of_getElem? (i := 1428) (by decide +kernel)⟩
theorem lw_p71 : lw_okq (⟨"DryPlacesModel", "readProduct", "()I"⟩, 55) := ⟨⟨by decide +kernel, by decide +kernel⟩, List.mem_of_getElem? (i := 1106) (by decide +kernel), List.mem_of_getElem? (i := 1431) (by decide +kernel), List.mem_of_getElem? (i := 1432) (by decide +kernel)⟩
theorem lw_p72 : lw_okq (⟨"DryPlacesModel", "readUnit", "()I"⟩, 55) := ⟨⟨by decide +kernel, by decide +kernel⟩, List.mem_of_getElem? (i := 1106) (by decide +kernel), List.mem_of_getElem? (i := 1435) (by decide +kernel), List.mem_of_getElem? (i := 1436) (by decide +kernel)⟩
theorem lw_p73 : lw_okq (⟨"DryPlacesModel", "canAsk", "(I)Z"⟩, 55) := ⟨⟨by decide +kernel, by decide +kernel⟩, List.mem_of_getElem? (i := 1106) (by decide +kernel), List.mem_of_getElem? (i := 1439) (by decide +kernel), List.mem_of_getElem? (i := 1440) (by decide +kernel)⟩
theorem lw_p74 : lw_okq (⟨"DryPlacesModel", "emits", "(II)V"⟩, 55) := ⟨⟨by decide +kernel, by decide +kernel⟩, List.mem_of_getElem? (i := 1106) (by decide +kernel), List.mem_of_getElem? (i := 1443) (by decide +kernel), List.mem_of_getElem? (i := 1444) (by decide +kernel)⟩
theorem lw_p75 : lw_okq (⟨"DryPlacesModel", "readAny", "()I"⟩, 55) := ⟨⟨by decide +kernel, by decide +kernel⟩, List.mem_of_getElem? (i := 1106) (by decide +kernel), List.mem_of_getElem? (i := 1447) (by decide +kernel), List.mem_of_getElem? (i := 1448) (by decide +kernel)⟩
theorem lw_p76 : lw_okq (⟨"DryPlacesModel", "waits", "(I)V"⟩, 55) := ⟨⟨by decide +kernel, by decide +kernel⟩, List.mem_of_getElem? (i := 1106) (by decide +kernel), List.mem_of_getElem? (i := 1451) (by decide +kernel), List.mem_of_getElem? (i := 1452) (by decide +kernel)⟩
theorem lw_p77 : lw_okq (⟨"DryPlacesModel", "readCompared", "()I"⟩, 55) := ⟨⟨by decide +kernel, by decide +kernel⟩, List.mem_of_getElem? (i := 1106) (by decide +kernel), List.mem_of_getElem? (i := 1455) (by decide +kernel), List.mem_of_getElem? (i := 1456) (by decide +kernel)⟩
theorem lw_p78 : lw_okq (⟨"DryPlacesModel", "settles", "(I)V"⟩, 55) := ⟨⟨by decide +kernel, by decide +kernel⟩, List.mem_of_getElem? (i := 1106) (by decide +kernel), List.mem_of_getElem? (i := 1459) (by decide +kernel), List.mem_of_getElem? (i := 1460) (by decide +kernel)⟩
theorem lw_p79 : lw_okq (⟨"DryPlacesModel", "takesLaw", "(I)V"⟩, 55) := ⟨⟨by decide +kernel, by decide +kernel⟩, List.mem_of_getElem? (i := 1106) (by decide +kernel), List.mem_of_getElem? (i := 1463) (by decide +kernel), List.mem_of_getElem? (i := 1464) (by decide +kernel)⟩
def lw_privs_5 : List (MethodName × Nat) := [(⟨"DryPlacesModel", "kindOfDeed", "()I"⟩, 55), (⟨"DryPlacesModel", "readDeedMore", "(I)I"⟩, 55), (⟨"DryPlacesModel", "readVouches", "()I"⟩, 55), (⟨"DryPlacesModel", "readVouch", "()I"⟩, 55), (⟨"DryPlacesModel", "readLaw", "()I"⟩, 55), (⟨"DryPlacesModel", "isLineWord", "()Z"⟩, 55), (⟨"DryPlacesModel", "readSum", "()I"⟩, 55), (⟨"DryPlacesModel", "readProduct", "()I"⟩, 55), (⟨"DryPlacesModel", "readUnit", "()I"⟩, 55), (⟨"DryPlacesModel", "canAsk", "(I)Z"⟩, 55), (⟨"DryPlacesModel", "emits", "(II)V"⟩, 55), (⟨"DryPlacesModel", "readAny", "()I"⟩, 55), (⟨"DryPlacesModel", "waits", "(I)V"⟩, 55), (⟨"DryPlacesModel", "readCompared", "()I"⟩, 55), (⟨"DryPlacesModel", "settles", "(I)V"⟩, 55), (⟨"DryPlacesModel", "takesLaw", "(I)V"⟩, 55)]
theorem lw_r5 : ∀ q ∈ lw_privs_5, lw_okq q := List.forall_mem_cons.mpr ⟨lw_p64, List.forall_mem_cons.mpr ⟨lw_p65, List.forall_mem_cons.mpr ⟨lw_p66, List.forall_mem_cons.mpr ⟨lw_p67, List.forall_mem_cons.mpr ⟨lw_p68, List.forall_mem_cons.mpr ⟨lw_p69, List.forall_mem_cons.mpr ⟨lw_p70, List.forall_mem_cons.mpr ⟨lw_p71, List.forall_mem_cons.mpr ⟨lw_p72, List.forall_mem_cons.mpr ⟨lw_p73, List.forall_mem_cons.mpr ⟨lw_p74, List.forall_mem_cons.mpr ⟨lw_p75, List.forall_mem_cons.mpr ⟨lw_p76, List.forall_mem_cons.mpr ⟨lw_p77, List.forall_mem_cons.mpr ⟨lw_p78, List.forall_mem_cons.mpr ⟨lw_p79, fun _ h => absurd h List.not_mem_nil⟩⟩⟩⟩⟩⟩⟩⟩⟩⟩⟩⟩⟩⟩⟩⟩
theorem lw_p80 : lw_okq (⟨"DryPlacesModel", "takesOther", "(II)V"⟩, 55) := ⟨⟨by decide +kernel, by decide +kernel⟩, List.mem_of_getElem? (i := 1106) (by decide +kernel), List.mem_of_getElem? (i := 1467) (by decide +kernel), List.mem_of_getElem? (i := 1468) (by decide +kernel)⟩
theorem lw_p81 : lw_okq (⟨"DryPlacesModel", "isTold", "(III)Z"⟩, 55) := ⟨⟨by decide +kernel, by decide +kernel⟩, List.mem_of_getElem? (i := 1106) (by decide +kernel), List.mem_of_getElem? (i := 1479) (by decide +kernel), List.mem_of_getElem? (i := 1480) (by decide +kernel)⟩
theorem lw_p82 : lw_okq (⟨"DryPlacesModel", "isCell", "(I)Z"⟩, 55) := ⟨⟨by decide +kernel, by decide +kernel⟩, List.mem_of_getElem? (i := 1106) (by decide +kernel), List.mem_of_getElem? (i := 1483) (by decide +kernel), List.mem_of_getElem? (i := 1484) (by decide +kernel)⟩
theorem lw_p83 : lw_okq (⟨"DryPlacesModel", "canAct", "(III)Z"⟩, 55) := ⟨⟨by decide +kernel, by decide +kernel⟩, List.mem_of_getElem? (i := 1106) (by decide +kernel), List.mem_of_getElem? (i := 1487) (by decide +kernel), List.mem_of_getElem? (i := 1488) (by decide +kernel)⟩
theorem lw_p84 : lw_okq (⟨"DryPlacesModel", "worthOf", "(I)I"⟩, 55) := ⟨⟨by decide +kernel, by decide +kernel⟩, List.mem_of_getElem? (i := 1106) (by decide +kernel), List.mem_of_getElem? (i := 1491) (by decide +kernel), List.mem_of_getElem? (i := 1492) (by decide +kernel)⟩
theorem lw_p85 : lw_okq (⟨"DryPlacesModel", "asks", "(II)V"⟩, 55) := ⟨⟨by decide +kernel, by decide +kernel⟩, List.mem_of_getElem? (i := 1106) (by decide +kernel), List.mem_of_getElem? (i := 1495) (by decide +kernel), List.mem_of_getElem? (i := 1496) (by decide +kernel)⟩
theorem lw_p86 : lw_okq (⟨"DryPlacesModel", "dryOf", "(I)I"⟩, 55) := ⟨⟨by decide +kernel, by decide +kernel⟩, List.mem_of_getElem? (i := 1106) (by decide +kernel), List.mem_of_getElem? (i := 1499) (by decide +kernel), List.mem_of_getElem? (i := 1500) (by decide +kernel)⟩
theorem lw_p87 : lw_okq (⟨"DryPlacesModel", "onesOf", "(I)I"⟩, 55) := ⟨⟨by decide +kernel, by decide +kernel⟩, List.mem_of_getElem? (i := 1106) (by decide +kernel), List.mem_of_getElem? (i := 1503) (by decide +kernel), List.mem_of_getElem? (i := 1504) (by decide +kernel)⟩
theorem lw_p88 : lw_okq (⟨"DryPlacesModel", "edgesOf", "(I)I"⟩, 55) := ⟨⟨by decide +kernel, by decide +kernel⟩, List.mem_of_getElem? (i := 1106) (by decide +kernel), List.mem_of_getElem? (i := 1507) (by decide +kernel), List.mem_of_getElem? (i := 1508) (by decide +kernel)⟩
theorem lw_p89 : lw_okq (⟨"DryPlacesModel", "isDryCell", "(II)Z"⟩, 55) := ⟨⟨by decide +kernel, by decide +kernel⟩, List.mem_of_getElem? (i := 1106) (by decide +kernel), List.mem_of_getElem? (i := 1511) (by decide +kernel), List.mem_of_getElem? (i := 1512) (by decide +kernel)⟩
theorem lw_p90 : lw_okq (⟨"DryPlacesModel", "has", "(II)Z"⟩, 55) := ⟨⟨by decide +kernel, by decide +kernel⟩, List.mem_of_getElem? (i := 1106) (by decide +kernel), List.mem_of_getElem? (i := 1515) (by decide +kernel), List.mem_of_getElem? (i := 1516) (by decide +kernel)⟩
theorem lw_p91 : lw_okq (⟨"DryPlacesModel", "wetBeside", "(II)I"⟩, 55) := ⟨⟨by decide +kernel, by decide +kernel⟩, List.mem_of_getElem? (i := 1106) (by decide +kernel), List.mem_of_getElem? (i := 1519) (by decide +kernel), List.mem_of_getElem? (i := 1520) (by decide +kernel)⟩
theorem lw_p92 : lw_okq (⟨"DryPlacesModel", "isDry", "(III)Z"⟩, 55) := ⟨⟨by decide +kernel, by decide +kernel⟩, List.mem_of_getElem? (i := 1106) (by decide +kernel), List.mem_of_getElem? (i := 1523) (by decide +kernel), List.mem_of_getElem? (i := 1524) (by decide +kernel)⟩
theorem lw_p93 : lw_okq (⟨"DryPlacesModel", "lightOf", "(I)I"⟩, 55) := ⟨⟨by decide +kernel, by decide +kernel⟩, List.mem_of_getElem? (i := 1106) (by decide +kernel), List.mem_of_getElem? (i := 1527) (by decide +kernel), List.mem_of_getElem? (i := 1528) (by decide +kernel)⟩
theorem lw_p94 : lw_okq (⟨"DryPlacesModel", "lawTells", "(III)I"⟩, 55) := ⟨⟨by decide +kernel, by decide +kernel⟩, List.mem_of_getElem? (i := 1106) (by decide +kernel), List.mem_of_getElem? (i := 1531) (by decide +kernel), List.mem_of_getElem? (i := 1532) (by decide +kernel)⟩
theorem lw_p95 : lw_okq (⟨"DryPlacesModel", "lineOf", "(I)I"⟩, 55) := ⟨⟨by decide +kernel, by decide +kernel⟩, List.mem_of_getElem? (i := 1106) (by decide +kernel), List.mem_of_getElem? (i := 1535) (by decide +kernel), List.mem_of_getElem? (i := 1536) (by decide +kernel)⟩
def lw_privs_6 : List (MethodName × Nat) := [(⟨"DryPlacesModel", "takesOther", "(II)V"⟩, 55), (⟨"DryPlacesModel", "isTold", "(III)Z"⟩, 55), (⟨"DryPlacesModel", "isCell", "(I)Z"⟩, 55), (⟨"DryPlacesModel", "canAct", "(III)Z"⟩, 55), (⟨"DryPlacesModel", "worthOf", "(I)I"⟩, 55), (⟨"DryPlacesModel", "asks", "(II)V"⟩, 55), (⟨"DryPlacesModel", "dryOf", "(I)I"⟩, 55), (⟨"DryPlacesModel", "onesOf", "(I)I"⟩, 55), (⟨"DryPlacesModel", "edgesOf", "(I)I"⟩, 55), (⟨"DryPlacesModel", "isDryCell", "(II)Z"⟩, 55), (⟨"DryPlacesModel", "has", "(II)Z"⟩, 55), (⟨"DryPlacesModel", "wetBeside", "(II)I"⟩, 55), (⟨"DryPlacesModel", "isDry", "(III)Z"⟩, 55), (⟨"DryPlacesModel", "lightOf", "(I)I"⟩, 55), (⟨"DryPlacesModel", "lawTells", "(III)I"⟩, 55), (⟨"DryPlacesModel", "lineOf", "(I)I"⟩, 55)]
theorem lw_r6 : ∀ q ∈ lw_privs_6, lw_okq q := List.forall_mem_cons.mpr ⟨lw_p80, List.forall_mem_cons.mpr ⟨lw_p81, List.forall_mem_cons.mpr ⟨lw_p82, List.forall_mem_cons.mpr ⟨lw_p83, List.forall_mem_cons.mpr ⟨lw_p84, List.forall_mem_cons.mpr ⟨lw_p85, List.forall_mem_cons.mpr ⟨lw_p86, List.forall_mem_cons.mpr ⟨lw_p87, List.forall_mem_cons.mpr ⟨lw_p88, List.forall_mem_cons.mpr ⟨lw_p89, List.forall_mem_cons.mpr ⟨lw_p90, List.forall_mem_cons.mpr ⟨lw_p91, List.forall_mem_cons.mpr ⟨lw_p92, List.forall_mem_cons.mpr ⟨lw_p93, List.forall_mem_cons.mpr ⟨lw_p94, List.forall_mem_cons.mpr ⟨lw_p95, fun _ h => absurd h List.not_mem_nil⟩⟩⟩⟩⟩⟩⟩⟩⟩⟩⟩⟩⟩⟩⟩⟩
theorem lw_p96 : lw_okq (⟨"DryPlacesModel", "runs", "(III)I"⟩, 55) := ⟨⟨by decide +kernel, by decide +kernel⟩, List.mem_of_getElem? (i := 1106) (by decide +kernel), List.mem_of_getElem? (i := 1539) (by decide +kernel), List.mem_of_getElem? (i := 1540) (by decide +kernel)⟩
theorem lw_p97 : lw_okq (⟨"DryPlacesModel", "twoOf", "(III)I"⟩, 55) := ⟨⟨by decide +kernel, by decide +kernel⟩, List.mem_of_getElem? (i := 1106) (by decide +kernel), List.mem_of_getElem? (i := 1543) (by decide +kernel), List.mem_of_getElem? (i := 1544) (by decide +kernel)⟩
theorem lw_p98 : lw_okq (⟨"DryPlacesModel", "held", "(III)I"⟩, 55) := ⟨⟨by decide +kernel, by decide +kernel⟩, List.mem_of_getElem? (i := 1106) (by decide +kernel), List.mem_of_getElem? (i := 1547) (by decide +kernel), List.mem_of_getElem? (i := 1548) (by decide +kernel)⟩
theorem lw_p99 : lw_okq (⟨"DryPlacesModel", "keepsAhead", "()V"⟩, 55) := ⟨⟨by decide +kernel, by decide +kernel⟩, List.mem_of_getElem? (i := 1106) (by decide +kernel), List.mem_of_getElem? (i := 1551) (by decide +kernel), List.mem_of_getElem? (i := 1552) (by decide +kernel)⟩
theorem lw_p100 : lw_okq (⟨"DryPlacesModel", "acts", "(III)V"⟩, 55) := ⟨⟨by decide +kernel, by decide +kernel⟩, List.mem_of_getElem? (i := 1106) (by decide +kernel), List.mem_of_getElem? (i := 1555) (by decide +kernel), List.mem_of_getElem? (i := 1556) (by decide +kernel)⟩
theorem lw_p101 : lw_okq (⟨"DryPlacesModel", "isBought", "(I)V"⟩, 55) := ⟨⟨by decide +kernel, by decide +kernel⟩, List.mem_of_getElem? (i := 1106) (by decide +kernel), List.mem_of_getElem? (i := 1559) (by decide +kernel), List.mem_of_getElem? (i := 1560) (by decide +kernel)⟩
theorem lw_p102 : lw_okq (⟨"DryPlacesModel", "notes", "(III)V"⟩, 55) := ⟨⟨by decide +kernel, by decide +kernel⟩, List.mem_of_getElem? (i := 1106) (by decide +kernel), List.mem_of_getElem? (i := 1563) (by decide +kernel), List.mem_of_getElem? (i := 1564) (by decide +kernel)⟩
theorem lw_p103 : lw_okq (⟨"DryPlacesModel", "sells", "(I)V"⟩, 55) := ⟨⟨by decide +kernel, by decide +kernel⟩, List.mem_of_getElem? (i := 1106) (by decide +kernel), List.mem_of_getElem? (i := 1567) (by decide +kernel), List.mem_of_getElem? (i := 1568) (by decide +kernel)⟩
theorem lw_p104 : lw_okq (⟨"DryPlacesModel", "getsPaid", "(I)V"⟩, 55) := ⟨⟨by decide +kernel, by decide +kernel⟩, List.mem_of_getElem? (i := 1106) (by decide +kernel), List.mem_of_getElem? (i := 1571) (by decide +kernel), List.mem_of_getElem? (i := 1572) (by decide +kernel)⟩
theorem lw_p105 : lw_okq (⟨"DryPlacesModel", "lesser", "(II)I"⟩, 55) := ⟨⟨by decide +kernel, by decide +kernel⟩, List.mem_of_getElem? (i := 1106) (by decide +kernel), List.mem_of_getElem? (i := 1575) (by decide +kernel), List.mem_of_getElem? (i := 1576) (by decide +kernel)⟩
theorem lw_p106 : lw_okq (⟨"DryPlacesModel", "hoses", "(II)V"⟩, 55) := ⟨⟨by decide +kernel, by decide +kernel⟩, List.mem_of_getElem? (i := 1106) (by decide +kernel), List.mem_of_getElem? (i := 1579) (by decide +kernel), List.mem_of_getElem? (i := 1580) (by decide +kernel)⟩
theorem lw_p107 : lw_okq (⟨"DryPlacesModel", "wets", "(II)V"⟩, 55) := ⟨⟨by decide +kernel, by decide +kernel⟩, List.mem_of_getElem? (i := 1106) (by decide +kernel), List.mem_of_getElem? (i := 1583) (by decide +kernel), List.mem_of_getElem? (i := 1584) (by decide +kernel)⟩
theorem lw_p108 : lw_okq (⟨"DryPlacesModel", "goesBy", "()I"⟩, 55) := ⟨⟨by decide +kernel, by decide +kernel⟩, List.mem_of_getElem? (i := 1106) (by decide +kernel), List.mem_of_getElem? (i := 1591) (by decide +kernel), List.mem_of_getElem? (i := 1592) (by decide +kernel)⟩
theorem lw_p109 : lw_okq (⟨"DryPlacesModel", "isShown", "(I)Z"⟩, 55) := ⟨⟨by decide +kernel, by decide +kernel⟩, List.mem_of_getElem? (i := 1106) (by decide +kernel), List.mem_of_getElem? (i := 1595) (by decide +kernel), List.mem_of_getElem? (i := 1596) (by decide +kernel)⟩
theorem lw_p110 : lw_okq (⟨"DryPlacesModel", "creepsOn", "(I)I"⟩, 55) := ⟨⟨by decide +kernel, by decide +kernel⟩, List.mem_of_getElem? (i := 1106) (by decide +kernel), List.mem_of_getElem? (i := 1599) (by decide +kernel), List.mem_of_getElem? (i := 1600) (by decide +kernel)⟩
theorem lw_p111 : lw_okq (⟨"DryPlacesModel", "creepsOf", "(II)I"⟩, 55) := ⟨⟨by decide +kernel, by decide +kernel⟩, List.mem_of_getElem? (i := 1106) (by decide +kernel), List.mem_of_getElem? (i := 1603) (by decide +kernel), List.mem_of_getElem? (i := 1604) (by decide +kernel)⟩
def lw_privs_7 : List (MethodName × Nat) := [(⟨"DryPlacesModel", "runs", "(III)I"⟩, 55), (⟨"DryPlacesModel", "twoOf", "(III)I"⟩, 55), (⟨"DryPlacesModel", "held", "(III)I"⟩, 55), (⟨"DryPlacesModel", "keepsAhead", "()V"⟩, 55), (⟨"DryPlacesModel", "acts", "(III)V"⟩, 55), (⟨"DryPlacesModel", "isBought", "(I)V"⟩, 55), (⟨"DryPlacesModel", "notes", "(III)V"⟩, 55), (⟨"DryPlacesModel", "sells", "(I)V"⟩, 55), (⟨"DryPlacesModel", "getsPaid", "(I)V"⟩, 55), (⟨"DryPlacesModel", "lesser", "(II)I"⟩, 55), (⟨"DryPlacesModel", "hoses", "(II)V"⟩, 55), (⟨"DryPlacesModel", "wets", "(II)V"⟩, 55), (⟨"DryPlacesModel", "goesBy", "()I"⟩, 55), (⟨"DryPlacesModel", "isShown", "(I)Z"⟩, 55), (⟨"DryPlacesModel", "creepsOn", "(I)I"⟩, 55), (⟨"DryPlacesModel", "creepsOf", "(II)I"⟩, 55)]
theorem lw_r7 : ∀ q ∈ lw_privs_7, lw_okq q := List.forall_mem_cons.mpr ⟨lw_p96, List.forall_mem_cons.mpr ⟨lw_p97, List.forall_mem_cons.mpr ⟨lw_p98, List.forall_mem_cons.mpr ⟨lw_p99, List.forall_mem_cons.mpr ⟨lw_p100, List.forall_mem_cons.mpr ⟨lw_p101, List.forall_mem_cons.mpr ⟨lw_p102, List.forall_mem_cons.mpr ⟨lw_p103, List.forall_mem_cons.mpr ⟨lw_p104, List.forall_mem_cons.mpr ⟨lw_p105, List.forall_mem_cons.mpr ⟨lw_p106, List.forall_mem_cons.mpr ⟨lw_p107, List.forall_mem_cons.mpr ⟨lw_p108, List.forall_mem_cons.mpr ⟨lw_p109, List.forall_mem_cons.mpr ⟨lw_p110, List.forall_mem_cons.mpr ⟨lw_p111, fun _ h => absurd h List.not_mem_nil⟩⟩⟩⟩⟩⟩⟩⟩⟩⟩⟩⟩⟩⟩⟩⟩
theorem lw_p112 : lw_okq (⟨"DryPlacesModel", "draw", "(I)I"⟩, 55) := ⟨⟨by decide +kernel, by decide +kernel⟩, List.mem_of_getElem? (i := 1106) (by decide +kernel), List.mem_of_getElem? (i := 1607) (by decide +kernel), List.mem_of_getElem? (i := 1608) (by decide +kernel)⟩
theorem lw_p113 : lw_okq (⟨"DryPlacesModel", "comesOf", "(I)I"⟩, 55) := ⟨⟨by decide +kernel, by decide +kernel⟩, List.mem_of_getElem? (i := 1106) (by decide +kernel), List.mem_of_getElem? (i := 1613) (by decide +kernel), List.mem_of_getElem? (i := 1614) (by decide +kernel)⟩
theorem lw_p114 : lw_okq (⟨"DryPlacesModel", "thinks", "()V"⟩, 55) := ⟨⟨by decide +kernel, by decide +kernel⟩, List.mem_of_getElem? (i := 1106) (by decide +kernel), List.mem_of_getElem? (i := 1637) (by decide +kernel), List.mem_of_getElem? (i := 1638) (by decide +kernel)⟩
theorem lw_p115 : lw_okq (⟨"DryPlacesModel", "endsThought", "()V"⟩, 55) := ⟨⟨by decide +kernel, by decide +kernel⟩, List.mem_of_getElem? (i := 1106) (by decide +kernel), List.mem_of_getElem? (i := 1641) (by decide +kernel), List.mem_of_getElem? (i := 1642) (by decide +kernel)⟩
theorem lw_p116 : lw_okq (⟨"DryPlacesModel", "islandsOf", "(I)I"⟩, 55) := ⟨⟨by decide +kernel, by decide +kernel⟩, List.mem_of_getElem? (i := 1106) (by decide +kernel), List.mem_of_getElem? (i := 1649) (by decide +kernel), List.mem_of_getElem? (i := 1650) (by decide +kernel)⟩
theorem lw_p117 : lw_okq (⟨"DryPlacesModel", "findsParts", "(IZ)V"⟩, 55) := ⟨⟨by decide +kernel, by decide +kernel⟩, List.mem_of_getElem? (i := 1106) (by decide +kernel), List.mem_of_getElem? (i := 1653) (by decide +kernel), List.mem_of_getElem? (i := 1654) (by decide +kernel)⟩
theorem lw_p118 : lw_okq (⟨"DryPlacesModel", "isBeside", "(II)Z"⟩, 55) := ⟨⟨by decide +kernel, by decide +kernel⟩, List.mem_of_getElem? (i := 1106) (by decide +kernel), List.mem_of_getElem? (i := 1657) (by decide +kernel), List.mem_of_getElem? (i := 1658) (by decide +kernel)⟩
theorem lw_p119 : lw_okq (⟨"DryPlacesModel", "apart", "(II)I"⟩, 55) := ⟨⟨by decide +kernel, by decide +kernel⟩, List.mem_of_getElem? (i := 1106) (by decide +kernel), List.mem_of_getElem? (i := 1661) (by decide +kernel), List.mem_of_getElem? (i := 1662) (by decide +kernel)⟩
theorem lw_p120 : lw_okq (⟨"DryPlacesModel", "holesOf", "(I)I"⟩, 55) := ⟨⟨by decide +kernel, by decide +kernel⟩, List.mem_of_getElem? (i := 1106) (by decide +kernel), List.mem_of_getElem? (i := 1665) (by decide +kernel), List.mem_of_getElem? (i := 1666) (by decide +kernel)⟩
theorem lw_p121 : lw_okq (⟨"DryPlacesModel", "comesOut", "(I)Z"⟩, 55) := ⟨⟨by decide +kernel, by decide +kernel⟩, List.mem_of_getElem? (i := 1106) (by decide +kernel), List.mem_of_getElem? (i := 1669) (by decide +kernel), List.mem_of_getElem? (i := 1670) (by decide +kernel)⟩
theorem lw_p122 : lw_okq (⟨"DryPlacesModel", "isAtEdge", "(I)Z"⟩, 55) := ⟨⟨by decide +kernel, by decide +kernel⟩, List.mem_of_getElem? (i := 1106) (by decide +kernel), List.mem_of_getElem? (i := 1673) (by decide +kernel), List.mem_of_getElem? (i := 1674) (by decide +kernel)⟩
theorem lw_p123 : lw_okq (⟨"DryPlacesModel", "depthOf", "(I)I"⟩, 55) := ⟨⟨by decide +kernel, by decide +kernel⟩, List.mem_of_getElem? (i := 1106) (by decide +kernel), List.mem_of_getElem? (i := 1677) (by decide +kernel), List.mem_of_getElem? (i := 1678) (by decide +kernel)⟩
theorem lw_p124 : lw_okq (⟨"DryPlacesModel", "takesOwn", "(I)V"⟩, 55) := ⟨⟨by decide +kernel, by decide +kernel⟩, List.mem_of_getElem? (i := 1106) (by decide +kernel), List.mem_of_getElem? (i := 1681) (by decide +kernel), List.mem_of_getElem? (i := 1682) (by decide +kernel)⟩
theorem lw_p125 : lw_okq (⟨"DryPlacesModel", "isOwnLeft", "()Z"⟩, 55) := ⟨⟨by decide +kernel, by decide +kernel⟩, List.mem_of_getElem? (i := 1106) (by decide +kernel), List.mem_of_getElem? (i := 1685) (by decide +kernel), List.mem_of_getElem? (i := 1686) (by decide +kernel)⟩
theorem lw_p126 : lw_okq (⟨"DryPlacesModel", "shrinks", "()V"⟩, 55) := ⟨⟨by decide +kernel, by decide +kernel⟩, List.mem_of_getElem? (i := 1106) (by decide +kernel), List.mem_of_getElem? (i := 1689) (by decide +kernel), List.mem_of_getElem? (i := 1690) (by decide +kernel)⟩
theorem lw_p127 : lw_okq (⟨"DryPlacesModel", "pushes", "()V"⟩, 55) := ⟨⟨by decide +kernel, by decide +kernel⟩, List.mem_of_getElem? (i := 1106) (by decide +kernel), List.mem_of_getElem? (i := 1697) (by decide +kernel), List.mem_of_getElem? (i := 1698) (by decide +kernel)⟩
def lw_privs_8 : List (MethodName × Nat) := [(⟨"DryPlacesModel", "draw", "(I)I"⟩, 55), (⟨"DryPlacesModel", "comesOf", "(I)I"⟩, 55), (⟨"DryPlacesModel", "thinks", "()V"⟩, 55), (⟨"DryPlacesModel", "endsThought", "()V"⟩, 55), (⟨"DryPlacesModel", "islandsOf", "(I)I"⟩, 55), (⟨"DryPlacesModel", "findsParts", "(IZ)V"⟩, 55), (⟨"DryPlacesModel", "isBeside", "(II)Z"⟩, 55), (⟨"DryPlacesModel", "apart", "(II)I"⟩, 55), (⟨"DryPlacesModel", "holesOf", "(I)I"⟩, 55), (⟨"DryPlacesModel", "comesOut", "(I)Z"⟩, 55), (⟨"DryPlacesModel", "isAtEdge", "(I)Z"⟩, 55), (⟨"DryPlacesModel", "depthOf", "(I)I"⟩, 55), (⟨"DryPlacesModel", "takesOwn", "(I)V"⟩, 55), (⟨"DryPlacesModel", "isOwnLeft", "()Z"⟩, 55), (⟨"DryPlacesModel", "shrinks", "()V"⟩, 55), (⟨"DryPlacesModel", "pushes", "()V"⟩, 55)]
theorem lw_r8 : ∀ q ∈ lw_privs_8, lw_okq q := List.forall_mem_cons.mpr ⟨lw_p112, List.forall_mem_cons.mpr ⟨lw_p113, List.forall_mem_cons.mpr ⟨lw_p114, List.forall_mem_cons.mpr ⟨lw_p115, List.forall_mem_cons.mpr ⟨lw_p116, List.forall_mem_cons.mpr ⟨lw_p117, List.forall_mem_cons.mpr ⟨lw_p118, List.forall_mem_cons.mpr ⟨lw_p119, List.forall_mem_cons.mpr ⟨lw_p120, List.forall_mem_cons.mpr ⟨lw_p121, List.forall_mem_cons.mpr ⟨lw_p122, List.forall_mem_cons.mpr ⟨lw_p123, List.forall_mem_cons.mpr ⟨lw_p124, List.forall_mem_cons.mpr ⟨lw_p125, List.forall_mem_cons.mpr ⟨lw_p126, List.forall_mem_cons.mpr ⟨lw_p127, fun _ h => absurd h List.not_mem_nil⟩⟩⟩⟩⟩⟩⟩⟩⟩⟩⟩⟩⟩⟩⟩⟩
theorem lw_p128 : lw_okq (⟨"DryPlacesModel", "mirrors", "()V"⟩, 55) := ⟨⟨by decide +kernel, by decide +kernel⟩, List.mem_of_getElem? (i := 1106) (by decide +kernel), List.mem_of_getElem? (i := 1701) (by decide +kernel), List.mem_of_getElem? (i := 1702) (by decide +kernel)⟩
theorem lw_p129 : lw_okq (⟨"DryPlacesModel", "turnsRight", "()V"⟩, 55) := ⟨⟨by decide +kernel, by decide +kernel⟩, List.mem_of_getElem? (i := 1106) (by decide +kernel), List.mem_of_getElem? (i := 1705) (by decide +kernel), List.mem_of_getElem? (i := 1706) (by decide +kernel)⟩
theorem lw_p130 : lw_okq (⟨"DryPlacesModel", "isAim", "()Z"⟩, 55) := ⟨⟨by decide +kernel, by decide +kernel⟩, List.mem_of_getElem? (i := 1106) (by decide +kernel), List.mem_of_getElem? (i := 1709) (by decide +kernel), List.mem_of_getElem? (i := 1710) (by decide +kernel)⟩
theorem lw_p131 : lw_okq (⟨"DryPlacesModel", "firstSquare", "(II)I"⟩, 55) := ⟨⟨by decide +kernel, by decide +kernel⟩, List.mem_of_getElem? (i := 1106) (by decide +kernel), List.mem_of_getElem? (i := 1717) (by decide +kernel), List.mem_of_getElem? (i := 1718) (by decide +kernel)⟩
theorem lw_p132 : lw_okq (⟨"DryPlacesModel", "isSquare", "(III)Z"⟩, 55) := ⟨⟨by decide +kernel, by decide +kernel⟩, List.mem_of_getElem? (i := 1106) (by decide +kernel), List.mem_of_getElem? (i := 1721) (by decide +kernel), List.mem_of_getElem? (i := 1722) (by decide +kernel)⟩
theorem lw_p133 : lw_okq (⟨"DryPlacesModel", "restOf", "(II)I"⟩, 55) := ⟨⟨by decide +kernel, by decide +kernel⟩, List.mem_of_getElem? (i := 1106) (by decide +kernel), List.mem_of_getElem? (i := 1725) (by decide +kernel), List.mem_of_getElem? (i := 1726) (by decide +kernel)⟩
theorem lw_p134 : lw_okq (⟨"DryPlacesModel", "firstRound", "(II)I"⟩, 55) := ⟨⟨by decide +kernel, by decide +kernel⟩, List.mem_of_getElem? (i := 1106) (by decide +kernel), List.mem_of_getElem? (i := 1729) (by decide +kernel), List.mem_of_getElem? (i := 1730) (by decide +kernel)⟩
theorem lw_p135 : lw_okq (⟨"DryPlacesModel", "isRound", "(III)Z"⟩, 55) := ⟨⟨by decide +kernel, by decide +kernel⟩, List.mem_of_getElem? (i := 1106) (by decide +kernel), List.mem_of_getElem? (i := 1733) (by decide +kernel), List.mem_of_getElem? (i := 1734) (by decide +kernel)⟩
theorem lw_p136 : lw_okq (⟨"DryPlacesModel", "couplesBy", "(IIII)I"⟩, 55) := ⟨⟨by decide +kernel, by decide +kernel⟩, List.mem_of_getElem? (i := 1106) (by decide +kernel), List.mem_of_getElem? (i := 1741) (by decide +kernel), List.mem_of_getElem? (i := 1742) (by decide +kernel)⟩
theorem lw_p137 : lw_okq (⟨"DryPlacesModel", "pushedRow", "(IIII)I"⟩, 55) := ⟨⟨by decide +kernel, by decide +kernel⟩, List.mem_of_getElem? (i := 1106) (by decide +kernel), List.mem_of_getElem? (i := 1745) (by decide +kernel), List.mem_of_getElem? (i := 1746) (by decide +kernel)⟩
theorem lw_p138 : lw_okq (⟨"DryPlacesModel", "greater", "(II)I"⟩, 55) := ⟨⟨by decide +kernel, by decide +kernel⟩, List.mem_of_getElem? (i := 1106) (by decide +kernel), List.mem_of_getElem? (i := 1749) (by decide +kernel), List.mem_of_getElem? (i := 1750) (by decide +kernel)⟩
theorem lw_p139 : lw_okq (⟨"DryPlacesModel", "stepsBy", "(III)I"⟩, 55) := ⟨⟨by decide +kernel, by decide +kernel⟩, List.mem_of_getElem? (i := 1106) (by decide +kernel), List.mem_of_getElem? (i := 1757) (by decide +kernel), List.mem_of_getElem? (i := 1758) (by decide +kernel)⟩
theorem lw_p140 : lw_okq (⟨"DryPlacesModel", "turnsBy", "(III)I"⟩, 55) := ⟨⟨by decide +kernel, by decide +kernel⟩, List.mem_of_getElem? (i := 1106) (by decide +kernel), List.mem_of_getElem? (i := 1762) (by decide +kernel), List.mem_of_getElem? (i := 1763) (by decide +kernel)⟩
theorem lw_p141 : lw_okq (⟨"DryPlacesModel", "comesTo", "(II)Z"⟩, 55) := ⟨⟨by decide +kernel, by decide +kernel⟩, List.mem_of_getElem? (i := 1106) (by decide +kernel), List.mem_of_getElem? (i := 1766) (by decide +kernel), List.mem_of_getElem? (i := 1767) (by decide +kernel)⟩
theorem lw_p142 : lw_okq (⟨"DryPlacesModel", "beside", "(II)I"⟩, 55) := ⟨⟨by decide +kernel, by decide +kernel⟩, List.mem_of_getElem? (i := 1106) (by decide +kernel), List.mem_of_getElem? (i := 1770) (by decide +kernel), List.mem_of_getElem? (i := 1771) (by decide +kernel)⟩
theorem lw_p143 : lw_okq (⟨"DryPlacesModel", "sumOf", "(II)I"⟩, 55) := ⟨⟨by decide +kernel, by decide +kernel⟩, List.mem_of_getElem? (i := 1106) (by decide +kernel), List.mem_of_getElem? (i := 1778) (by decide +kernel), List.mem_of_getElem? (i := 1779) (by decide +kernel)⟩
def lw_privs_9 : List (MethodName × Nat) := [(⟨"DryPlacesModel", "mirrors", "()V"⟩, 55), (⟨"DryPlacesModel", "turnsRight", "()V"⟩, 55), (⟨"DryPlacesModel", "isAim", "()Z"⟩, 55), (⟨"DryPlacesModel", "firstSquare", "(II)I"⟩, 55), (⟨"DryPlacesModel", "isSquare", "(III)Z"⟩, 55), (⟨"DryPlacesModel", "restOf", "(II)I"⟩, 55), (⟨"DryPlacesModel", "firstRound", "(II)I"⟩, 55), (⟨"DryPlacesModel", "isRound", "(III)Z"⟩, 55), (⟨"DryPlacesModel", "couplesBy", "(IIII)I"⟩, 55), (⟨"DryPlacesModel", "pushedRow", "(IIII)I"⟩, 55), (⟨"DryPlacesModel", "greater", "(II)I"⟩, 55), (⟨"DryPlacesModel", "stepsBy", "(III)I"⟩, 55), (⟨"DryPlacesModel", "turnsBy", "(III)I"⟩, 55), (⟨"DryPlacesModel", "comesTo", "(II)Z"⟩, 55), (⟨"DryPlacesModel", "beside", "(II)I"⟩, 55), (⟨"DryPlacesModel", "sumOf", "(II)I"⟩, 55)]
theorem lw_r9 : ∀ q ∈ lw_privs_9, lw_okq q := List.forall_mem_cons.mpr ⟨lw_p128, List.forall_mem_cons.mpr ⟨lw_p129, List.forall_mem_cons.mpr ⟨lw_p130, List.forall_mem_cons.mpr ⟨lw_p131, List.forall_mem_cons.mpr ⟨lw_p132, List.forall_mem_cons.mpr ⟨lw_p133, List.forall_mem_cons.mpr ⟨lw_p134, List.forall_mem_cons.mpr ⟨lw_p135, List.forall_mem_cons.mpr ⟨lw_p136, List.forall_mem_cons.mpr ⟨lw_p137, List.forall_mem_cons.mpr ⟨lw_p138, List.forall_mem_cons.mpr ⟨lw_p139, List.forall_mem_cons.mpr ⟨lw_p140, List.forall_mem_cons.mpr ⟨lw_p141, List.forall_mem_cons.mpr ⟨lw_p142, List.forall_mem_cons.mpr ⟨lw_p143, fun _ h => absurd h List.not_mem_nil⟩⟩⟩⟩⟩⟩⟩⟩⟩⟩⟩⟩⟩⟩⟩⟩
theorem lw_p144 : lw_okq (⟨"DryPlacesModel", "switchOf", "(I)I"⟩, 55) := ⟨⟨by decide +kernel, by decide +kernel⟩, List.mem_of_getElem? (i := 1106) (by decide +kernel), List.mem_of_getElem? (i := 1782) (by decide +kernel), List.mem_of_getElem? (i := 1783) (by decide +kernel)⟩
theorem lw_p145 : lw_okq (⟨"DryPlacesModel", "areLike", "(II)Z"⟩, 55) := ⟨⟨by decide +kernel, by decide +kernel⟩, List.mem_of_getElem? (i := 1106) (by decide +kernel), List.mem_of_getElem? (i := 1786) (by decide +kernel), List.mem_of_getElem? (i := 1787) (by decide +kernel)⟩
theorem lw_p146 : lw_okq (⟨"DryPlacesModel", "ownedSet", "()I"⟩, 55) := ⟨⟨by decide +kernel, by decide +kernel⟩, List.mem_of_getElem? (i := 1106) (by decide +kernel), List.mem_of_getElem? (i := 1794) (by decide +kernel), List.mem_of_getElem? (i := 1795) (by decide +kernel)⟩
theorem lw_p147 : lw_okq (⟨"DryPlacesModel", "sumOver", "(IZ)I"⟩, 55) := ⟨⟨by decide +kernel, by decide +kernel⟩, List.mem_of_getElem? (i := 1106) (by decide +kernel), List.mem_of_getElem? (i := 1798) (by decide +kernel), List.mem_of_getElem? (i := 1799) (by decide +kernel)⟩
theorem lw_p148 : lw_okq (⟨"DryPlacesModel", "findsWays", "()V"⟩, 55) := ⟨⟨by decide +kernel, by decide +kernel⟩, List.mem_of_getElem? (i := 1106) (by decide +kernel), List.mem_of_getElem? (i := 1806) (by decide +kernel), List.mem_of_getElem? (i := 1807) (by decide +kernel)⟩
theorem lw_p149 : lw_okq (⟨"DryPlacesModel", "leastTo", "(III)I"⟩, 55) := ⟨⟨by decide +kernel, by decide +kernel⟩, List.mem_of_getElem? (i := 1106) (by decide +kernel), List.mem_of_getElem? (i := 1810) (by decide +kernel), List.mem_of_getElem? (i := 1811) (by decide +kernel)⟩
theorem lw_p150 : lw_okq (⟨"DryPlacesModel", "vouchersOf", "(I)I"⟩, 55) := ⟨⟨by decide +kernel, by decide +kernel⟩, List.mem_of_getElem? (i := 1106) (by decide +kernel), List.mem_of_getElem? (i := 1818) (by decide +kernel), List.mem_of_getElem? (i := 1819) (by decide +kernel)⟩
theorem lw_p151 : lw_okq (⟨"DryPlacesModel", "isLie", "(II)Z"⟩, 55) := ⟨⟨by decide +kernel, by decide +kernel⟩, List.mem_of_getElem? (i := 1106) (by decide +kernel), List.mem_of_getElem? (i := 1826) (by decide +kernel), List.mem_of_getElem? (i := 1827) (by decide +kernel)⟩
theorem lw_p152 : lw_okq (⟨"DryPlacesModel", "keeps", "(I)I"⟩, 55) := ⟨⟨by decide +kernel, by decide +kernel⟩, List.mem_of_getElem? (i := 1106) (by decide +kernel), List.mem_of_getElem? (i := 1842) (by decide +kernel), List.mem_of_getElem? (i := 1843) (by decide +kernel)⟩
theorem lw_p153 : lw_okq (⟨"DryPlacesModel", "keepsTold", "()V"⟩, 55) := ⟨⟨by decide +kernel, by decide +kernel⟩, List.mem_of_getElem? (i := 1106) (by decide +kernel), List.mem_of_getElem? (i := 1846) (by decide +kernel), List.mem_of_getElem? (i := 1847) (by decide +kernel)⟩
theorem lw_p154 : lw_okq (⟨"DryPlacesModel", "keepsLaw", "()V"⟩, 55) := ⟨⟨by decide +kernel, by decide +kernel⟩, List.mem_of_getElem? (i := 1106) (by decide +kernel), List.mem_of_getElem? (i := 1850) (by decide +kernel), List.mem_of_getElem? (i := 1851) (by decide +kernel)⟩
def lw_privs_10 : List (MethodName × Nat) := [(⟨"DryPlacesModel", "switchOf", "(I)I"⟩, 55), (⟨"DryPlacesModel", "areLike", "(II)Z"⟩, 55), (⟨"DryPlacesModel", "ownedSet", "()I"⟩, 55), (⟨"DryPlacesModel", "sumOver", "(IZ)I"⟩, 55), (⟨"DryPlacesModel", "findsWays", "()V"⟩, 55), (⟨"DryPlacesModel", "leastTo", "(III)I"⟩, 55), (⟨"DryPlacesModel", "vouchersOf", "(I)I"⟩, 55), (⟨"DryPlacesModel", "isLie", "(II)Z"⟩, 55), (⟨"DryPlacesModel", "keeps", "(I)I"⟩, 55), (⟨"DryPlacesModel", "keepsTold", "()V"⟩, 55), (⟨"DryPlacesModel", "keepsLaw", "()V"⟩, 55)]
theorem lw_r10 : ∀ q ∈ lw_privs_10, lw_okq q := List.forall_mem_cons.mpr ⟨lw_p144, List.forall_mem_cons.mpr ⟨lw_p145, List.forall_mem_cons.mpr ⟨lw_p146, List.forall_mem_cons.mpr ⟨lw_p147, List.forall_mem_cons.mpr ⟨lw_p148, List.forall_mem_cons.mpr ⟨lw_p149, List.forall_mem_cons.mpr ⟨lw_p150, List.forall_mem_cons.mpr ⟨lw_p151, List.forall_mem_cons.mpr ⟨lw_p152, List.forall_mem_cons.mpr ⟨lw_p153, List.forall_mem_cons.mpr ⟨lw_p154, fun _ h => absurd h List.not_mem_nil⟩⟩⟩⟩⟩⟩⟩⟩⟩⟩⟩
def lw_privs : List (MethodName × Nat) := lw_privs_1 ++ (lw_privs_2 ++ (lw_privs_3 ++ (lw_privs_4 ++ (lw_privs_5 ++ (lw_privs_6 ++ (lw_privs_7 ++ (lw_privs_8 ++ (lw_privs_9 ++ (lw_privs_10)))))))))
def lw_tbl : List Cond := k2_sels lw_privs ++ tables_1
theorem lw_privs_ok : ∀ q ∈ lw_privs, lw_okq q := by
  show ∀ q ∈ lw_privs_1 ++ (lw_privs_2 ++ (lw_privs_3 ++ (lw_privs_4 ++ (lw_privs_5 ++ (lw_privs_6 ++ (lw_privs_7 ++ (lw_privs_8 ++ (lw_privs_9 ++ (lw_privs_10))))))))), lw_okq q
  exact List.forall_mem_append.mpr ⟨lw_r1, List.forall_mem_append.mpr ⟨lw_r2, List.forall_mem_append.mpr ⟨lw_r3, List.forall_mem_append.mpr ⟨lw_r4, List.forall_mem_append.mpr ⟨lw_r5, List.forall_mem_append.mpr ⟨lw_r6, List.forall_mem_append.mpr ⟨lw_r7, List.forall_mem_append.mpr ⟨lw_r8, List.forall_mem_append.mpr ⟨lw_r9, lw_r10⟩⟩⟩⟩⟩⟩⟩⟩⟩
-- ===== end of PART A; then your names; then what follows =====
/-! THE CLAIM OUT OF ONE WALK OF THE LAW'S BODY. Your part is whole_start (and what it stands on); all else here is the same for every law, but numbers. -/
def R_law : String := "DryPlacesLaw"
def lw_P (b : Addr) (xs : List Int32) (args : Array Value) (s : State) : Prop := args = #[.ref b] ∧ s.IntsAt b xs ∧ xs.length ≤ 3072 ∧ (Jvm.Cond.and given_1 narrow_1).before args s = true
def lw_Q (_ : Array Value) (s : State) (o : Outcome) (t : State) : Prop := o = .returned (some (.int 1)) ∧ Framed s o t [] 600000 7302250
def lw_Z (below : List Frame) (a : Array Value) (s : State) : State → Prop := fun t => ∃ o, t.status = .running ∧ Ended t below o ∧ lw_Q a s o t
/-- the law's own end, with 1 on the stack, nothing written that was there before, its room as the claim has it -/
theorem lw_ret {p : Program} {l : Launch} {e : Env} {s : State} {m : MethodId} {below : List Frame} {meth : Method} {c : Code} {b : Nat} (hx : p.tables.exec = Jvm.exec) (hb : c.code = code) (hr : meth.sig.returnType = ret) (hlocks : meth.locks = false) {pc : Nat} {H : Heap} {ls : Array Slot} (hdg : decode code pc = .ok (.ireturn, 1)) : W p l e room_1 s m #[Value.ref b] below meth c H [] 600000 7302250 (lw_Z below #[Value.ref b] s) (F0 m pc ls [.int 1]) := by
  intro T hT X
  obtain ⟨fs, hret, hrun, hended, hW, hframe⟩ := X.leave (v := some (.int 1)) (hlocks := hlocks) (fun h => by rw [hr] at h; cases h)
  have hmeth' : T.vm.method? m = some meth := X.method'
  refine ⟨T.setFrames fs, ?_, .returned (some (.int 1)), hrun, hended, rfl, ⟨_, rfl⟩, hW, hframe⟩
  jvm_step X.here [X.here.top, hx, hb, hdg, hmeth', hr, ret, narrow_b1]
  (try refine ⟨rfl, ?_⟩); (try refine ⟨rfl, ?_⟩)
  first | (intro acts; rw [hret _ acts rfl rfl rfl]) | rw [hret _ _ rfl rfl rfl]
  exact Steps.refl _
/-- what holds at the law's entry: the machine, the code, the tables' words (any of lw_tbl by 'hts w (by decide +kernel)'), the script of L ints xs at the cell b, what the Statement gives of the start (any of its parts by flat_of_before) -/
def lw_At (p : Program) (s : State) (m : MethodId) (meth : Method) (c : Code) (b L : Nat) (xs : Nat → Int32) : Prop :=
  p.tables.exec = Jvm.exec ∧ c.code = code ∧ meth.sig.returnType = ret ∧ c.maxLocals = 4 ∧ s.vm.findClass R_law = some m.cls ∧ (∀ w ∈ lw_tbl, w.before #[Value.ref b] s = true) ∧ va_X b L xs s s.heap ∧ b < s.heap.size ∧ meth.locks = false ∧ (Jvm.Cond.and given_1 narrow_1).before #[Value.ref b] s = true
end
section
def RX0 : String := "DryPlaces$Ground"
def TX0 : u_T := fun k => match k with
  | _ => ("", "", "", false)
def tyX0 : Nat → FieldType := fun k => match k with
  | _ => .int
abbrev wsX00 : List Cond := u_ws RX0 TX0 0
theorem nmX0 : ∀ a, a < 0 → ∀ b, b < 0 → a ≠ b → (TX0 a).2.1 ≠ (TX0 b).2.1 := by decide +kernel
theorem tyX0_ok : ∀ k, k < 0 → parseFieldDescriptor (TX0 k).2.2.1 = some (tyX0 k) := by decide +kernel
abbrev cX0_isDry : ByteArray := prog_2_method_2_code
def yX0_isDry : MethodName := ⟨RX0, "isDry", "(JI)Z"⟩
abbrev cX0_rowOf : ByteArray := prog_2_method_3_code
def yX0_rowOf : MethodName := ⟨RX0, "rowOf", "(JI)I"⟩
abbrev cX0_withRow : ByteArray := prog_2_method_4_code
def yX0_withRow : MethodName := ⟨RX0, "withRow", "(JII)J"⟩
abbrev cX0_up : ByteArray := prog_2_method_5_code
def yX0_up : MethodName := ⟨RX0, "up", "(J)J"⟩
abbrev cX0_down : ByteArray := prog_2_method_6_code
def yX0_down : MethodName := ⟨RX0, "down", "(J)J"⟩
abbrev cX0_left : ByteArray := prog_2_method_7_code
def yX0_left : MethodName := ⟨RX0, "left", "(J)J"⟩
abbrev cX0_right : ByteArray := prog_2_method_8_code
def yX0_right : MethodName := ⟨RX0, "right", "(J)J"⟩
abbrev cX0_beside : ByteArray := prog_2_method_9_code
def yX0_beside : MethodName := ⟨RX0, "beside", "(J)J"⟩
abbrev cX0_firstOf : ByteArray := prog_2_method_10_code
def yX0_firstOf : MethodName := ⟨RX0, "firstOf", "(J)I"⟩
abbrev cX0_wetBeside : ByteArray := prog_2_method_11_code
def yX0_wetBeside : MethodName := ⟨RX0, "wetBeside", "(JI)I"⟩
abbrev cX0_edges : ByteArray := prog_2_method_12_code
def yX0_edges : MethodName := ⟨RX0, "edges", "(J)I"⟩
abbrev cX0_partOf : ByteArray := prog_2_method_13_code
def yX0_partOf : MethodName := ⟨RX0, "partOf", "(JJ)J"⟩
abbrev cX0_parts : ByteArray := prog_2_method_14_code
def yX0_parts : MethodName := ⟨RX0, "parts", "(J)I"⟩
abbrev cX0_holes : ByteArray := prog_2_method_15_code
def yX0_holes : MethodName := ⟨RX0, "holes", "(J)I"⟩
abbrev cX0_shrunk : ByteArray := prog_2_method_16_code
def yX0_shrunk : MethodName := ⟨RX0, "shrunk", "(JI)J"⟩
abbrev cX0_depth : ByteArray := prog_2_method_17_code
def yX0_depth : MethodName := ⟨RX0, "depth", "(J)I"⟩
abbrev cX0_turnedCell : ByteArray := prog_2_method_18_code
def yX0_turnedCell : MethodName := ⟨RX0, "turnedCell", "(II)I"⟩
abbrev cX0_turnedBy : ByteArray := prog_2_method_19_code
def yX0_turnedBy : MethodName := ⟨RX0, "turnedBy", "(JI)J"⟩
abbrev cX0_cornered : ByteArray := prog_2_method_20_code
def yX0_cornered : MethodName := ⟨RX0, "cornered", "(J)J"⟩
abbrev cX0_squareCorners : ByteArray := prog_2_method_21_code
def yX0_squareCorners : MethodName := ⟨RX0, "squareCorners", "(JI)J"⟩
abbrev cX0_squareSide : ByteArray := prog_2_method_22_code
def yX0_squareSide : MethodName := ⟨RX0, "squareSide", "(J)I"⟩
abbrev cX0_squaresFrom : ByteArray := prog_2_method_23_code
def yX0_squaresFrom : MethodName := ⟨RX0, "squaresFrom", "(JI)J"⟩
abbrev cX0_pushed : ByteArray := prog_2_method_24_code
def yX0_pushed : MethodName := ⟨RX0, "pushed", "(JII)J"⟩
abbrev cX0_overlap : ByteArray := prog_2_method_25_code
def yX0_overlap : MethodName := ⟨RX0, "overlap", "(JJII)I"⟩
abbrev cX0_couples : ByteArray := prog_2_method_26_code
def yX0_couples : MethodName := ⟨RX0, "couples", "(JJI)I"⟩
abbrev cX0_bestPush : ByteArray := prog_2_method_27_code
def yX0_bestPush : MethodName := ⟨RX0, "bestPush", "(JJ)I"⟩
abbrev cX0_fewestSteps : ByteArray := prog_2_method_28_code
def yX0_fewestSteps : MethodName := ⟨RX0, "fewestSteps", "(JII)I"⟩
abbrev cX0_fewestTurnings : ByteArray := prog_2_method_29_code
def yX0_fewestTurnings : MethodName := ⟨RX0, "fewestTurnings", "(JII)I"⟩
abbrev cX0_straightFrom : ByteArray := prog_2_method_30_code
def yX0_straightFrom : MethodName := ⟨RX0, "straightFrom", "(JJ)J"⟩
abbrev cX0_sumOf : ByteArray := prog_2_method_31_code
def yX0_sumOf : MethodName := ⟨RX0, "sumOf", "(JI)I"⟩
abbrev cX0_hasSameSums : ByteArray := prog_2_method_32_code
def yX0_hasSameSums : MethodName := ⟨RX0, "hasSameSums", "(JJ)Z"⟩
abbrev cX0_firstSwitch : ByteArray := prog_2_method_33_code
def yX0_firstSwitch : MethodName := ⟨RX0, "firstSwitch", "(J)I"⟩
abbrev cX0_switchColumns : ByteArray := prog_2_method_34_code
def yX0_switchColumns : MethodName := ⟨RX0, "switchColumns", "(II)I"⟩
abbrev cX0_isLie : ByteArray := prog_2_method_35_code
def yX0_isLie : MethodName := ⟨RX0, "isLie", "(JII)Z"⟩
abbrev cX0_standings : ByteArray := prog_2_method_36_code
def yX0_standings : MethodName := ⟨RX0, "standings", "(J)I"⟩
abbrev cX0_rightHeels : ByteArray := prog_2_method_37_code
def yX0_rightHeels : MethodName := ⟨RX0, "rightHeels", "(I)J"⟩
def RX1 : String := "DryPlaces$Keeper"
def TX1 : u_T := fun k => match k with
  | 0 => ("DryPlaces$Keeper", "world", "LDryPlaces$World;", true)
  | 1 => ("DryPlaces$Keeper", "texts", "LDryPlaces$Texts;", true)
  | 2 => ("DryPlaces$Keeper", "teller", "LDryPlaces$Teller;", true)
  | 3 => ("DryPlaces$Keeper", "lines", "[I", true)
  | _ => ("DryPlaces$Keeper", "chance", "[I", true)
def tyX1 : Nat → FieldType := fun k => match k with
  | 0 => .object "DryPlaces$World"
  | 1 => .object "DryPlaces$Texts"
  | 2 => .object "DryPlaces$Teller"
  | 3 => .array .int
  | _ => .array .int
abbrev wsX10 : List Cond := u_ws RX1 TX1 5
theorem nmX1 : ∀ a, a < 5 → ∀ b, b < 5 → a ≠ b → (TX1 a).2.1 ≠ (TX1 b).2.1 := by decide +kernel
theorem tyX1_ok : ∀ k, k < 5 → parseFieldDescriptor (TX1 k).2.2.1 = some (tyX1 k) := by decide +kernel
abbrev cX1_init : ByteArray := prog_3_method_1_code
def yX1_init : MethodName := ⟨RX1, "<init>", "(LDryPlaces$World;LDryPlaces$Texts;LDryPlaces$Teller;[I)V"⟩
abbrev cX1_canDo : ByteArray := prog_3_method_2_code
def yX1_canDo : MethodName := ⟨RX1, "canDo", "(III)Z"⟩
abbrev cX1_carryOut : ByteArray := prog_3_method_3_code
def yX1_carryOut : MethodName := ⟨RX1, "carryOut", "(III)V"⟩
abbrev cX1_purchase : ByteArray := prog_3_method_4_code
def yX1_purchase : MethodName := ⟨RX1, "purchase", "(II)V"⟩
abbrev cX1_partWith : ByteArray := prog_3_method_5_code
def yX1_partWith : MethodName := ⟨RX1, "partWith", "(II)V"⟩
abbrev cX1_note : ByteArray := prog_3_method_6_code
def yX1_note : MethodName := ⟨RX1, "note", "(III)V"⟩
abbrev cX1_passDay : ByteArray := prog_3_method_7_code
def yX1_passDay : MethodName := ⟨RX1, "passDay", "()I"⟩
abbrev cX1_keepDiary : ByteArray := prog_3_method_8_code
def yX1_keepDiary : MethodName := ⟨RX1, "keepDiary", "()V"⟩
abbrev cX1_creepIn : ByteArray := prog_3_method_9_code
def yX1_creepIn : MethodName := ⟨RX1, "creepIn", "(I)I"⟩
abbrev cX1_isHit : ByteArray := prog_3_method_10_code
def yX1_isHit : MethodName := ⟨RX1, "isHit", "(I)Z"⟩
abbrev cX1_receive : ByteArray := prog_3_method_11_code
def yX1_receive : MethodName := ⟨RX1, "receive", "(I)V"⟩
def RX2 : String := "DryPlaces$Law"
def TX2 : u_T := fun k => match k with
  | 0 => ("DryPlaces$Law", "lines", "I", false)
  | 1 => ("DryPlaces$Law", "used", "I", false)
  | 2 => ("DryPlaces$Law", "word", "[I", true)
  | 3 => ("DryPlaces$Law", "value", "[I", true)
  | 4 => ("DryPlaces$Law", "when", "[I", true)
  | 5 => ("DryPlaces$Law", "stop", "[I", true)
  | 6 => ("DryPlaces$Law", "op", "[I", true)
  | _ => ("DryPlaces$Law", "arg", "[I", true)
def tyX2 : Nat → FieldType := fun k => match k with
  | 0 => .int
  | 1 => .int
  | 2 => .array .int
  | 3 => .array .int
  | 4 => .array .int
  | 5 => .array .int
  | 6 => .array .int
  | _ => .array .int
abbrev wsX20 : List Cond := u_ws RX2 TX2 8
theorem nmX2 : ∀ a, a < 8 → ∀ b, b < 8 → a ≠ b → (TX2 a).2.1 ≠ (TX2 b).2.1 := by decide +kernel
theorem tyX2_ok : ∀ k, k < 8 → parseFieldDescriptor (TX2 k).2.2.1 = some (tyX2 k) := by decide +kernel
abbrev cX2_init : ByteArray := prog_4_method_1_code
def yX2_init : MethodName := ⟨RX2, "<init>", "()V"⟩
abbrev cX2_clear : ByteArray := prog_4_method_2_code
def yX2_clear : MethodName := ⟨RX2, "clear", "()V"⟩
abbrev cX2_copy : ByteArray := prog_4_method_3_code
def yX2_copy : MethodName := ⟨RX2, "copy", "(LDryPlaces$Law;)V"⟩
abbrev cX2_begin : ByteArray := prog_4_method_4_code
def yX2_begin : MethodName := ⟨RX2, "begin", "(I)V"⟩
abbrev cX2_beginWhen : ByteArray := prog_4_method_5_code
def yX2_beginWhen : MethodName := ⟨RX2, "beginWhen", "()V"⟩
abbrev cX2_finish : ByteArray := prog_4_method_6_code
def yX2_finish : MethodName := ⟨RX2, "finish", "()V"⟩
abbrev cX2_add : ByteArray := prog_4_method_7_code
def yX2_add : MethodName := ⟨RX2, "add", "(II)V"⟩
def RX3 : String := "DryPlaces$Parser"
def TX3 : u_T := fun k => match k with
  | 0 => ("DryPlaces$Parser", "tape", "LDryPlaces$Tape;", true)
  | 1 => ("DryPlaces$Parser", "draft", "LDryPlaces$Texts;", true)
  | 2 => ("DryPlaces$Parser", "fault", "I", false)
  | 3 => ("DryPlaces$Parser", "faultAt", "I", false)
  | 4 => ("DryPlaces$Parser", "places", "I", false)
  | 5 => ("DryPlaces$Parser", "token", "I", false)
  | _ => ("DryPlaces$Parser", "kind", "I", false)
def tyX3 : Nat → FieldType := fun k => match k with
  | 0 => .object "DryPlaces$Tape"
  | 1 => .object "DryPlaces$Texts"
  | 2 => .int
  | 3 => .int
  | 4 => .int
  | 5 => .int
  | _ => .int
abbrev wsX30 : List Cond := u_ws RX3 TX3 7
theorem nmX3 : ∀ a, a < 7 → ∀ b, b < 7 → a ≠ b → (TX3 a).2.1 ≠ (TX3 b).2.1 := by decide +kernel
theorem tyX3_ok : ∀ k, k < 7 → parseFieldDescriptor (TX3 k).2.2.1 = some (tyX3 k) := by decide +kernel
abbrev cX3_init : ByteArray := prog_5_method_1_code
def yX3_init : MethodName := ⟨RX3, "<init>", "(LDryPlaces$Tape;)V"⟩
abbrev cX3_parse : ByteArray := prog_5_method_2_code
def yX3_parse : MethodName := ⟨RX3, "parse", "(II)Z"⟩
abbrev cX3_canBegin : ByteArray := prog_5_method_3_code
def yX3_canBegin : MethodName := ⟨RX3, "canBegin", "(I)Z"⟩
abbrev cX3_refuse : ByteArray := prog_5_method_4_code
def yX3_refuse : MethodName := ⟨RX3, "refuse", "(I)Z"⟩
abbrev cX3_step : ByteArray := prog_5_method_5_code
def yX3_step : MethodName := ⟨RX3, "step", "()V"⟩
abbrev cX3_take : ByteArray := prog_5_method_6_code
def yX3_take : MethodName := ⟨RX3, "take", "(I)Z"⟩
abbrev cX3_takeNumber : ByteArray := prog_5_method_7_code
def yX3_takeNumber : MethodName := ⟨RX3, "takeNumber", "(III)I"⟩
abbrev cX3_takePlace : ByteArray := prog_5_method_8_code
def yX3_takePlace : MethodName := ⟨RX3, "takePlace", "(I)I"⟩
abbrev cX3_takeRoom : ByteArray := prog_5_method_9_code
def yX3_takeRoom : MethodName := ⟨RX3, "takeRoom", "(I)I"⟩
abbrev cX3_readPassage : ByteArray := prog_5_method_10_code
def yX3_readPassage : MethodName := ⟨RX3, "readPassage", "()Z"⟩
abbrev cX3_readVoucher : ByteArray := prog_5_method_11_code
def yX3_readVoucher : MethodName := ⟨RX3, "readVoucher", "()Z"⟩
abbrev cX3_readEntry : ByteArray := prog_5_method_12_code
def yX3_readEntry : MethodName := ⟨RX3, "readEntry", "()Z"⟩
abbrev cX3_actOfWord : ByteArray := prog_5_method_13_code
def yX3_actOfWord : MethodName := ⟨RX3, "actOfWord", "()I"⟩
abbrev cX3_takeDetail : ByteArray := prog_5_method_14_code
def yX3_takeDetail : MethodName := ⟨RX3, "takeDetail", "(I)I"⟩
abbrev cX3_readLaw : ByteArray := prog_5_method_15_code
def yX3_readLaw : MethodName := ⟨RX3, "readLaw", "()Z"⟩
abbrev cX3_readCondition : ByteArray := prog_5_method_16_code
def yX3_readCondition : MethodName := ⟨RX3, "readCondition", "(I)Z"⟩
abbrev cX3_readOne : ByteArray := prog_5_method_17_code
def yX3_readOne : MethodName := ⟨RX3, "readOne", "(I)Z"⟩
abbrev cX3_comparison : ByteArray := prog_5_method_18_code
def yX3_comparison : MethodName := ⟨RX3, "comparison", "()I"⟩
abbrev cX3_readSum : ByteArray := prog_5_method_19_code
def yX3_readSum : MethodName := ⟨RX3, "readSum", "()Z"⟩
abbrev cX3_addWaiting : ByteArray := prog_5_method_20_code
def yX3_addWaiting : MethodName := ⟨RX3, "addWaiting", "(I)V"⟩
abbrev cX3_isReckoning : ByteArray := prog_5_method_21_code
def yX3_isReckoning : MethodName := ⟨RX3, "isReckoning", "()Z"⟩
abbrev cX3_readUnit : ByteArray := prog_5_method_22_code
def yX3_readUnit : MethodName := ⟨RX3, "readUnit", "()Z"⟩
def RX4 : String := "DryPlaces$Past"
def TX4 : u_T := fun k => match k with
  | 0 => ("DryPlaces$Past", "kept", "[LDryPlaces$World;", true)
  | 1 => ("DryPlaces$Past", "first", "I", false)
  | _ => ("DryPlaces$Past", "count", "I", false)
def tyX4 : Nat → FieldType := fun k => match k with
  | 0 => .array (.object "DryPlaces$World")
  | 1 => .int
  | _ => .int
abbrev wsX40 : List Cond := u_ws RX4 TX4 3
theorem nmX4 : ∀ a, a < 3 → ∀ b, b < 3 → a ≠ b → (TX4 a).2.1 ≠ (TX4 b).2.1 := by decide +kernel
theorem tyX4_ok : ∀ k, k < 3 → parseFieldDescriptor (TX4 k).2.2.1 = some (tyX4 k) := by decide +kernel
abbrev cX4_init : ByteArray := prog_6_method_1_code
def yX4_init : MethodName := ⟨RX4, "<init>", "()V"⟩
abbrev cX4_keep : ByteArray := prog_6_method_2_code
def yX4_keep : MethodName := ⟨RX4, "keep", "(LDryPlaces$World;)V"⟩
abbrev cX4_goBack : ByteArray := prog_6_method_3_code
def yX4_goBack : MethodName := ⟨RX4, "goBack", "(LDryPlaces$World;)Z"⟩
abbrev cX4_forget : ByteArray := prog_6_method_4_code
def yX4_forget : MethodName := ⟨RX4, "forget", "()V"⟩
def RX5 : String := "DryPlaces$Tape"
def TX5 : u_T := fun k => match k with
  | 0 => ("DryPlaces$Tape", "sign", "[C", true)
  | 1 => ("DryPlaces$Tape", "kind", "[I", true)
  | 2 => ("DryPlaces$Tape", "value", "[I", true)
  | 3 => ("DryPlaces$Tape", "from", "[I", true)
  | 4 => ("DryPlaces$Tape", "length", "I", false)
  | _ => ("DryPlaces$Tape", "at", "I", false)
def tyX5 : Nat → FieldType := fun k => match k with
  | 0 => .array .char
  | 1 => .array .int
  | 2 => .array .int
  | 3 => .array .int
  | 4 => .int
  | _ => .int
abbrev wsX50 : List Cond := u_ws RX5 TX5 6
theorem nmX5 : ∀ a, a < 6 → ∀ b, b < 6 → a ≠ b → (TX5 a).2.1 ≠ (TX5 b).2.1 := by decide +kernel
theorem tyX5_ok : ∀ k, k < 6 → parseFieldDescriptor (TX5 k).2.2.1 = some (tyX5 k) := by decide +kernel
abbrev cX5_init : ByteArray := prog_7_method_1_code
def yX5_init : MethodName := ⟨RX5, "<init>", "()V"⟩
abbrev cX5_hasSpaceForFive : ByteArray := prog_7_method_2_code
def yX5_hasSpaceForFive : MethodName := ⟨RX5, "hasSpaceForFive", "()Z"⟩
abbrev cX5_append : ByteArray := prog_7_method_3_code
def yX5_append : MethodName := ⟨RX5, "append", "(I)V"⟩
abbrev cX5_cutUp : ByteArray := prog_7_method_4_code
def yX5_cutUp : MethodName := ⟨RX5, "cutUp", "()V"⟩
abbrev cX5_skipBlanks : ByteArray := prog_7_method_5_code
def yX5_skipBlanks : MethodName := ⟨RX5, "skipBlanks", "()V"⟩
abbrev cX5_readWord : ByteArray := prog_7_method_6_code
def yX5_readWord : MethodName := ⟨RX5, "readWord", "(I)V"⟩
abbrev cX5_isWordAt : ByteArray := prog_7_method_7_code
def yX5_isWordAt : MethodName := ⟨RX5, "isWordAt", "(III)Z"⟩
abbrev cX5_readNumber : ByteArray := prog_7_method_8_code
def yX5_readNumber : MethodName := ⟨RX5, "readNumber", "(I)V"⟩
abbrev cX5_isLetter : ByteArray := prog_7_method_9_code
def yX5_isLetter : MethodName := ⟨RX5, "isLetter", "(I)Z"⟩
abbrev cX5_isDigit : ByteArray := prog_7_method_10_code
def yX5_isDigit : MethodName := ⟨RX5, "isDigit", "(I)Z"⟩
def RX6 : String := "DryPlaces$Teller"
def TX6 : u_T := fun k => match k with
  | 0 => ("DryPlaces$Teller", "law", "LDryPlaces$Law;", true)
  | 1 => ("DryPlaces$Teller", "known", "[I", true)
  | _ => ("DryPlaces$Teller", "stack", "[I", true)
def tyX6 : Nat → FieldType := fun k => match k with
  | 0 => .object "DryPlaces$Law"
  | 1 => .array .int
  | _ => .array .int
abbrev wsX60 : List Cond := u_ws RX6 TX6 3
theorem nmX6 : ∀ a, a < 3 → ∀ b, b < 3 → a ≠ b → (TX6 a).2.1 ≠ (TX6 b).2.1 := by decide +kernel
theorem tyX6_ok : ∀ k, k < 3 → parseFieldDescriptor (TX6 k).2.2.1 = some (tyX6 k) := by decide +kernel
abbrev cX6_init : ByteArray := prog_8_method_1_code
def yX6_init : MethodName := ⟨RX6, "<init>", "(LDryPlaces$Law;)V"⟩
abbrev cX6_worthOf : ByteArray := prog_8_method_2_code
def yX6_worthOf : MethodName := ⟨RX6, "worthOf", "(LDryPlaces$World;I)I"⟩
abbrev cX6_comersTo : ByteArray := prog_8_method_3_code
def yX6_comersTo : MethodName := ⟨RX6, "comersTo", "(LDryPlaces$World;I)I"⟩
abbrev cX6_chanceIn : ByteArray := prog_8_method_4_code
def yX6_chanceIn : MethodName := ⟨RX6, "chanceIn", "(LDryPlaces$World;II)I"⟩
abbrev cX6_held : ByteArray := prog_8_method_5_code
def yX6_held : MethodName := ⟨RX6, "held", "(II)I"⟩
abbrev cX6_face : ByteArray := prog_8_method_6_code
def yX6_face : MethodName := ⟨RX6, "face", "(LDryPlaces$World;II)V"⟩
abbrev cX6_ask : ByteArray := prog_8_method_7_code
def yX6_ask : MethodName := ⟨RX6, "ask", "(II)I"⟩
abbrev cX6_run : ByteArray := prog_8_method_8_code
def yX6_run : MethodName := ⟨RX6, "run", "(II)I"⟩
abbrev cX6_changed : ByteArray := prog_8_method_9_code
def yX6_changed : MethodName := ⟨RX6, "changed", "(III)I"⟩
abbrev cX6_joined : ByteArray := prog_8_method_10_code
def yX6_joined : MethodName := ⟨RX6, "joined", "(III)I"⟩
def RX7 : String := "DryPlaces$Texts"
def TX7 : u_T := fun k => match k with
  | 0 => ("DryPlaces$Texts", "law", "LDryPlaces$Law;", true)
  | 1 => ("DryPlaces$Texts", "told", "[I", true)
  | 2 => ("DryPlaces$Texts", "passage", "[I", true)
  | 3 => ("DryPlaces$Texts", "diary", "[I", true)
  | _ => ("DryPlaces$Texts", "vouchers", "[I", true)
def tyX7 : Nat → FieldType := fun k => match k with
  | 0 => .object "DryPlaces$Law"
  | 1 => .array .int
  | 2 => .array .int
  | 3 => .array .int
  | _ => .array .int
abbrev wsX70 : List Cond := u_ws RX7 TX7 5
theorem nmX7 : ∀ a, a < 5 → ∀ b, b < 5 → a ≠ b → (TX7 a).2.1 ≠ (TX7 b).2.1 := by decide +kernel
theorem tyX7_ok : ∀ k, k < 5 → parseFieldDescriptor (TX7 k).2.2.1 = some (tyX7 k) := by decide +kernel
abbrev cX7_init : ByteArray := prog_9_method_1_code
def yX7_init : MethodName := ⟨RX7, "<init>", "()V"⟩
abbrev cX7_count : ByteArray := prog_9_method_2_code
def yX7_count : MethodName := ⟨RX7, "count", "(I)I"⟩
abbrev cX7_clearOne : ByteArray := prog_9_method_3_code
def yX7_clearOne : MethodName := ⟨RX7, "clearOne", "(I)V"⟩
abbrev cX7_copyOne : ByteArray := prog_9_method_4_code
def yX7_copyOne : MethodName := ⟨RX7, "copyOne", "(ILDryPlaces$Texts;)V"⟩
abbrev cX7_copyAll : ByteArray := prog_9_method_5_code
def yX7_copyAll : MethodName := ⟨RX7, "copyAll", "(LDryPlaces$Texts;)V"⟩
abbrev cX7_addPassage : ByteArray := prog_9_method_6_code
def yX7_addPassage : MethodName := ⟨RX7, "addPassage", "(III)V"⟩
abbrev cX7_addVoucher : ByteArray := prog_9_method_7_code
def yX7_addVoucher : MethodName := ⟨RX7, "addVoucher", "(II)V"⟩
abbrev cX7_addEntry : ByteArray := prog_9_method_8_code
def yX7_addEntry : MethodName := ⟨RX7, "addEntry", "(IIII)V"⟩
def RX8 : String := "DryPlaces$Tour"
def TX8 : u_T := fun k => match k with
  | 0 => ("DryPlaces$Tour", "far", "[I", true)
  | _ => ("DryPlaces$Tour", "best", "[I", true)
def tyX8 : Nat → FieldType := fun k => match k with
  | 0 => .array .int
  | _ => .array .int
abbrev wsX80 : List Cond := u_ws RX8 TX8 2
theorem nmX8 : ∀ a, a < 2 → ∀ b, b < 2 → a ≠ b → (TX8 a).2.1 ≠ (TX8 b).2.1 := by decide +kernel
theorem tyX8_ok : ∀ k, k < 2 → parseFieldDescriptor (TX8 k).2.2.1 = some (tyX8 k) := by decide +kernel
abbrev cX8_init : ByteArray := prog_10_method_1_code
def yX8_init : MethodName := ⟨RX8, "<init>", "()V"⟩
abbrev cX8_lastRoom : ByteArray := prog_10_method_2_code
def yX8_lastRoom : MethodName := ⟨RX8, "lastRoom", "([II)I"⟩
abbrev cX8_lengthTo : ByteArray := prog_10_method_3_code
def yX8_lengthTo : MethodName := ⟨RX8, "lengthTo", "(I)I"⟩
abbrev cX8_measure : ByteArray := prog_10_method_4_code
def yX8_measure : MethodName := ⟨RX8, "measure", "([I)V"⟩
abbrev cX8_goOn : ByteArray := prog_10_method_5_code
def yX8_goOn : MethodName := ⟨RX8, "goOn", "(II)V"⟩
def RX9 : String := "DryPlaces$World"
def TX9 : u_T := fun k => match k with
  | 0 => ("DryPlaces$World", "count", "I", false)
  | 1 => ("DryPlaces$World", "owned", "I", false)
  | 2 => ("DryPlaces$World", "hosed", "I", false)
  | 3 => ("DryPlaces$World", "purse", "I", false)
  | 4 => ("DryPlaces$World", "seen", "I", false)
  | 5 => ("DryPlaces$World", "day", "I", false)
  | 6 => ("DryPlaces$World", "draws", "I", false)
  | 7 => ("DryPlaces$World", "written", "I", false)
  | 8 => ("DryPlaces$World", "dry", "[J", true)
  | 9 => ("DryPlaces$World", "year", "[I", true)
  | 10 => ("DryPlaces$World", "hung", "[I", true)
  | 11 => ("DryPlaces$World", "paid", "[I", true)
  | _ => ("DryPlaces$World", "light", "[I", true)
def tyX9 : Nat → FieldType := fun k => match k with
  | 0 => .int
  | 1 => .int
  | 2 => .int
  | 3 => .int
  | 4 => .int
  | 5 => .int
  | 6 => .int
  | 7 => .int
  | 8 => .array .long
  | 9 => .array .int
  | 10 => .array .int
  | 11 => .array .int
  | _ => .array .int
abbrev wsX90 : List Cond := u_ws RX9 TX9 13
theorem nmX9 : ∀ a, a < 13 → ∀ b, b < 13 → a ≠ b → (TX9 a).2.1 ≠ (TX9 b).2.1 := by decide +kernel
theorem tyX9_ok : ∀ k, k < 13 → parseFieldDescriptor (TX9 k).2.2.1 = some (tyX9 k) := by decide +kernel
abbrev cX9_init : ByteArray := prog_11_method_1_code
def yX9_init : MethodName := ⟨RX9, "<init>", "()V"⟩
abbrev cX9_copy : ByteArray := prog_11_method_2_code
def yX9_copy : MethodName := ⟨RX9, "copy", "(LDryPlaces$World;)V"⟩
abbrev cX9_add : ByteArray := prog_11_method_3_code
def yX9_add : MethodName := ⟨RX9, "add", "(I)I"⟩
abbrev cX9_has : ByteArray := prog_11_method_4_code
def yX9_has : MethodName := ⟨RX9, "has", "(I)Z"⟩
abbrev cX9_isOwned : ByteArray := prog_11_method_5_code
def yX9_isOwned : MethodName := ⟨RX9, "isOwned", "(I)Z"⟩
abbrev cX9_isHosed : ByteArray := prog_11_method_6_code
def yX9_isHosed : MethodName := ⟨RX9, "isHosed", "(I)Z"⟩
abbrev cX9_isShown : ByteArray := prog_11_method_7_code
def yX9_isShown : MethodName := ⟨RX9, "isShown", "(I)Z"⟩
abbrev cX9_earn : ByteArray := prog_11_method_8_code
def yX9_earn : MethodName := ⟨RX9, "earn", "(I)V"⟩
abbrev cX9_drawOfThousand : ByteArray := prog_11_method_9_code
def yX9_drawOfThousand : MethodName := ⟨RX9, "drawOfThousand", "()I"⟩
abbrev cX9_dryOf : ByteArray := prog_11_method_10_code
def yX9_dryOf : MethodName := ⟨RX9, "dryOf", "(I)I"⟩
abbrev cX9_dryOfOwned : ByteArray := prog_11_method_11_code
def yX9_dryOfOwned : MethodName := ⟨RX9, "dryOfOwned", "()I"⟩
def RX10 : String := "DryPlaces"
def TX10 : u_T := fun k => match k with
  | 0 => ("DryPlaces", "world", "LDryPlaces$World;", true)
  | 1 => ("DryPlaces", "texts", "LDryPlaces$Texts;", true)
  | 2 => ("DryPlaces", "lines", "[I", true)
  | 3 => ("DryPlaces", "past", "LDryPlaces$Past;", true)
  | 4 => ("DryPlaces", "tape", "LDryPlaces$Tape;", true)
  | 5 => ("DryPlaces", "parser", "LDryPlaces$Parser;", true)
  | 6 => ("DryPlaces", "teller", "LDryPlaces$Teller;", true)
  | 7 => ("DryPlaces", "keeper", "LDryPlaces$Keeper;", true)
  | 8 => ("DryPlaces", "thought", "LDryPlaces$World;", true)
  | 9 => ("DryPlaces", "thinker", "LDryPlaces$Keeper;", true)
  | 10 => ("DryPlaces", "rounds", "LDryPlaces$Tour;", true)
  | 11 => ("DryPlaces", "prices", "[I", true)
  | 12 => ("DryPlaces", "imageWorld", "LDryPlaces$World;", true)
  | 13 => ("DryPlaces", "imageTexts", "LDryPlaces$Texts;", true)
  | 14 => ("DryPlaces", "imageLines", "[I", true)
  | _ => ("DryPlaces", "imageTaken", "Z", false)
def tyX10 : Nat → FieldType := fun k => match k with
  | 0 => .object "DryPlaces$World"
  | 1 => .object "DryPlaces$Texts"
  | 2 => .array .int
  | 3 => .object "DryPlaces$Past"
  | 4 => .object "DryPlaces$Tape"
  | 5 => .object "DryPlaces$Parser"
  | 6 => .object "DryPlaces$Teller"
  | 7 => .object "DryPlaces$Keeper"
  | 8 => .object "DryPlaces$World"
  | 9 => .object "DryPlaces$Keeper"
  | 10 => .object "DryPlaces$Tour"
  | 11 => .array .int
  | 12 => .object "DryPlaces$World"
  | 13 => .object "DryPlaces$Texts"
  | 14 => .array .int
  | _ => .boolean
abbrev wsX100 : List Cond := u_ws RX10 TX10 16
theorem nmX10 : ∀ a, a < 16 → ∀ b, b < 16 → a ≠ b → (TX10 a).2.1 ≠ (TX10 b).2.1 := by decide +kernel
theorem tyX10_ok : ∀ k, k < 16 → parseFieldDescriptor (TX10 k).2.2.1 = some (tyX10 k) := by decide +kernel
abbrev cX10_init : ByteArray := prog_1_method_1_code
def yX10_init : MethodName := ⟨RX10, "<init>", "()V"⟩
abbrev cX10_state : ByteArray := prog_1_method_2_code
def yX10_state : MethodName := ⟨RX10, "state", "(I)I"⟩
abbrev cX10_place : ByteArray := prog_1_method_3_code
def yX10_place : MethodName := ⟨RX10, "place", "(I)I"⟩
abbrev cX10_row : ByteArray := prog_1_method_4_code
def yX10_row : MethodName := ⟨RX10, "row", "(III)Z"⟩
abbrev cX10_purse : ByteArray := prog_1_method_5_code
def yX10_purse : MethodName := ⟨RX10, "purse", "(I)Z"⟩
abbrev cX10_act : ByteArray := prog_1_method_6_code
def yX10_act : MethodName := ⟨RX10, "act", "(III)Z"⟩
abbrev cX10_days : ByteArray := prog_1_method_7_code
def yX10_days : MethodName := ⟨RX10, "days", "(I)I"⟩
abbrev cX10_feed : ByteArray := prog_1_method_8_code
def yX10_feed : MethodName := ⟨RX10, "feed", "(IIIII)I"⟩
abbrev cX10_end : ByteArray := prog_1_method_9_code
def yX10_end : MethodName := ⟨RX10, "end", "(I)Z"⟩
abbrev cX10_text : ByteArray := prog_1_method_10_code
def yX10_text : MethodName := ⟨RX10, "text", "(I)I"⟩
abbrev cX10_fault : ByteArray := prog_1_method_11_code
def yX10_fault : MethodName := ⟨RX10, "fault", "(I)I"⟩
abbrev cX10_of : ByteArray := prog_1_method_12_code
def yX10_of : MethodName := ⟨RX10, "of", "(II)I"⟩
abbrev cX10_creeps : ByteArray := prog_1_method_13_code
def yX10_creeps : MethodName := ⟨RX10, "creeps", "(II)I"⟩
abbrev cX10_room : ByteArray := prog_1_method_14_code
def yX10_room : MethodName := ⟨RX10, "room", "(II)I"⟩
abbrev cX10_book : ByteArray := prog_1_method_15_code
def yX10_book : MethodName := ⟨RX10, "book", "(II)I"⟩
abbrev cX10_goes : ByteArray := prog_1_method_16_code
def yX10_goes : MethodName := ⟨RX10, "goes", "(II)I"⟩
abbrev cX10_shape : ByteArray := prog_1_method_17_code
def yX10_shape : MethodName := ⟨RX10, "shape", "(II)I"⟩
abbrev cX10_turned : ByteArray := prog_1_method_18_code
def yX10_turned : MethodName := ⟨RX10, "turned", "(II)I"⟩
abbrev cX10_square : ByteArray := prog_1_method_19_code
def yX10_square : MethodName := ⟨RX10, "square", "(II)I"⟩
abbrev cX10_fit : ByteArray := prog_1_method_20_code
def yX10_fit : MethodName := ⟨RX10, "fit", "(III)I"⟩
abbrev cX10_walk : ByteArray := prog_1_method_21_code
def yX10_walk : MethodName := ⟨RX10, "walk", "(IIII)I"⟩
abbrev cX10_sums : ByteArray := prog_1_method_22_code
def yX10_sums : MethodName := ⟨RX10, "sums", "(II)I"⟩
abbrev cX10_buys : ByteArray := prog_1_method_23_code
def yX10_buys : MethodName := ⟨RX10, "buys", "(II)I"⟩
abbrev cX10_tour : ByteArray := prog_1_method_24_code
def yX10_tour : MethodName := ⟨RX10, "tour", "(II)I"⟩
abbrev cX10_vouched : ByteArray := prog_1_method_25_code
def yX10_vouched : MethodName := ⟨RX10, "vouched", "(I)I"⟩
abbrev cX10_lie : ByteArray := prog_1_method_26_code
def yX10_lie : MethodName := ⟨RX10, "lie", "(III)I"⟩
abbrev cX10_feet : ByteArray := prog_1_method_27_code
def yX10_feet : MethodName := ⟨RX10, "feet", "(I)I"⟩
abbrev cX10_game : ByteArray := prog_1_method_28_code
def yX10_game : MethodName := ⟨RX10, "game", "(I)I"⟩
abbrev cX10_undo : ByteArray := prog_1_method_29_code
def yX10_undo : MethodName := ⟨RX10, "undo", "()Z"⟩
abbrev cX10_image : ByteArray := prog_1_method_30_code
def yX10_image : MethodName := ⟨RX10, "image", "(Z)Z"⟩
abbrev cX10_look : ByteArray := prog_1_method_31_code
def yX10_look : MethodName := ⟨RX10, "look", "(I)I"⟩
abbrev cX10_isWithin : ByteArray := prog_1_method_32_code
def yX10_isWithin : MethodName := ⟨RX10, "isWithin", "(III)Z"⟩
abbrev cX10_isCell : ByteArray := prog_1_method_33_code
def yX10_isCell : MethodName := ⟨RX10, "isCell", "(I)Z"⟩
abbrev cX10_isRoom : ByteArray := prog_1_method_34_code
def yX10_isRoom : MethodName := ⟨RX10, "isRoom", "(I)Z"⟩
abbrev cX10_priceOf : ByteArray := prog_1_method_35_code
def yX10_priceOf : MethodName := ⟨RX10, "priceOf", "(I)I"⟩
abbrev cX10_vouchersOfAll : ByteArray := prog_1_method_36_code
def yX10_vouchersOfAll : MethodName := ⟨RX10, "vouchersOfAll", "(I)I"⟩
abbrev cX10_heapOf : ByteArray := prog_1_method_37_code
def yX10_heapOf : MethodName := ⟨RX10, "heapOf", "(I)I"⟩
abbrev cX10_winningTake : ByteArray := prog_1_method_38_code
def yX10_winningTake : MethodName := ⟨RX10, "winningTake", "(II)I"⟩
def RX11 : String := "DryPlacesModel"
def TX11 : u_T := fun k => match k with
  | 0 => ("DryPlacesModel", "told", "I", false)
  | 1 => ("DryPlacesModel", "now", "[I", true)
  | 2 => ("DryPlacesModel", "rows", "[I", true)
  | 3 => ("DryPlacesModel", "undoable", "I", false)
  | 4 => ("DryPlacesModel", "waiting", "[I", true)
  | 5 => ("DryPlacesModel", "isThought", "Z", false)
  | 6 => ("DryPlacesModel", "places", "I", false)
  | 7 => ("DryPlacesModel", "year", "[I", true)
  | 8 => ("DryPlacesModel", "book", "[I", true)
  | 9 => ("DryPlacesModel", "tape", "[I", true)
  | 10 => ("DryPlacesModel", "taped", "I", false)
  | 11 => ("DryPlacesModel", "spot", "I", false)
  | 12 => ("DryPlacesModel", "from", "I", false)
  | 13 => ("DryPlacesModel", "token", "I", false)
  | 14 => ("DryPlacesModel", "value", "I", false)
  | 15 => ("DryPlacesModel", "words", "[I", true)
  | 16 => ("DryPlacesModel", "lineMany", "[I", true)
  | 17 => ("DryPlacesModel", "lineWord", "[I", true)
  | 18 => ("DryPlacesModel", "lineFrom", "[I", true)
  | 19 => ("DryPlacesModel", "lineWhen", "[I", true)
  | 20 => ("DryPlacesModel", "lineTo", "[I", true)
  | 21 => ("DryPlacesModel", "op", "[I", true)
  | 22 => ("DryPlacesModel", "arg", "[I", true)
  | 23 => ("DryPlacesModel", "which", "I", false)
  | 24 => ("DryPlacesModel", "codes", "I", false)
  | 25 => ("DryPlacesModel", "open", "I", false)
  | 26 => ("DryPlacesModel", "pending", "[I", true)
  | 27 => ("DryPlacesModel", "pendings", "I", false)
  | 28 => ("DryPlacesModel", "readFault", "I", false)
  | 29 => ("DryPlacesModel", "readPlace", "I", false)
  | 30 => ("DryPlacesModel", "faultKind", "I", false)
  | 31 => ("DryPlacesModel", "faultPlace", "I", false)
  | 32 => ("DryPlacesModel", "passageMany", "I", false)
  | 33 => ("DryPlacesModel", "passages", "[I", true)
  | 34 => ("DryPlacesModel", "deedMany", "I", false)
  | 35 => ("DryPlacesModel", "deeds", "[I", true)
  | 36 => ("DryPlacesModel", "vouchMany", "I", false)
  | 37 => ("DryPlacesModel", "vouches", "[I", true)
  | 38 => ("DryPlacesModel", "asked", "[I", true)
  | 39 => ("DryPlacesModel", "stack", "[I", true)
  | 40 => ("DryPlacesModel", "crept", "[I", true)
  | 41 => ("DryPlacesModel", "marks", "[I", true)
  | 42 => ("DryPlacesModel", "own", "[I", true)
  | 43 => ("DryPlacesModel", "other", "[I", true)
  | 44 => ("DryPlacesModel", "aim", "[I", true)
  | 45 => ("DryPlacesModel", "stepsTo", "[I", true)
  | 46 => ("DryPlacesModel", "turnsTo", "[I", true)
  | 47 => ("DryPlacesModel", "worths", "[I", true)
  | 48 => ("DryPlacesModel", "dries", "[I", true)
  | 49 => ("DryPlacesModel", "ways", "[I", true)
  | 50 => ("DryPlacesModel", "toured", "[I", true)
  | 51 => ("DryPlacesModel", "isTaking", "Z", false)
  | 52 => ("DryPlacesModel", "hasImage", "Z", false)
  | 53 => ("DryPlacesModel", "keptAt", "I", false)
  | _ => ("DryPlacesModel", "images", "[I", true)
def tyX11 : Nat → FieldType := fun k => match k with
  | 0 => .int
  | 1 => .array .int
  | 2 => .array .int
  | 3 => .int
  | 4 => .array .int
  | 5 => .boolean
  | 6 => .int
  | 7 => .array .int
  | 8 => .array .int
  | 9 => .array .int
  | 10 => .int
  | 11 => .int
  | 12 => .int
  | 13 => .int
  | 14 => .int
  | 15 => .array .int
  | 16 => .array .int
  | 17 => .array .int
  | 18 => .array .int
  | 19 => .array .int
  | 20 => .array .int
  | 21 => .array .int
  | 22 => .array .int
  | 23 => .int
  | 24 => .int
  | 25 => .int
  | 26 => .array .int
  | 27 => .int
  | 28 => .int
  | 29 => .int
  | 30 => .int
  | 31 => .int
  | 32 => .int
  | 33 => .array .int
  | 34 => .int
  | 35 => .array .int
  | 36 => .int
  | 37 => .array .int
  | 38 => .array .int
  | 39 => .array .int
  | 40 => .array .int
  | 41 => .array .int
  | 42 => .array .int
  | 43 => .array .int
  | 44 => .array .int
  | 45 => .array .int
  | 46 => .array .int
  | 47 => .array .int
  | 48 => .array .int
  | 49 => .array .int
  | 50 => .array .int
  | 51 => .boolean
  | 52 => .boolean
  | 53 => .int
  | _ => .array .int
abbrev wsX110 : List Cond := u_ws RX11 TX11 55
theorem nmX11 : ∀ a, a < 55 → ∀ b, b < 55 → a ≠ b → (TX11 a).2.1 ≠ (TX11 b).2.1 := by decide +kernel
theorem tyX11_ok : ∀ k, k < 55 → parseFieldDescriptor (TX11 k).2.2.1 = some (tyX11 k) := by decide +kernel
abbrev cX11_init : ByteArray := prog_13_method_1_code
def yX11_init : MethodName := ⟨RX11, "<init>", "()V"⟩
abbrev cX11_isIn : ByteArray := prog_13_method_3_code
def yX11_isIn : MethodName := ⟨RX11, "isIn", "(III)Z"⟩
abbrev cX11_held : ByteArray := prog_13_method_4_code
def yX11_held : MethodName := ⟨RX11, "held", "(III)I"⟩
abbrev cX11_greater : ByteArray := prog_13_method_5_code
def yX11_greater : MethodName := ⟨RX11, "greater", "(II)I"⟩
abbrev cX11_lesser : ByteArray := prog_13_method_6_code
def yX11_lesser : MethodName := ⟨RX11, "lesser", "(II)I"⟩
abbrev cX11_apart : ByteArray := prog_13_method_7_code
def yX11_apart : MethodName := ⟨RX11, "apart", "(II)I"⟩
abbrev cX11_onesOf : ByteArray := prog_13_method_8_code
def yX11_onesOf : MethodName := ⟨RX11, "onesOf", "(I)I"⟩
abbrev cX11_has : ByteArray := prog_13_method_9_code
def yX11_has : MethodName := ⟨RX11, "has", "(II)Z"⟩
abbrev cX11_keepsAhead : ByteArray := prog_13_method_10_code
def yX11_keepsAhead : MethodName := ⟨RX11, "keepsAhead", "()V"⟩
abbrev cX11_undo : ByteArray := prog_13_method_11_code
def yX11_undo : MethodName := ⟨RX11, "undo", "()Z"⟩
abbrev cX11_thinks : ByteArray := prog_13_method_12_code
def yX11_thinks : MethodName := ⟨RX11, "thinks", "()V"⟩
abbrev cX11_endsThought : ByteArray := prog_13_method_13_code
def yX11_endsThought : MethodName := ⟨RX11, "endsThought", "()V"⟩
abbrev cX11_state : ByteArray := prog_13_method_14_code
def yX11_state : MethodName := ⟨RX11, "state", "(I)I"⟩
abbrev cX11_draw : ByteArray := prog_13_method_15_code
def yX11_draw : MethodName := ⟨RX11, "draw", "(I)I"⟩
abbrev cX11_isPlace : ByteArray := prog_13_method_16_code
def yX11_isPlace : MethodName := ⟨RX11, "isPlace", "(I)Z"⟩
abbrev cX11_isCell : ByteArray := prog_13_method_17_code
def yX11_isCell : MethodName := ⟨RX11, "isCell", "(I)Z"⟩
abbrev cX11_rowAt : ByteArray := prog_13_method_18_code
def yX11_rowAt : MethodName := ⟨RX11, "rowAt", "(II)I"⟩
abbrev cX11_isDry : ByteArray := prog_13_method_19_code
def yX11_isDry : MethodName := ⟨RX11, "isDry", "(III)Z"⟩
abbrev cX11_isDryCell : ByteArray := prog_13_method_20_code
def yX11_isDryCell : MethodName := ⟨RX11, "isDryCell", "(II)Z"⟩
abbrev cX11_wetBeside : ByteArray := prog_13_method_21_code
def yX11_wetBeside : MethodName := ⟨RX11, "wetBeside", "(II)I"⟩
abbrev cX11_dryOf : ByteArray := prog_13_method_22_code
def yX11_dryOf : MethodName := ⟨RX11, "dryOf", "(I)I"⟩
abbrev cX11_edgesOf : ByteArray := prog_13_method_23_code
def yX11_edgesOf : MethodName := ⟨RX11, "edgesOf", "(I)I"⟩
abbrev cX11_place : ByteArray := prog_13_method_24_code
def yX11_place : MethodName := ⟨RX11, "place", "(I)I"⟩
abbrev cX11_row : ByteArray := prog_13_method_25_code
def yX11_row : MethodName := ⟨RX11, "row", "(III)Z"⟩
abbrev cX11_purse : ByteArray := prog_13_method_26_code
def yX11_purse : MethodName := ⟨RX11, "purse", "(I)Z"⟩
abbrev cX11_types : ByteArray := prog_13_method_27_code
def yX11_types : MethodName := ⟨RX11, "types", "(I)V"⟩
abbrev cX11_feed : ByteArray := prog_13_method_28_code
def yX11_feed : MethodName := ⟨RX11, "feed", "(IIIII)I"⟩
abbrev cX11_end : ByteArray := prog_13_method_29_code
def yX11_end : MethodName := ⟨RX11, "end", "(I)Z"⟩
abbrev cX11_raw : ByteArray := prog_13_method_30_code
def yX11_raw : MethodName := ⟨RX11, "raw", "(I)I"⟩
abbrev cX11_isLetter : ByteArray := prog_13_method_31_code
def yX11_isLetter : MethodName := ⟨RX11, "isLetter", "(I)Z"⟩
abbrev cX11_isDigit : ByteArray := prog_13_method_32_code
def yX11_isDigit : MethodName := ⟨RX11, "isDigit", "(I)Z"⟩
abbrev cX11_isMarkSign : ByteArray := prog_13_method_33_code
def yX11_isMarkSign : MethodName := ⟨RX11, "isMarkSign", "(I)Z"⟩
abbrev cX11_wordAt : ByteArray := prog_13_method_34_code
def yX11_wordAt : MethodName := ⟨RX11, "wordAt", "(II)I"⟩
abbrev cX11_reads : ByteArray := prog_13_method_35_code
def yX11_reads : MethodName := ⟨RX11, "reads", "()V"⟩
abbrev cX11_errs : ByteArray := prog_13_method_36_code
def yX11_errs : MethodName := ⟨RX11, "errs", "(I)I"⟩
abbrev cX11_isWord : ByteArray := prog_13_method_37_code
def yX11_isWord : MethodName := ⟨RX11, "isWord", "(I)Z"⟩
abbrev cX11_isSign : ByteArray := prog_13_method_38_code
def yX11_isSign : MethodName := ⟨RX11, "isSign", "(I)Z"⟩
abbrev cX11_emits : ByteArray := prog_13_method_39_code
def yX11_emits : MethodName := ⟨RX11, "emits", "(II)V"⟩
abbrev cX11_canAsk : ByteArray := prog_13_method_40_code
def yX11_canAsk : MethodName := ⟨RX11, "canAsk", "(I)Z"⟩
abbrev cX11_readUnit : ByteArray := prog_13_method_41_code
def yX11_readUnit : MethodName := ⟨RX11, "readUnit", "()I"⟩
abbrev cX11_readProduct : ByteArray := prog_13_method_42_code
def yX11_readProduct : MethodName := ⟨RX11, "readProduct", "()I"⟩
abbrev cX11_readSum : ByteArray := prog_13_method_43_code
def yX11_readSum : MethodName := ⟨RX11, "readSum", "()I"⟩
abbrev cX11_readCompared : ByteArray := prog_13_method_44_code
def yX11_readCompared : MethodName := ⟨RX11, "readCompared", "()I"⟩
abbrev cX11_waits : ByteArray := prog_13_method_45_code
def yX11_waits : MethodName := ⟨RX11, "waits", "(I)V"⟩
abbrev cX11_settles : ByteArray := prog_13_method_46_code
def yX11_settles : MethodName := ⟨RX11, "settles", "(I)V"⟩
abbrev cX11_readAny : ByteArray := prog_13_method_47_code
def yX11_readAny : MethodName := ⟨RX11, "readAny", "()I"⟩
abbrev cX11_isLineWord : ByteArray := prog_13_method_48_code
def yX11_isLineWord : MethodName := ⟨RX11, "isLineWord", "()Z"⟩
abbrev cX11_readLaw : ByteArray := prog_13_method_49_code
def yX11_readLaw : MethodName := ⟨RX11, "readLaw", "()I"⟩
abbrev cX11_takesLaw : ByteArray := prog_13_method_50_code
def yX11_takesLaw : MethodName := ⟨RX11, "takesLaw", "(I)V"⟩
abbrev cX11_readNumber : ByteArray := prog_13_method_51_code
def yX11_readNumber : MethodName := ⟨RX11, "readNumber", "(II)I"⟩
abbrev cX11_readMark : ByteArray := prog_13_method_52_code
def yX11_readMark : MethodName := ⟨RX11, "readMark", "(I)I"⟩
abbrev cX11_readTold : ByteArray := prog_13_method_53_code
def yX11_readTold : MethodName := ⟨RX11, "readTold", "(III)I"⟩
abbrev cX11_readOther : ByteArray := prog_13_method_54_code
def yX11_readOther : MethodName := ⟨RX11, "readOther", "(III)I"⟩
abbrev cX11_takesPassage : ByteArray := prog_13_method_55_code
def yX11_takesPassage : MethodName := ⟨RX11, "takesPassage", "(II)V"⟩
abbrev cX11_readPassage : ByteArray := prog_13_method_56_code
def yX11_readPassage : MethodName := ⟨RX11, "readPassage", "()I"⟩
abbrev cX11_readPassages : ByteArray := prog_13_method_57_code
def yX11_readPassages : MethodName := ⟨RX11, "readPassages", "()I"⟩
abbrev cX11_kindOfDeed : ByteArray := prog_13_method_58_code
def yX11_kindOfDeed : MethodName := ⟨RX11, "kindOfDeed", "()I"⟩
abbrev cX11_readDeedMore : ByteArray := prog_13_method_59_code
def yX11_readDeedMore : MethodName := ⟨RX11, "readDeedMore", "(I)I"⟩
abbrev cX11_readDeed : ByteArray := prog_13_method_60_code
def yX11_readDeed : MethodName := ⟨RX11, "readDeed", "(I)I"⟩
abbrev cX11_readDiary : ByteArray := prog_13_method_61_code
def yX11_readDiary : MethodName := ⟨RX11, "readDiary", "()I"⟩
abbrev cX11_readVouch : ByteArray := prog_13_method_62_code
def yX11_readVouch : MethodName := ⟨RX11, "readVouch", "()I"⟩
abbrev cX11_readVouches : ByteArray := prog_13_method_63_code
def yX11_readVouches : MethodName := ⟨RX11, "readVouches", "()I"⟩
abbrev cX11_readsText : ByteArray := prog_13_method_64_code
def yX11_readsText : MethodName := ⟨RX11, "readsText", "(I)I"⟩
abbrev cX11_takesOther : ByteArray := prog_13_method_65_code
def yX11_takesOther : MethodName := ⟨RX11, "takesOther", "(II)V"⟩
abbrev cX11_text : ByteArray := prog_13_method_66_code
def yX11_text : MethodName := ⟨RX11, "text", "(I)I"⟩
abbrev cX11_fault : ByteArray := prog_13_method_67_code
def yX11_fault : MethodName := ⟨RX11, "fault", "(I)I"⟩
abbrev cX11_twoOf : ByteArray := prog_13_method_68_code
def yX11_twoOf : MethodName := ⟨RX11, "twoOf", "(III)I"⟩
abbrev cX11_runs : ByteArray := prog_13_method_69_code
def yX11_runs : MethodName := ⟨RX11, "runs", "(III)I"⟩
abbrev cX11_lineOf : ByteArray := prog_13_method_70_code
def yX11_lineOf : MethodName := ⟨RX11, "lineOf", "(I)I"⟩
abbrev cX11_lightOf : ByteArray := prog_13_method_71_code
def yX11_lightOf : MethodName := ⟨RX11, "lightOf", "(I)I"⟩
abbrev cX11_asks : ByteArray := prog_13_method_72_code
def yX11_asks : MethodName := ⟨RX11, "asks", "(II)V"⟩
abbrev cX11_lawTells : ByteArray := prog_13_method_73_code
def yX11_lawTells : MethodName := ⟨RX11, "lawTells", "(III)I"⟩
abbrev cX11_creepsOf : ByteArray := prog_13_method_74_code
def yX11_creepsOf : MethodName := ⟨RX11, "creepsOf", "(II)I"⟩
abbrev cX11_worthOf : ByteArray := prog_13_method_75_code
def yX11_worthOf : MethodName := ⟨RX11, "worthOf", "(I)I"⟩
abbrev cX11_comesOf : ByteArray := prog_13_method_76_code
def yX11_comesOf : MethodName := ⟨RX11, "comesOf", "(I)I"⟩
abbrev cX11_notes : ByteArray := prog_13_method_77_code
def yX11_notes : MethodName := ⟨RX11, "notes", "(III)V"⟩
abbrev cX11_getsPaid : ByteArray := prog_13_method_78_code
def yX11_getsPaid : MethodName := ⟨RX11, "getsPaid", "(I)V"⟩
abbrev cX11_isTold : ByteArray := prog_13_method_79_code
def yX11_isTold : MethodName := ⟨RX11, "isTold", "(III)Z"⟩
abbrev cX11_canAct : ByteArray := prog_13_method_80_code
def yX11_canAct : MethodName := ⟨RX11, "canAct", "(III)Z"⟩
abbrev cX11_isBought : ByteArray := prog_13_method_81_code
def yX11_isBought : MethodName := ⟨RX11, "isBought", "(I)V"⟩
abbrev cX11_sells : ByteArray := prog_13_method_82_code
def yX11_sells : MethodName := ⟨RX11, "sells", "(I)V"⟩
abbrev cX11_hoses : ByteArray := prog_13_method_83_code
def yX11_hoses : MethodName := ⟨RX11, "hoses", "(II)V"⟩
abbrev cX11_wets : ByteArray := prog_13_method_84_code
def yX11_wets : MethodName := ⟨RX11, "wets", "(II)V"⟩
abbrev cX11_acts : ByteArray := prog_13_method_85_code
def yX11_acts : MethodName := ⟨RX11, "acts", "(III)V"⟩
abbrev cX11_act : ByteArray := prog_13_method_86_code
def yX11_act : MethodName := ⟨RX11, "act", "(III)Z"⟩
abbrev cX11_creepsOn : ByteArray := prog_13_method_87_code
def yX11_creepsOn : MethodName := ⟨RX11, "creepsOn", "(I)I"⟩
abbrev cX11_isShown : ByteArray := prog_13_method_88_code
def yX11_isShown : MethodName := ⟨RX11, "isShown", "(I)Z"⟩
abbrev cX11_goesBy : ByteArray := prog_13_method_89_code
def yX11_goesBy : MethodName := ⟨RX11, "goesBy", "()I"⟩
abbrev cX11_days : ByteArray := prog_13_method_90_code
def yX11_days : MethodName := ⟨RX11, "days", "(I)I"⟩
abbrev cX11_of : ByteArray := prog_13_method_91_code
def yX11_of : MethodName := ⟨RX11, "of", "(II)I"⟩
abbrev cX11_creeps : ByteArray := prog_13_method_92_code
def yX11_creeps : MethodName := ⟨RX11, "creeps", "(II)I"⟩
abbrev cX11_room : ByteArray := prog_13_method_93_code
def yX11_room : MethodName := ⟨RX11, "room", "(II)I"⟩
abbrev cX11_book : ByteArray := prog_13_method_94_code
def yX11_book : MethodName := ⟨RX11, "book", "(II)I"⟩
abbrev cX11_ownedSet : ByteArray := prog_13_method_95_code
def yX11_ownedSet : MethodName := ⟨RX11, "ownedSet", "()I"⟩
abbrev cX11_goes : ByteArray := prog_13_method_96_code
def yX11_goes : MethodName := ⟨RX11, "goes", "(II)I"⟩
abbrev cX11_isBeside : ByteArray := prog_13_method_97_code
def yX11_isBeside : MethodName := ⟨RX11, "isBeside", "(II)Z"⟩
abbrev cX11_findsParts : ByteArray := prog_13_method_98_code
def yX11_findsParts : MethodName := ⟨RX11, "findsParts", "(IZ)V"⟩
abbrev cX11_isAtEdge : ByteArray := prog_13_method_99_code
def yX11_isAtEdge : MethodName := ⟨RX11, "isAtEdge", "(I)Z"⟩
abbrev cX11_comesOut : ByteArray := prog_13_method_100_code
def yX11_comesOut : MethodName := ⟨RX11, "comesOut", "(I)Z"⟩
abbrev cX11_islandsOf : ByteArray := prog_13_method_101_code
def yX11_islandsOf : MethodName := ⟨RX11, "islandsOf", "(I)I"⟩
abbrev cX11_holesOf : ByteArray := prog_13_method_102_code
def yX11_holesOf : MethodName := ⟨RX11, "holesOf", "(I)I"⟩
abbrev cX11_takesOwn : ByteArray := prog_13_method_103_code
def yX11_takesOwn : MethodName := ⟨RX11, "takesOwn", "(I)V"⟩
abbrev cX11_isOwnLeft : ByteArray := prog_13_method_104_code
def yX11_isOwnLeft : MethodName := ⟨RX11, "isOwnLeft", "()Z"⟩
abbrev cX11_shrinks : ByteArray := prog_13_method_105_code
def yX11_shrinks : MethodName := ⟨RX11, "shrinks", "()V"⟩
abbrev cX11_depthOf : ByteArray := prog_13_method_106_code
def yX11_depthOf : MethodName := ⟨RX11, "depthOf", "(I)I"⟩
abbrev cX11_shape : ByteArray := prog_13_method_107_code
def yX11_shape : MethodName := ⟨RX11, "shape", "(II)I"⟩
abbrev cX11_mirrors : ByteArray := prog_13_method_108_code
def yX11_mirrors : MethodName := ⟨RX11, "mirrors", "()V"⟩
abbrev cX11_turnsRight : ByteArray := prog_13_method_109_code
def yX11_turnsRight : MethodName := ⟨RX11, "turnsRight", "()V"⟩
abbrev cX11_pushes : ByteArray := prog_13_method_110_code
def yX11_pushes : MethodName := ⟨RX11, "pushes", "()V"⟩
abbrev cX11_isAim : ByteArray := prog_13_method_111_code
def yX11_isAim : MethodName := ⟨RX11, "isAim", "()Z"⟩
abbrev cX11_turned : ByteArray := prog_13_method_112_code
def yX11_turned : MethodName := ⟨RX11, "turned", "(II)I"⟩
abbrev cX11_isSquare : ByteArray := prog_13_method_113_code
def yX11_isSquare : MethodName := ⟨RX11, "isSquare", "(III)Z"⟩
abbrev cX11_firstSquare : ByteArray := prog_13_method_114_code
def yX11_firstSquare : MethodName := ⟨RX11, "firstSquare", "(II)I"⟩
abbrev cX11_restOf : ByteArray := prog_13_method_115_code
def yX11_restOf : MethodName := ⟨RX11, "restOf", "(II)I"⟩
abbrev cX11_isRound : ByteArray := prog_13_method_116_code
def yX11_isRound : MethodName := ⟨RX11, "isRound", "(III)Z"⟩
abbrev cX11_firstRound : ByteArray := prog_13_method_117_code
def yX11_firstRound : MethodName := ⟨RX11, "firstRound", "(II)I"⟩
abbrev cX11_square : ByteArray := prog_13_method_118_code
def yX11_square : MethodName := ⟨RX11, "square", "(II)I"⟩
abbrev cX11_pushedRow : ByteArray := prog_13_method_119_code
def yX11_pushedRow : MethodName := ⟨RX11, "pushedRow", "(IIII)I"⟩
abbrev cX11_couplesBy : ByteArray := prog_13_method_120_code
def yX11_couplesBy : MethodName := ⟨RX11, "couplesBy", "(IIII)I"⟩
abbrev cX11_fit : ByteArray := prog_13_method_121_code
def yX11_fit : MethodName := ⟨RX11, "fit", "(III)I"⟩
abbrev cX11_stepsBy : ByteArray := prog_13_method_122_code
def yX11_stepsBy : MethodName := ⟨RX11, "stepsBy", "(III)I"⟩
abbrev cX11_beside : ByteArray := prog_13_method_123_code
def yX11_beside : MethodName := ⟨RX11, "beside", "(II)I"⟩
abbrev cX11_comesTo : ByteArray := prog_13_method_124_code
def yX11_comesTo : MethodName := ⟨RX11, "comesTo", "(II)Z"⟩
abbrev cX11_turnsBy : ByteArray := prog_13_method_125_code
def yX11_turnsBy : MethodName := ⟨RX11, "turnsBy", "(III)I"⟩
abbrev cX11_walk : ByteArray := prog_13_method_126_code
def yX11_walk : MethodName := ⟨RX11, "walk", "(IIII)I"⟩
abbrev cX11_sumOf : ByteArray := prog_13_method_127_code
def yX11_sumOf : MethodName := ⟨RX11, "sumOf", "(II)I"⟩
abbrev cX11_areLike : ByteArray := prog_13_method_128_code
def yX11_areLike : MethodName := ⟨RX11, "areLike", "(II)Z"⟩
abbrev cX11_switchOf : ByteArray := prog_13_method_129_code
def yX11_switchOf : MethodName := ⟨RX11, "switchOf", "(I)I"⟩
abbrev cX11_sums : ByteArray := prog_13_method_130_code
def yX11_sums : MethodName := ⟨RX11, "sums", "(II)I"⟩
abbrev cX11_sumOver : ByteArray := prog_13_method_131_code
def yX11_sumOver : MethodName := ⟨RX11, "sumOver", "(IZ)I"⟩
abbrev cX11_buys : ByteArray := prog_13_method_132_code
def yX11_buys : MethodName := ⟨RX11, "buys", "(II)I"⟩
abbrev cX11_findsWays : ByteArray := prog_13_method_133_code
def yX11_findsWays : MethodName := ⟨RX11, "findsWays", "()V"⟩
abbrev cX11_leastTo : ByteArray := prog_13_method_134_code
def yX11_leastTo : MethodName := ⟨RX11, "leastTo", "(III)I"⟩
abbrev cX11_tour : ByteArray := prog_13_method_135_code
def yX11_tour : MethodName := ⟨RX11, "tour", "(II)I"⟩
abbrev cX11_vouchersOf : ByteArray := prog_13_method_136_code
def yX11_vouchersOf : MethodName := ⟨RX11, "vouchersOf", "(I)I"⟩
abbrev cX11_vouched : ByteArray := prog_13_method_137_code
def yX11_vouched : MethodName := ⟨RX11, "vouched", "(I)I"⟩
abbrev cX11_isLie : ByteArray := prog_13_method_138_code
def yX11_isLie : MethodName := ⟨RX11, "isLie", "(II)Z"⟩
abbrev cX11_lie : ByteArray := prog_13_method_139_code
def yX11_lie : MethodName := ⟨RX11, "lie", "(III)I"⟩
abbrev cX11_feet : ByteArray := prog_13_method_140_code
def yX11_feet : MethodName := ⟨RX11, "feet", "(I)I"⟩
abbrev cX11_game : ByteArray := prog_13_method_141_code
def yX11_game : MethodName := ⟨RX11, "game", "(I)I"⟩
abbrev cX11_keeps : ByteArray := prog_13_method_142_code
def yX11_keeps : MethodName := ⟨RX11, "keeps", "(I)I"⟩
abbrev cX11_keepsLaw : ByteArray := prog_13_method_143_code
def yX11_keepsLaw : MethodName := ⟨RX11, "keepsLaw", "()V"⟩
abbrev cX11_keepsTold : ByteArray := prog_13_method_144_code
def yX11_keepsTold : MethodName := ⟨RX11, "keepsTold", "()V"⟩
abbrev cX11_image : ByteArray := prog_13_method_145_code
def yX11_image : MethodName := ⟨RX11, "image", "(Z)Z"⟩
abbrev cX11_look : ByteArray := prog_13_method_146_code
def yX11_look : MethodName := ⟨RX11, "look", "(I)I"⟩
def RJx145de : String := "java/io/Serializable"
def TJx145de : u_T := fun k => match k with
  | _ => ("", "", "", false)
def tyJx145de : Nat → FieldType := fun k => match k with
  | _ => .int
abbrev wsJx145de0 : List Cond := u_ws RJx145de TJx145de 0
theorem nmJx145de : ∀ a, a < 0 → ∀ b, b < 0 → a ≠ b → (TJx145de a).2.1 ≠ (TJx145de b).2.1 := by decide +kernel
theorem tyJx145de_ok : ∀ k, k < 0 → parseFieldDescriptor (TJx145de k).2.2.1 = some (tyJx145de k) := by decide +kernel
def RJx9f9b0 : String := "java/lang/CharSequence"
def TJx9f9b0 : u_T := fun k => match k with
  | _ => ("", "", "", false)
def tyJx9f9b0 : Nat → FieldType := fun k => match k with
  | _ => .int
abbrev wsJx9f9b00 : List Cond := u_ws RJx9f9b0 TJx9f9b0 0
theorem nmJx9f9b0 : ∀ a, a < 0 → ∀ b, b < 0 → a ≠ b → (TJx9f9b0 a).2.1 ≠ (TJx9f9b0 b).2.1 := by decide +kernel
theorem tyJx9f9b0_ok : ∀ k, k < 0 → parseFieldDescriptor (TJx9f9b0 k).2.2.1 = some (tyJx9f9b0 k) := by decide +kernel
def RJ11 : String := "java/lang/Character"
def TJ11 : u_T := fun k => match k with
  | _ => ("", "", "", false)
def tyJ11 : Nat → FieldType := fun k => match k with
  | _ => .int
abbrev wsJ110 : List Cond := u_ws RJ11 TJ11 0
theorem nmJ11 : ∀ a, a < 0 → ∀ b, b < 0 → a ≠ b → (TJ11 a).2.1 ≠ (TJ11 b).2.1 := by decide +kernel
theorem tyJ11_ok : ∀ k, k < 0 → parseFieldDescriptor (TJ11 k).2.2.1 = some (tyJ11 k) := by decide +kernel
abbrev cJ11_isValidCodePoint_9a6ad : ByteArray := prog_14_method_11_code
def yJ11_isValidCodePoint_9a6ad : MethodName := ⟨RJ11, "isValidCodePoint", "(I)Z"⟩
abbrev cJ11_highSurrogate_5068e : ByteArray := prog_14_method_28_code
def yJ11_highSurrogate_5068e : MethodName := ⟨RJ11, "highSurrogate", "(I)C"⟩
abbrev cJ11_lowSurrogate_5068e : ByteArray := prog_14_method_29_code
def yJ11_lowSurrogate_5068e : MethodName := ⟨RJ11, "lowSurrogate", "(I)C"⟩
def RJxb160c : String := "java/lang/Comparable"
def TJxb160c : u_T := fun k => match k with
  | _ => ("", "", "", false)
def tyJxb160c : Nat → FieldType := fun k => match k with
  | _ => .int
abbrev wsJxb160c0 : List Cond := u_ws RJxb160c TJxb160c 0
theorem nmJxb160c : ∀ a, a < 0 → ∀ b, b < 0 → a ≠ b → (TJxb160c a).2.1 ≠ (TJxb160c b).2.1 := by decide +kernel
theorem tyJxb160c_ok : ∀ k, k < 0 → parseFieldDescriptor (TJxb160c k).2.2.1 = some (tyJxb160c k) := by decide +kernel
def RJ13 : String := "java/lang/Long"
def TJ13 : u_T := fun k => match k with
  | _ => ("", "", "", false)
def tyJ13 : Nat → FieldType := fun k => match k with
  | _ => .int
abbrev wsJ130 : List Cond := u_ws RJ13 TJ13 0
theorem nmJ13 : ∀ a, a < 0 → ∀ b, b < 0 → a ≠ b → (TJ13 a).2.1 ≠ (TJ13 b).2.1 := by decide +kernel
theorem tyJ13_ok : ∀ k, k < 0 → parseFieldDescriptor (TJ13 k).2.2.1 = some (tyJ13 k) := by decide +kernel
abbrev cJ13_bitCount_95d88 : ByteArray := prog_15_method_50_code
def yJ13_bitCount_95d88 : MethodName := ⟨RJ13, "bitCount", "(J)I"⟩
def RJ9 : String := "java/lang/Math"
def TJ9 : u_T := fun k => match k with
  | _ => ("", "", "", false)
def tyJ9 : Nat → FieldType := fun k => match k with
  | _ => .int
abbrev wsJ90 : List Cond := u_ws RJ9 TJ9 0
theorem nmJ9 : ∀ a, a < 0 → ∀ b, b < 0 → a ≠ b → (TJ9 a).2.1 ≠ (TJ9 b).2.1 := by decide +kernel
theorem tyJ9_ok : ∀ k, k < 0 → parseFieldDescriptor (TJ9 k).2.2.1 = some (tyJ9 k) := by decide +kernel
abbrev cJ9_abs_0f7a4 : ByteArray := prog_16_method_59_code
def yJ9_abs_0f7a4 : MethodName := ⟨RJ9, "abs", "(I)I"⟩
abbrev cJ9_max_7cf53 : ByteArray := prog_16_method_65_code
def yJ9_max_7cf53 : MethodName := ⟨RJ9, "max", "(II)I"⟩
abbrev cJ9_min_7cf53 : ByteArray := prog_16_method_69_code
def yJ9_min_7cf53 : MethodName := ⟨RJ9, "min", "(II)I"⟩
def RJ0 : String := "java/lang/String"
def TJ0 : u_T := fun k => match k with
  | _ => ("", "", "", false)
def tyJ0 : Nat → FieldType := fun k => match k with
  | _ => .int
abbrev wsJ00 : List Cond := u_ws RJ0 TJ0 0
theorem nmJ0 : ∀ a, a < 0 → ∀ b, b < 0 → a ≠ b → (TJ0 a).2.1 ≠ (TJ0 b).2.1 := by decide +kernel
theorem tyJ0_ok : ∀ k, k < 0 → parseFieldDescriptor (TJ0 k).2.2.1 = some (tyJ0 k) := by decide +kernel
abbrev cJ0_length_8abf5 : ByteArray := prog_17_method_54_code
def yJ0_length_8abf5 : MethodName := ⟨RJ0, "length", "()I"⟩
abbrev cJ0_charAt_5068e : ByteArray := prog_17_method_56_code
def yJ0_charAt_5068e : MethodName := ⟨RJ0, "charAt", "(I)C"⟩
abbrev cJ0_indexOf_0f7a4 : ByteArray := prog_17_method_79_code
def yJ0_indexOf_0f7a4 : MethodName := ⟨RJ0, "indexOf", "(I)I"⟩
abbrev cJ0_indexOf_7cf53 : ByteArray := prog_17_method_80_code
def yJ0_indexOf_7cf53 : MethodName := ⟨RJ0, "indexOf", "(II)I"⟩
abbrev cJ0_coder_7d493 : ByteArray := prog_17_method_152_code
def yJ0_coder_7d493 : MethodName := ⟨RJ0, "coder", "()B"⟩
abbrev cJ0_isLatin1_aae02 : ByteArray := prog_17_method_154_code
def yJ0_isLatin1_aae02 : MethodName := ⟨RJ0, "isLatin1", "()Z"⟩
abbrev cJ0_checkIndex_df160 : ByteArray := prog_17_method_155_code
def yJ0_checkIndex_df160 : MethodName := ⟨RJ0, "checkIndex", "(II)V"⟩
abbrev cJ0_checkBoundsBeginEnd_23922 : ByteArray := prog_17_method_158_code
def yJ0_checkBoundsBeginEnd_23922 : MethodName := ⟨RJ0, "checkBoundsBeginEnd", "(III)V"⟩
def RJ1 : String := "java/lang/StringLatin1"
def TJ1 : u_T := fun k => match k with
  | _ => ("", "", "", false)
def tyJ1 : Nat → FieldType := fun k => match k with
  | _ => .int
abbrev wsJ10 : List Cond := u_ws RJ1 TJ1 0
theorem nmJ1 : ∀ a, a < 0 → ∀ b, b < 0 → a ≠ b → (TJ1 a).2.1 ≠ (TJ1 b).2.1 := by decide +kernel
theorem tyJ1_ok : ∀ k, k < 0 → parseFieldDescriptor (TJ1 k).2.2.1 = some (tyJ1 k) := by decide +kernel
abbrev cJ1_charAt_3b067 : ByteArray := prog_18_method_2_code
def yJ1_charAt_3b067 : MethodName := ⟨RJ1, "charAt", "([BI)C"⟩
abbrev cJ1_canEncode_9a6ad : ByteArray := prog_18_method_4_code
def yJ1_canEncode_9a6ad : MethodName := ⟨RJ1, "canEncode", "(I)Z"⟩
abbrev cJ1_indexOf_4cfef : ByteArray := prog_18_method_22_code
def yJ1_indexOf_4cfef : MethodName := ⟨RJ1, "indexOf", "([BIII)I"⟩
abbrev cJ1_indexOfChar_4cfef : ByteArray := prog_18_method_23_code
def yJ1_indexOfChar_4cfef : MethodName := ⟨RJ1, "indexOfChar", "([BIII)I"⟩
def RJ2 : String := "java/lang/StringUTF16"
def TJ2 : u_T := fun k => match k with
  | _ => ("", "", "", false)
def tyJ2 : Nat → FieldType := fun k => match k with
  | _ => .int
abbrev wsJ20 : List Cond := u_ws RJ2 TJ2 0
theorem nmJ2 : ∀ a, a < 0 → ∀ b, b < 0 → a ≠ b → (TJ2 a).2.1 ≠ (TJ2 b).2.1 := by decide +kernel
theorem tyJ2_ok : ∀ k, k < 0 → parseFieldDescriptor (TJ2 k).2.2.1 = some (tyJ2 k) := by decide +kernel
abbrev cJ2_getChar_3b067 : ByteArray := prog_19_method_5_code
def yJ2_getChar_3b067 : MethodName := ⟨RJ2, "getChar", "([BI)C"⟩
abbrev cJ2_length_9d52b : ByteArray := prog_19_method_6_code
def yJ2_length_9d52b : MethodName := ⟨RJ2, "length", "([B)I"⟩
abbrev cJ2_indexOf_4cfef : ByteArray := prog_19_method_40_code
def yJ2_indexOf_4cfef : MethodName := ⟨RJ2, "indexOf", "([BIII)I"⟩
abbrev cJ2_indexOfChar_4cfef : ByteArray := prog_19_method_47_code
def yJ2_indexOfChar_4cfef : MethodName := ⟨RJ2, "indexOfChar", "([BIII)I"⟩
abbrev cJ2_indexOfCharUnsafe_4cfef : ByteArray := prog_19_method_48_code
def yJ2_indexOfCharUnsafe_4cfef : MethodName := ⟨RJ2, "indexOfCharUnsafe", "([BIII)I"⟩
abbrev cJ2_indexOfSupplementary_4cfef : ByteArray := prog_19_method_49_code
def yJ2_indexOfSupplementary_4cfef : MethodName := ⟨RJ2, "indexOfSupplementary", "([BIII)I"⟩
abbrev cJ2_charAt_3b067 : ByteArray := prog_19_method_83_code
def yJ2_charAt_3b067 : MethodName := ⟨RJ2, "charAt", "([BI)C"⟩
abbrev cJ2_checkIndex_2214a : ByteArray := prog_19_method_91_code
def yJ2_checkIndex_2214a : MethodName := ⟨RJ2, "checkIndex", "(I[B)V"⟩
abbrev cJ2_checkBoundsBeginEnd_d044e : ByteArray := prog_19_method_93_code
def yJ2_checkBoundsBeginEnd_d044e : MethodName := ⟨RJ2, "checkBoundsBeginEnd", "(II[B)V"⟩
def RJ10 : String := "java/lang/System"
def TJ10 : u_T := fun k => match k with
  | _ => ("", "", "", false)
def tyJ10 : Nat → FieldType := fun k => match k with
  | _ => .int
abbrev wsJ100 : List Cond := u_ws RJ10 TJ10 0
theorem nmJ10 : ∀ a, a < 0 → ∀ b, b < 0 → a ≠ b → (TJ10 a).2.1 ≠ (TJ10 b).2.1 := by decide +kernel
theorem tyJ10_ok : ∀ k, k < 0 → parseFieldDescriptor (TJ10 k).2.2.1 = some (tyJ10 k) := by decide +kernel
def RJxfd54e : String := "java/lang/constant/Constable"
def TJxfd54e : u_T := fun k => match k with
  | _ => ("", "", "", false)
def tyJxfd54e : Nat → FieldType := fun k => match k with
  | _ => .int
abbrev wsJxfd54e0 : List Cond := u_ws RJxfd54e TJxfd54e 0
theorem nmJxfd54e : ∀ a, a < 0 → ∀ b, b < 0 → a ≠ b → (TJxfd54e a).2.1 ≠ (TJxfd54e b).2.1 := by decide +kernel
theorem tyJxfd54e_ok : ∀ k, k < 0 → parseFieldDescriptor (TJxfd54e k).2.2.1 = some (tyJxfd54e k) := by decide +kernel
def RJx3cf43 : String := "java/lang/constant/ConstantDesc"
def TJx3cf43 : u_T := fun k => match k with
  | _ => ("", "", "", false)
def tyJx3cf43 : Nat → FieldType := fun k => match k with
  | _ => .int
abbrev wsJx3cf430 : List Cond := u_ws RJx3cf43 TJx3cf43 0
theorem nmJx3cf43 : ∀ a, a < 0 → ∀ b, b < 0 → a ≠ b → (TJx3cf43 a).2.1 ≠ (TJx3cf43 b).2.1 := by decide +kernel
theorem tyJx3cf43_ok : ∀ k, k < 0 → parseFieldDescriptor (TJx3cf43 k).2.2.1 = some (tyJx3cf43 k) := by decide +kernel
def RJ7 : String := "java/util/Arrays"
def TJ7 : u_T := fun k => match k with
  | _ => ("", "", "", false)
def tyJ7 : Nat → FieldType := fun k => match k with
  | _ => .int
abbrev wsJ70 : List Cond := u_ws RJ7 TJ7 0
theorem nmJ7 : ∀ a, a < 0 → ∀ b, b < 0 → a ≠ b → (TJ7 a).2.1 ≠ (TJ7 b).2.1 := by decide +kernel
theorem tyJ7_ok : ∀ k, k < 0 → parseFieldDescriptor (TJ7 k).2.2.1 = some (tyJ7 k) := by decide +kernel
abbrev cJ7_fill_53178 : ByteArray := prog_21_method_103_code
def yJ7_fill_53178 : MethodName := ⟨RJ7, "fill", "([II)V"⟩
def RJ3 : String := "jdk/internal/util/Preconditions"
def TJ3 : u_T := fun k => match k with
  | _ => ("", "", "", false)
def tyJ3 : Nat → FieldType := fun k => match k with
  | _ => .int
abbrev wsJ30 : List Cond := u_ws RJ3 TJ3 0
theorem nmJ3 : ∀ a, a < 0 → ∀ b, b < 0 → a ≠ b → (TJ3 a).2.1 ≠ (TJ3 b).2.1 := by decide +kernel
theorem tyJ3_ok : ∀ k, k < 0 → parseFieldDescriptor (TJ3 k).2.2.1 = some (tyJ3 k) := by decide +kernel
abbrev cJ3_checkIndex_8e157 : ByteArray := prog_22_method_11_code
def yJ3_checkIndex_8e157 : MethodName := ⟨RJ3, "checkIndex", "(IILjava/util/function/BiFunction;)I"⟩
abbrev cJ3_checkFromToIndex_8c36e : ByteArray := prog_22_method_12_code
def yJ3_checkFromToIndex_8c36e : MethodName := ⟨RJ3, "checkFromToIndex", "(IIILjava/util/function/BiFunction;)I"⟩
def RL : String := "DryPlacesLaw"
abbrev cL_law : ByteArray := code
def yL_law : MethodName := ⟨RL, "law", "([I)Z"⟩
abbrev vwCl : List vw_C := [(RX1, TX1, 5), (RX2, TX2, 8), (RX3, TX3, 7), (RX4, TX4, 3), (RX5, TX5, 6), (RX6, TX6, 3), (RX7, TX7, 5), (RX8, TX8, 2), (RX9, TX9, 13), (RX10, TX10, 16), (RX11, TX11, 55)]
end
section
/-- which slots of a class hold references, by its place in vwCl -/
def gk_bsT : List (List Bool) := [[true, true, true, true, true], [false, false, true, true, true, true, true, true], [true, true, false, false, false, false, false], [true, false, false], [true, true, true, true, false, false], [true, true, true], [true, true, true, true, true], [true, true], [false, false, false, false, false, false, false, false, true, true, true, true, true], [true, true, true, true, true, true, true, true, true, true, true, true, true, true, true, false], [false, true, true, false, true, false, false, true, true, true, false, false, false, false, false, true, true, true, true, true, true, true, true, false, false, false, true, false, false, false, false, false, false, true, false, true, false, true, true, true, true, true, true, true, true, true, true, true, true, true, true, false, false, false, true]]
def gk_bs (ci : Nat) : List Bool := gk_bsT.getD ci []
/-- the nest links, which no list of good words may hold -/
def gk_nest : List Cond := [(Jvm.Cond.methodLinkNest "DryPlaces" (18 : Nat) ({ cls := "DryPlaces$Texts", name := "<init>", desc := "()V" } : Jvm.MethodName) "DryPlaces"), (Jvm.Cond.methodLinkNest "DryPlaces$Texts" (11 : Nat) ({ cls := "DryPlaces$Law", name := "<init>", desc := "()V" } : Jvm.MethodName) "DryPlaces"), (Jvm.Cond.methodLinkNest "DryPlaces" (36 : Nat) ({ cls := "DryPlaces$Tape", name := "<init>", desc := "()V" } : Jvm.MethodName) "DryPlaces"), (Jvm.Cond.methodLinkNest "DryPlaces$Parser" (11 : Nat) ({ cls := "DryPlaces$Texts", name := "<init>", desc := "()V" } : Jvm.MethodName) "DryPlaces"), (Jvm.Cond.methodLinkNest "DryPlaces" (80 : Nat) ({ cls := "DryPlaces$Tour", name := "<init>", desc := "()V" } : Jvm.MethodName) "DryPlaces"), (Jvm.Cond.methodLinkNest "DryPlaces$Keeper" (30 : Nat) ({ cls := "DryPlaces", name := "isRoom", desc := "(I)Z" } : Jvm.MethodName) "DryPlaces"), (Jvm.Cond.methodLinkNest "DryPlaces$Keeper" (34 : Nat) ({ cls := "DryPlaces", name := "isWithin", desc := "(III)Z" } : Jvm.MethodName) "DryPlaces"), (Jvm.Cond.methodLinkNest "DryPlaces$Teller" (64 : Nat) ({ cls := "DryPlaces", name := "isRoom", desc := "(I)Z" } : Jvm.MethodName) "DryPlaces"), (Jvm.Cond.methodLinkNest "DryPlaces$Keeper" (56 : Nat) ({ cls := "DryPlaces", name := "isCell", desc := "(I)Z" } : Jvm.MethodName) "DryPlaces"), (Jvm.Cond.methodLinkNest "DryPlaces$Parser" (83 : Nat) ({ cls := "DryPlaces", name := "isWithin", desc := "(III)Z" } : Jvm.MethodName) "DryPlaces"), (Jvm.Cond.methodLinkNest "DryPlaces$Ground" (67 : Nat) ({ cls := "DryPlaces", name := "isWithin", desc := "(III)Z" } : Jvm.MethodName) "DryPlaces")]
def gk_tx0 : String := "creeps worth comes when or and not dry edges year light room hosed paid day wet long on buy sell hang in hose place by "
def gk_tx1 : String := ";+-*/()<=>"
def gk_by0 : List Int32 := [99, 114, 101, 101, 112, 115, 32, 119, 111, 114, 116, 104, 32, 99, 111, 109, 101, 115, 32, 119, 104, 101, 110, 32, 111, 114, 32, 97, 110, 100, 32, 110, 111, 116, 32, 100, 114, 121, 32, 101, 100, 103, 101, 115, 32, 121, 101, 97, 114, 32, 108, 105, 103, 104, 116, 32, 114, 111, 111, 109, 32, 104, 111, 115, 101, 100, 32, 112, 97, 105, 100, 32, 100, 97, 121, 32, 119, 101, 116, 32, 108, 111, 110, 103, 32, 111, 110, 32, 98, 117, 121, 32, 115, 101, 108, 108, 32, 104, 97, 110, 103, 32, 105, 110, 32, 104, 111, 115, 101, 32, 112, 108, 97, 99, 101, 32, 98, 121, 32]
def gk_by1 : List Int32 := [59, 43, 45, 42, 47, 40, 41, 60, 61, 62]
def gk_len : List Nat := [119, 10]
def gk_byt : List (List Int32) := [gk_by0, gk_by1]
end
section
/-! GK: an abstract machine (objects by their number, rows of numbers as functions) over the kit's rows.
 A cell: (tag, number, references): tag 0 an object of class 'number' of vwCl, 1 int[], 2 char[], 3 long[] of 'number' places, else World[].
 The numbers of a heap: fields, int (and char) rows, long rows, by the cell's number. -/
abbrev gk_K : Type := Nat × Nat × List (Option Nat)
abbrev gk_G : Type := List gk_K
abbrev gk_H : Type := (Nat → Nat → Int32) × (Nat → Nat → Int32) × (Nat → Nat → Int64)
abbrev gk_L : Type := List (Option Value)
/-- a method: its name, bytes, locals, answer -/
abbrev gk_J : Type := MethodName × ByteArray × Nat × Option FieldType
/-- the script: how long (and whether a static of the JDK's is a reference), what -/
abbrev gk_E : Type := (Nat × Bool) × (Nat → Int32)
def gk_TT : List Cond := lw_tbl.filter goodWord
theorem gk_TT_in {w : Cond} (h : w ∈ gk_TT) : w ∈ lw_tbl := (List.mem_filter.mp h).1
theorem gk_TT_of {w : Cond} (h : w ∈ lw_tbl) (g : goodWord w = true) : w ∈ gk_TT := List.mem_filter.mpr ⟨h, g⟩
theorem gk_TT_good {w : Cond} (h : w ∈ gk_TT) : (w.onTables && w.keeps) = true ∨ ∃ ty, w = .arrayClass ty := good_of_word (List.mem_filter.mp h).2
def gk_wd (J : gk_J) : List Cond := .code J.1 J.2.1 J.2.2.1 J.2.2.2 :: gk_TT
def gk_rm (d mc ms : Nat) : Room := { frames := d, cells := mc, slots := ms, locals := 60 * d }
/-- number to address: the own cells from base on; what was there before (read alone) from 1000000 on -/
def gk_ad (base : Nat) (ro : Nat → Nat) (k : Nat) : Nat := if k < 1000000 then base + k else ro (k - 1000000)
def gk_v (ad : Nat → Nat) (v : Value) : Value := match v with
  | .ref k => .ref (ad k)
  | .int x => .int x
  | .long x => .long x
  | .null => .null
  | w => w
def gk_fs (ad : Nat → Nat) (bs : List Bool) (rs : List (Option Nat)) (f : Nat → Int32) : List Value := bs.mapIdx (fun i b => bif b then va_rf ((rs.getD i none).map ad) else .int (f i))
def gk_cell (ad : Nat → Nat) (cs : Nat → ClassId) (κ : gk_K) (f a : Nat → Int32) (b : Nat → Int64) : va_E := match κ.1 with
  | 0 => .inr (κ.2.1, gk_fs ad (gk_bs κ.2.1) κ.2.2 f)
  | 1 => .inl (cs 0, κ.2.1, .inl a)
  | 2 => .inl (cs 1, κ.2.1, .inl a)
  | 3 => .inl (cs 2, κ.2.1, .inr (.inl b))
  | _ => .inl (cs 3, κ.2.1, .inr (.inr (.inr (.inr (fun i => (κ.2.2.getD i none).map ad)))))
def gk_ws (base : Nat) (ad : Nat → Nat) (cs : Nat → ClassId) (Γ : gk_G) (h : gk_H) : va_W := Γ.mapIdx (fun k κ => (base + k, gk_cell ad cs κ (h.1 k) (h.2.1 k) (h.2.2 k)))
def gk_tys (cs : Nat → ClassId) : List (ClassId × FieldType) := [(cs 0, .int), (cs 1, .char), (cs 2, .long), (cs 3, .object "DryPlaces$World")]
abbrev gk_A (base : Nat) : Nat → Prop := fun q => base ≤ q
/-- what was there before and is read alone: the script, two texts, a static, the nest links, the class of World[] -/
def gk_RO (E : gk_E) (base : Nat) (ro : Nat → Nat) (U : State) (H : Heap) : Prop :=
  (va_X (ro 0) E.1.1 E.2 U H ∧ ro 0 < base) ∧ vk_S 2 gk_len gk_byt (fun i => ro (1 + i)) (fun i => ro (3 + i)) (gk_A base) U H ∧ (vk_R "DryPlaces$Tape" 57 gk_tx0 (ro 1) U ∧ vk_R "DryPlaces$Tape" 49 gk_tx1 (ro 2) U) ∧ (va_Z "java/lang/String" "COMPACT_STRINGS" "Z" (.int 1) (gk_A base) U H ∧ va_Z "jdk/internal/util/Preconditions" "SIOOBE_FORMATTER" "Ljava/util/function/BiFunction;" (bif E.1.2 then .ref (ro 5) else .null) (gk_A base) U H) ∧ (∀ w ∈ gk_nest, va_Nw w U) ∧ va_AO "DryPlaces$World" U
def gk_rel (base : Nat) (ro : Nat → Nat) (cs : Nat → ClassId) (D : va_G) (Γ : gk_G) (h : gk_H) (H : Heap) : Prop := Γ.length ≤ 1000000 ∧ va_P D vwCl (gk_ws base (gk_ad base ro) cs Γ h) H
def gk_Ls (ad : Nat → Nat) (ls : Array Slot) (n : Nat) (L : gk_L) : Prop := ls.size = n ∧ L.length = n ∧ lv_wf ls ∧ ∀ (i : Nat) (v : Value), L[i]? = some (some v) → ls[i]? = some (.val (gk_v ad v))
/-- what holds in a method's body: machine, code, tables' words, room, what is read alone -/
def gk_X (M : Nat → gk_J) (E : gk_E) (d j : Nat) (cf : Bool) (mc ms : Nat) (p : Program) (R : Room) (s : State) (m : MethodId) (args : Array Value) (meth : Method) (c : Code) (base : Nat) (ro : Nat → Nat) (cs : Nat → ClassId) (D : va_G) : Prop :=
  p.tables.exec = Jvm.exec ∧ c.code = (M j).2.1 ∧ c.maxLocals = (M j).2.2.1 ∧ s.vm.findClass (M j).1.cls = some m.cls ∧ (∀ w ∈ gk_TT, w.before args s = true) ∧ (cf = true → meth.name = "<init>") ∧ (d ≤ R.frames ∧ 60 * d ≤ R.locals ∧ mc ≤ R.cells ∧ ms ≤ R.slots) ∧ va_K D vwCl (gk_tys cs) s ∧ gk_RO E base ro s s.heap ∧ base ≤ s.heap.size
def gk_ri (r : Option FieldType) : Instr := match r with
  | none => .return_
  | some .long => .lreturn
  | _ => .ireturn
/-- an answer is of the method's kind -/
def gk_rok (r : Option FieldType) (v : Option Value) : Prop := match r, v with
  | none, none => True
  | some .int, some (.int _) => True
  | some .long, some (.long _) => True
  | some .long, some (.int _) => False
  | some ty, some (.int x) => narrow ty (.int x) = .int x
  | _, _ => False
/-- how the body's end is met -/
def gk_Ret (M : Nat → gk_J) (j mc ms : Nat) (Γe : gk_G) (Q : Option Value → gk_H → Prop) (p : Program) (l : Launch) (e : Env) (R : Room) (s : State) (m : MethodId) (args : Array Value) (below : List Frame) (meth : Method) (c : Code) (base : Nat) (ro : Nat → Nat) (cs : Nat → ClassId) (D : va_G) (QF : State → Prop) : Prop :=
  ∀ (pc : Nat) (ls : Array Slot) (H : Heap) (locs : List Loc) (v : Option Value) (h : gk_H), Q v h → gk_rel base ro cs D Γe h H → va_S (gk_A base) s.heap H locs → gk_rok (M j).2.2.2 v → decode (M j).2.1 pc = .ok (gk_ri (M j).2.2.2, 1) → W p l e R s m args below meth c H locs mc ms QF (F0 m pc ls (v.toList.map (gk_v (gk_ad base ro))))
/-- THE JUDGEMENT: wherever the machine stands so, it comes to the end with Q -/
def gk_Go (M : Nat → gk_J) (E : gk_E) (d j : Nat) (cf : Bool) (mc ms : Nat) (Γe : gk_G) (Q : Option Value → gk_H → Prop) (pc : Nat) (L : gk_L) (st : List Value) (Γ : gk_G) (h : gk_H) (nc ns : Nat) : Prop :=
  ∀ (p : Program) (l : Launch) (e : Env) (R : Room) (s : State) (m : MethodId) (args : Array Value) (below : List Frame) (meth : Method) (c : Code) (base : Nat) (ro : Nat → Nat) (cs : Nat → ClassId) (D : va_G) (QF : State → Prop) (H : Heap) (locs : List Loc) (ls : Array Slot),
    gk_X M E d j cf mc ms p R s m args meth c base ro cs D → gk_Ret M j mc ms Γe Q p l e R s m args below meth c base ro cs D QF → gk_rel base ro cs D Γ h H → va_S (gk_A base) s.heap H locs → gk_Ls (gk_ad base ro) ls (M j).2.2.1 L → s.heap.size + nc = base + Γ.length → W p l e R s m args below meth c H locs nc ns QF (F0 m pc ls (st.map (gk_v (gk_ad base ro))))
/-- a method's start and end, over the machine -/
def gk_Pc (E : gk_E) (base : Nat) (ro : Nat → Nat) (cs : Nat → ClassId) (D : va_G) (av : List Value) (Γ : gk_G) (h : gk_H) : Array Value → State → Prop := va_Pc (av.map (gk_v (gk_ad base ro))) (fun U => U.heap.size = base + Γ.length ∧ gk_rel base ro cs D Γ h U.heap ∧ va_K D vwCl (gk_tys cs) U ∧ gk_RO E base ro U U.heap)
def gk_Qc (base : Nat) (ro : Nat → Nat) (cs : Nat → ClassId) (D : va_G) (Γe : gk_G) (Q : Option Value → gk_H → Prop) : Array Value → State → Outcome → State → Prop := fun _ st o t => (∃ (v : Option Value) (h : gk_H), o = .returned (v.map (gk_v (gk_ad base ro))) ∧ Q v h ∧ gk_rel base ro cs D Γe h t.heap) ∧ va_F (gk_A base) st t
/-- A CONTRACT: method j at depth d, from the arguments av and the heap Γ, h -/
def gk_Con (M : Nat → gk_J) (E : gk_E) (d j : Nat) (av : List Value) (Γ Γe : gk_G) (h : gk_H) (mc ms : Nat) (Q : Option Value → gk_H → Prop) : Prop :=
  ∀ (l : Launch) (base : Nat) (ro : Nat → Nat) (cs : Nat → ClassId) (D : va_G), Met l (M j).1 (gk_wd (M j)) (gk_rm d mc ms) (gk_Pc E base ro cs D av Γ h) (gk_Qc base ro cs D Γe Q) mc ms (gk_A base)
/-- the locals with which a method begins -/
def gk_sl : List Value → gk_L
  | [] => []
  | .long x :: vs => some (.long x) :: none :: gk_sl vs
  | v :: vs => some v :: gk_sl vs
def gk_L0 (av : List Value) (n : Nat) : gk_L := gk_sl av ++ List.replicate (n - (gk_sl av).length) none
def gk_one1 (v : Value) : Bool := match v with
  | .long _ => true
  | .double _ => false
  | _ => true
theorem gk_cat (ad : Nat → Nat) (v : Value) : (gk_v ad v).category = v.category := by cases v <;> rfl
theorem gk_ws_get {base : Nat} {ad : Nat → Nat} {cs : Nat → ClassId} {Γ : gk_G} {h : gk_H} {k : Nat} {κ : gk_K} (hk : Γ[k]? = some κ) : (gk_ws base ad cs Γ h)[k]? = some (base + k, gk_cell ad cs κ (h.1 k) (h.2.1 k) (h.2.2 k)) := by
  rw [gk_ws, List.getElem?_mapIdx, hk]; rfl
theorem gk_ws_D {base : Nat} {ad : Nat → Nat} {cs : Nat → ClassId} {Γ : gk_G} {h : gk_H} : va_D (gk_A base) (gk_ws base ad cs Γ h) := by
  have key : ∀ (i : Nat) (q : Nat × va_E), (gk_ws base ad cs Γ h)[i]? = some q → q.1 = base + i := by
    intro i q hq
    rw [gk_ws, List.getElem?_mapIdx] at hq
    cases hg : Γ[i]? with
    | none => rw [hg] at hq; cases hq
    | some κ => rw [hg] at hq; cases hq; rfl
  refine ⟨fun i j p q hi hj e => ?_, fun k q hk => ?_⟩
  · have h1 := key i p hi
    have h2 := key j q hj
    omega
  · show base ≤ q.1
    rw [key k q hk]; omega
/-- one cell's contents changed -/
theorem gk_ws_set {base : Nat} {ad : Nat → Nat} {cs : Nat → ClassId} {Γ Γ' : gk_G} {h h' : gk_H} {k : Nat} {κ κ' : gk_K} (hk : Γ[k]? = some κ) (hΓ : Γ' = Γ.set k κ') (hh : ∀ q, q ≠ k → h'.1 q = h.1 q ∧ h'.2.1 q = h.2.1 q ∧ h'.2.2 q = h.2.2 q) :
    (gk_ws base ad cs Γ h).set k (base + k, gk_cell ad cs κ' (h'.1 k) (h'.2.1 k) (h'.2.2 k)) = gk_ws base ad cs Γ' h' := by
  subst hΓ
  have hl : k < Γ.length := (List.getElem?_eq_some_iff.mp hk).1
  refine List.ext_getElem? fun i => ?_
  by_cases hi : i = k
  · subst hi
    rw [List.getElem?_set_self (by rw [gk_ws, List.length_mapIdx]; exact hl), gk_ws_get (κ := κ') (List.getElem?_set_self hl)]
  · rw [List.getElem?_set_ne (Ne.symm hi), gk_ws, gk_ws, List.getElem?_mapIdx, List.getElem?_mapIdx, List.getElem?_set_ne (Ne.symm hi)]
    obtain ⟨e1, e2, e3⟩ := hh i hi
    rw [e1, e2, e3]
theorem gk_set_self {Γ : gk_G} {k : Nat} {κ : gk_K} (hk : Γ[k]? = some κ) : Γ = Γ.set k κ := by
  refine List.ext_getElem? fun i => ?_
  have hl : k < Γ.length := (List.getElem?_eq_some_iff.mp hk).1
  by_cases hi : i = k
  · subst hi; rw [List.getElem?_set_self hl, hk]
  · rw [List.getElem?_set_ne (Ne.symm hi)]
theorem gk_RO.kept {E : gk_E} {base : Nat} {ro : Nat → Nat} {U : State} {H H1 : Heap} (h : gk_RO E base ro U H) (hq : ∀ a : Nat, a < H.size → ¬ gk_A base a → H1[a]? = H[a]?) : gk_RO E base ro U H1 := by
  obtain ⟨⟨h1, h1b⟩, h2, h3, h4, h5, h6⟩ := h
  have hl : ro 0 < H.size := by obtain ⟨scr, e, -⟩ := h1; exact (Array.getElem?_eq_some_iff.mp e).1
  exact ⟨⟨h1.kept (hq _ hl (Nat.not_le.mpr h1b)), h1b⟩, h2.kept hq, h3, ⟨h4.1.kept hq, h4.2.kept hq⟩, h5, h6⟩
end
section
theorem gk_nest_is : ∀ w ∈ gk_nest, ∃ (a : String) (i : Nat) (x : MethodName) (h : String), w = .methodLinkNest a i x h := by
  intro w hw
  simp only [gk_nest, List.mem_cons, List.not_mem_nil, or_false] at hw
  rcases hw with rfl | rfl | rfl | rfl | rfl | rfl | rfl | rfl | rfl | rfl | rfl <;> exact ⟨_, _, _, _, rfl⟩
theorem gk_RO.warm {E : gk_E} {base : Nat} {ro : Nat → Nat} {s U : State} {H : Heap} (hW : s.WarmedH U.vm) (h : gk_RO E base ro s H) : gk_RO E base ro U H := by
  obtain ⟨⟨h1, h1b⟩, h2, h3, h4, h5, h6⟩ := h
  refine ⟨⟨h1.moved hW.alike, h1b⟩, h2.moved hW.alike, ⟨h3.1.warm hW, h3.2.warm hW⟩, ⟨h4.1.moved hW.alike, h4.2.moved hW.alike⟩, fun w hw => ?_, h6.moved hW.alike⟩
  obtain ⟨a, i, x, hh, rfl⟩ := gk_nest_is w hw
  exact (h5 _ hw).warmM hW
theorem gk_RO.same {E : gk_E} {base : Nat} {ro : Nat → Nat} {s U : State} {H : Heap} (hv : U.vm = s.vm) (h : gk_RO E base ro s H) : gk_RO E base ro U H := by
  obtain ⟨⟨h1, h1b⟩, h2, h3, h4, h5, h6⟩ := h
  have hA : s.vm.Alike U.vm := by rw [hv]; exact Vm.Alike.refl _
  refine ⟨⟨h1.moved hA, h1b⟩, h2.moved hA, ⟨h3.1.same hv, h3.2.same hv⟩, ⟨h4.1.moved hA, h4.2.moved hA⟩, fun w hw => ?_, h6.moved hA⟩
  obtain ⟨a, i, x, hh, rfl⟩ := gk_nest_is w hw
  exact (h5 _ hw).same rfl hv.symm
theorem gk_sl_len (ad : Nat → Nat) : ∀ (av : List Value), av.all gk_one1 = true → (lg_sl (av.map (gk_v ad))).length = (gk_sl av).length := by
  intro av
  induction av with
  | nil => intro _; rfl
  | cons v vs ih =>
    intro h
    simp only [List.all_cons, Bool.and_eq_true] at h
    have i1 := ih h.2
    cases v <;> simp_all [lg_sl, gk_sl, gk_v, Value.category, gk_one1] <;> omega
theorem gk_sl_args (ad : Nat → Nat) : ∀ (av : List Value) (k i : Nat) (v : Value), av.all gk_one1 = true → (gk_sl av)[i]? = some (some v) → (k + i, gk_v ad v) ∈ lv_args k (av.map (gk_v ad)) := by
  intro av
  induction av with
  | nil => intro k i v _ h; cases h
  | cons w vs ih =>
    intro k i v ha h
    simp only [List.all_cons, Bool.and_eq_true] at ha
    have two : ∀ x, w = .long x → (k + i, gk_v ad v) ∈ lv_args k ((w :: vs).map (gk_v ad)) := by
      intro x hx
      subst hx
      match i, h with
      | 0, h => cases h; exact List.mem_cons_self
      | 1, h => cases h
      | i + 2, h =>
        have h9 := ih (k + 2) i v ha.2 h
        rw [show k + 2 + i = k + (i + 2) by omega] at h9
        exact List.mem_cons_of_mem _ h9
    have one : gk_sl (w :: vs) = some w :: gk_sl vs → w.category ≠ 2 → (k + i, gk_v ad v) ∈ lv_args k ((w :: vs).map (gk_v ad)) := by
      intro e hc
      rw [e] at h
      match i, h with
      | 0, h => cases h; exact List.mem_cons_self
      | i + 1, h =>
        have h9 := ih (k + 1) i v ha.2 h
        rw [show k + 1 + i = k + (i + 1) by omega] at h9
        simp only [List.map_cons, lv_args, gk_cat, if_neg hc]
        exact List.mem_cons_of_mem _ h9
    cases w with
    | long x => exact two x rfl
    | double x => exact absurd ha.1 (by simp [gk_one1])
    | int x => exact one rfl (by simp [Value.category])
    | float x => exact one rfl (by simp [Value.category])
    | null => exact one rfl (by simp [Value.category])
    | ref x => exact one rfl (by simp [Value.category])
    | retAddr x => exact one rfl (by simp [Value.category])
theorem gk_L0_len {av : List Value} {n : Nat} (h : (gk_sl av).length ≤ n) : (gk_L0 av n).length = n := by
  rw [gk_L0, List.length_append, List.length_replicate]; omega
set_option maxHeartbeats 4000000 in
/-- a contract out of the judgement at the entry -/
theorem gk_con {M : Nat → gk_J} {E : gk_E} {d j : Nat} {av : List Value} {Γ Γe : gk_G} {h : gk_H} {mc ms : Nat} {Q : Option Value → gk_H → Prop} {cf : Bool} (hy : plainName (M j).1.cls = true) (hcf : cf = true → (M j).1.name = "<init>") (hlen : (gk_sl av).length ≤ (M j).2.2.1) (hav : av.all gk_one1 = true)
    (hgo : gk_Go M E d j cf mc ms Γe Q 0 (gk_L0 av (M j).2.2.1) [] Γ h 0 0) : gk_Con M E d j av Γ Γe h mc ms Q := by
  intro l base ro cs D
  refine Met.ofW (cc := (M j).2.1) (maxL := (M j).2.2.1) (ret := (M j).2.2.2) hy rfl ?_
  intro p e s m args below meth c s₁ B hml hv
  obtain ⟨rfl, hsz, hrel, hK, hRO⟩ := hv
  have hts := atoms_spec (ws := gk_wd (M j)) B.pre
  have hown : s.vm.findClass (M j).1.cls = some m.cls := findClass_of_methodNamed B.named
  have hnm : meth.name = (M j).1.name := (name_of_methodNamed B.named B.method).1
  have hx := B.exec
  have hb := B.bytes
  have hr := B.returns
  have hlocks := B.notSynchronized
  have hl := lv_entry (av.map (gk_v (gk_ad base ro))) (n := (M j).2.2.1) (by rw [gk_sl_len _ _ hav]; exact hlen)
  rw [lg_entry_eq]
  refine hgo p l e _ s m _ below meth c base ro cs D _ s.heap [] _ ⟨hx, hb, hml, hown, fun w hw => hts w (List.mem_cons_of_mem _ hw), fun h => hnm.trans (hcf h), ⟨Nat.le_refl _, Nat.le_refl _, Nat.le_refl _, Nat.le_refl _⟩, hK, hRO, by rw [hsz]; exact Nat.le_add_right _ _⟩ ?_ hrel va_S.rf ?_ (by rw [hsz]; rfl)
  · intro pc ls H locs v h hq hrl hS hok hdg
    generalize (M j).2.2.2 = r at hr hok hdg
    match r, v, hok with
    | none, none, _ => exact W.vret hx hb hr (fun t ht hW => ⟨⟨none, h, rfl, hq, by rw [ht]; exact hrl⟩, hS.F ht⟩) hS.2.2 hdg
    | some .int, some (.int x), _ => exact W.iret hx hb hr (fun t ht hW => ⟨⟨some (.int x), h, rfl, hq, by rw [ht]; exact hrl⟩, hS.F ht⟩) hS.2.2 hdg
    | some .long, some (.long x), _ => exact W.lret hx hb hr (fun t ht hW => ⟨⟨some (.long x), h, rfl, hq, by rw [ht]; exact hrl⟩, hS.F ht⟩) hS.2.2 hdg
    | some .boolean, some (.int x), hn => exact W.zret hx hb hr hn (fun t ht hW => ⟨⟨some (.int x), h, rfl, hq, by rw [ht]; exact hrl⟩, hS.F ht⟩) hS.2.2 hdg
    | some .byte, some (.int x), hn => exact W.zret hx hb hr hn (fun t ht hW => ⟨⟨some (.int x), h, rfl, hq, by rw [ht]; exact hrl⟩, hS.F ht⟩) hS.2.2 hdg
    | some .char, some (.int x), hn => exact W.zret hx hb hr hn (fun t ht hW => ⟨⟨some (.int x), h, rfl, hq, by rw [ht]; exact hrl⟩, hS.F ht⟩) hS.2.2 hdg
    | some .short, some (.int x), hn => exact W.zret hx hb hr hn (fun t ht hW => ⟨⟨some (.int x), h, rfl, hq, by rw [ht]; exact hrl⟩, hS.F ht⟩) hS.2.2 hdg
    | some .float, some (.int x), hn => exact W.zret hx hb hr hn (fun t ht hW => ⟨⟨some (.int x), h, rfl, hq, by rw [ht]; exact hrl⟩, hS.F ht⟩) hS.2.2 hdg
    | some .double, some (.int x), hn => exact W.zret hx hb hr hn (fun t ht hW => ⟨⟨some (.int x), h, rfl, hq, by rw [ht]; exact hrl⟩, hS.F ht⟩) hS.2.2 hdg
    | some (.object _), some (.int x), hn => exact W.zret hx hb hr hn (fun t ht hW => ⟨⟨some (.int x), h, rfl, hq, by rw [ht]; exact hrl⟩, hS.F ht⟩) hS.2.2 hdg
    | some (.array _), some (.int x), hn => exact W.zret hx hb hr hn (fun t ht hW => ⟨⟨some (.int x), h, rfl, hq, by rw [ht]; exact hrl⟩, hS.F ht⟩) hS.2.2 hdg
  · refine ⟨hl.1, gk_L0_len hlen, hl.2.1, fun i v hi => ?_⟩
    have hi2 : (gk_sl av)[i]? = some (some v) := by
      rw [gk_L0] at hi
      by_cases hlt : i < (gk_sl av).length
      · rwa [List.getElem?_append_left hlt] at hi
      · rw [List.getElem?_append_right (by omega)] at hi
        have := List.eq_of_mem_replicate (List.mem_of_getElem? hi)
        cases this
    have h9 := gk_sl_args (gk_ad base ro) av 0 i v hav hi2
    rw [Nat.zero_add] at h9
    exact hl.2.2 _ h9
end
section
/-! constants as numerals -/
def gk_lit (n : Int) : Int32 := match n with
  | .ofNat k => OfNat.ofNat k
  | .negSucc k => -(OfNat.ofNat (k + 1))
theorem gk_lit_eq (n : Int) : Int32.ofInt n = gk_lit n := by
  cases n with
  | ofNat k => exact Int32.ofInt_eq_ofNat
  | negSucc k =>
    show Int32.ofInt (Int.negSucc k) = -(Int32.ofNat (k + 1))
    rw [Int32.neg_ofNat]; rfl
def gk_i8 (n : Int) : Bool := decide (-128 ≤ n) && decide (n ≤ 127)
def gk_i16 (n : Int) : Bool := decide (-32768 ≤ n) && decide (n ≤ 32767)
theorem gk_lit8 {n : Int} (h : gk_i8 n = true) : (Int8.ofInt n).toInt32 = gk_lit n := by
  simp only [gk_i8, Bool.and_eq_true, decide_eq_true_eq] at h
  rw [Int8.toInt32_ofInt (by exact h.1) (by exact h.2)]
  exact gk_lit_eq n
theorem gk_lit16 {n : Int} (h : gk_i16 n = true) : (Int16.ofInt n).toInt32 = gk_lit n := by
  simp only [gk_i16, Bool.and_eq_true, decide_eq_true_eq] at h
  rw [Int16.toInt32_ofInt (by exact h.1) (by exact h.2)]
  exact gk_lit_eq n
def gk_l01 (n : Fin 2) : Int64 := bif n.val == 0 then 0 else 1
theorem gk_l01_eq (n : Fin 2) : Int64.ofNat (n : Nat) = gk_l01 n := by
  match n with
  | ⟨0, _⟩ => rfl
  | ⟨1, _⟩ => rfl
/-- what stays on the stack: no side conditions -/
def gk_alu (i : Instr) (st : List Value) : Option (List Value) := match i with
  | .iconst n => some (.int (gk_lit n) :: st)
  | .bipush n => bif gk_i8 n then some (.int (gk_lit n) :: st) else none
  | .sipush n => bif gk_i16 n then some (.int (gk_lit n) :: st) else none
  | .lconst n => some (.long (gk_l01 n) :: st)
  | .aconst_null => some (.null :: st)
  | .iadd => match st with | .int y :: .int x :: r => some (.int (x + y) :: r) | _ => none
  | .isub => match st with | .int y :: .int x :: r => some (.int (x - y) :: r) | _ => none
  | .imul => match st with | .int y :: .int x :: r => some (.int (x * y) :: r) | _ => none
  | .iand => match st with | .int y :: .int x :: r => some (.int (x &&& y) :: r) | _ => none
  | .ior => match st with | .int y :: .int x :: r => some (.int (x ||| y) :: r) | _ => none
  | .ixor => match st with | .int y :: .int x :: r => some (.int (x ^^^ y) :: r) | _ => none
  | .ineg => match st with | .int x :: r => some (.int (-x) :: r) | _ => none
  | .ishl => match st with | .int y :: .int x :: r => some (.int (x <<< (y &&& 31)) :: r) | _ => none
  | .ishr => match st with | .int y :: .int x :: r => some (.int (x >>> (y &&& 31)) :: r) | _ => none
  | .iushr => match st with | .int y :: .int x :: r => some (.int (x.toUInt32 >>> (y.toUInt32 &&& Int32.toUInt32 31)).toInt32 :: r) | _ => none
  | .ladd => match st with | .long y :: .long x :: r => some (.long (x + y) :: r) | _ => none
  | .lsub => match st with | .long y :: .long x :: r => some (.long (x - y) :: r) | _ => none
  | .lmul => match st with | .long y :: .long x :: r => some (.long (x * y) :: r) | _ => none
  | .land => match st with | .long y :: .long x :: r => some (.long (x &&& y) :: r) | _ => none
  | .lor => match st with | .long y :: .long x :: r => some (.long (x ||| y) :: r) | _ => none
  | .lxor => match st with | .long y :: .long x :: r => some (.long (x ^^^ y) :: r) | _ => none
  | .lneg => match st with | .long x :: r => some (.long (-x) :: r) | _ => none
  | .lshl => match st with | .int y :: .long x :: r => some (.long (x <<< (y.toInt64 &&& 63)) :: r) | _ => none
  | .lushr => match st with | .int y :: .long x :: r => some (.long (x.toUInt64 >>> (y.toInt64.toUInt64 &&& Int64.toUInt64 63)).toInt64 :: r) | _ => none
  | .lcmp => match st with | .long y :: .long x :: r => some (.int (lg_cmp x y) :: r) | _ => none
  | .i2l => match st with | .int x :: r => some (.long x.toInt64 :: r) | _ => none
  | .l2i => match st with | .long x :: r => some (.int x.toInt32 :: r) | _ => none
  | .i2c => match st with | .int x :: r => some (.int (x.toUInt32 % 65536).toInt32 :: r) | _ => none
  | .i2b => match st with | .int x :: r => some (.int x.toInt8.toInt32 :: r) | _ => none
  | .dup => match st with | .int x :: r => some (.int x :: .int x :: r) | .ref x :: r => some (.ref x :: .ref x :: r) | _ => none
  | .dup2 => match st with | .int x :: .int y :: r => some (.int x :: .int y :: .int x :: .int y :: r) | .int x :: .ref y :: r => some (.int x :: .ref y :: .int x :: .ref y :: r) | .long x :: r => some (.long x :: .long x :: r) | _ => none
  | .pop => match st with | .int _ :: r => some r | .ref _ :: r => some r | .null :: r => some r | _ => none
  | _ => none
/-- an instruction's length -/
def gk_ln (i : Instr) : Nat := match i with
  | .bipush _ | .ldc _ | .iload _ | .lload _ | .aload _ | .istore _ | .lstore _ | .astore _ | .newarray _ => 2
  | .sipush _ | .ldc_w _ | .ldc2_w _ | .iinc _ _ | .ifCond _ _ | .if_icmp _ _ | .goto _ | .ifnull _ | .ifnonnull _ | .getfield _ | .putfield _ | .getstatic _ | .invokevirtual _ | .invokestatic _ | .invokespecial _ | .new _ | .anewarray _ => 3
  | _ => 1
section GKA
variable {p : Program} {l : Launch} {e : Env} {R : Room} {s : State} {m : MethodId} {args : Array Value} {below : List Frame} {meth : Method} {c : Code} {H : Heap} {locs : List Loc} {cells slots : Nat} {Q : State → Prop} {cc : ByteArray} {pc : Nat} {ls : Array Slot} {ad : Nat → Nat}
set_option maxHeartbeats 4000000 in
theorem gk_alu_row {i : Instr} {st st' : List Value} (hx : p.tables.exec = Jvm.exec) (hb : c.code = cc) (hdg : decode cc pc = .ok (i, gk_ln i)) (h : gk_alu i st = some st')
    (k : W p l e R s m args below meth c H locs cells slots Q (F0 m (pc + gk_ln i) ls (st'.map (gk_v ad)))) : W p l e R s m args below meth c H locs cells slots Q (F0 m pc ls (st.map (gk_v ad))) := by
  cases i <;> first | (simp only [gk_alu, reduceCtorEq] at h; done) | skip
  case iconst n => cases h; exact lv_iconst hx hb hdg (gk_lit_eq n) k
  case bipush n =>
    simp only [gk_alu] at h
    cases hg : gk_i8 n with
    | false => rw [hg] at h; cases h
    | true => rw [hg] at h; cases h; exact lv_bipush hx hb hdg (gk_lit8 hg) k
  case sipush n =>
    simp only [gk_alu] at h
    cases hg : gk_i16 n with
    | false => rw [hg] at h; cases h
    | true => rw [hg] at h; cases h; exact lv_sipush hx hb hdg (gk_lit16 hg) k
  case lconst n => cases h; exact lv_lconst hx hb hdg (gk_l01_eq n) k
  case aconst_null => cases h; exact lv_null hx hb hdg k
  case iadd => match st, h with | .int y :: .int x :: r, h => cases h; exact lv_iadd hx hb hdg k
  case isub => match st, h with | .int y :: .int x :: r, h => cases h; exact lv_isub hx hb hdg k
  case imul => match st, h with | .int y :: .int x :: r, h => cases h; exact lv_imul hx hb hdg k
  case iand => match st, h with | .int y :: .int x :: r, h => cases h; exact lv_iand hx hb hdg k
  case ior => match st, h with | .int y :: .int x :: r, h => cases h; exact lv_ior hx hb hdg k
  case ixor => match st, h with | .int y :: .int x :: r, h => cases h; exact lv_ixor hx hb hdg k
  case ineg => match st, h with | .int x :: r, h => cases h; exact lv_ineg hx hb hdg k
  case ishl => match st, h with | .int y :: .int x :: r, h => cases h; exact lv_ishl hx hb hdg k
  case ishr => match st, h with | .int y :: .int x :: r, h => cases h; exact lv_ishr hx hb hdg k
  case iushr => match st, h with | .int y :: .int x :: r, h => cases h; exact lv_iushr hx hb hdg rfl k
  case ladd => match st, h with | .long y :: .long x :: r, h => cases h; exact lv_ladd hx hb hdg k
  case lsub => match st, h with | .long y :: .long x :: r, h => cases h; exact lv_lsub hx hb hdg k
  case lmul => match st, h with | .long y :: .long x :: r, h => cases h; exact lv_lmul hx hb hdg k
  case land => match st, h with | .long y :: .long x :: r, h => cases h; exact lv_land hx hb hdg k
  case lor => match st, h with | .long y :: .long x :: r, h => cases h; exact lv_lor hx hb hdg k
  case lxor => match st, h with | .long y :: .long x :: r, h => cases h; exact lv_lxor hx hb hdg k
  case lneg => match st, h with | .long x :: r, h => cases h; exact lv_lneg hx hb hdg k
  case lshl => match st, h with | .int y :: .long x :: r, h => cases h; exact lv_lshl hx hb hdg rfl k
  case lushr => match st, h with | .int y :: .long x :: r, h => cases h; exact lv_lushr hx hb hdg rfl k
  case lcmp => match st, h with | .long y :: .long x :: r, h => cases h; exact W.lcmp hx hb hdg k
  case i2l => match st, h with | .int x :: r, h => cases h; exact lv_i2l hx hb hdg rfl k
  case l2i => match st, h with | .long x :: r, h => cases h; exact lv_l2i hx hb hdg rfl k
  case i2c => match st, h with | .int x :: r, h => cases h; exact lv_i2c hx hb hdg rfl k
  case i2b => match st, h with | .int x :: r, h => cases h; exact lv_i2b hx hb hdg rfl k
  case dup => match st, h with
    | .int x :: r, h => cases h; exact lv_dup hx hb hdg rfl k
    | .ref x :: r, h => cases h; exact lv_dup hx hb hdg rfl k
  case dup2 => match st, h with
    | .int x :: .int y :: r, h => cases h; exact lv_dup2_11 hx hb hdg rfl rfl k
    | .int x :: .ref y :: r, h => cases h; exact lv_dup2_11 hx hb hdg rfl rfl k
    | .long x :: r, h => cases h; exact lv_dup2_2 hx hb hdg rfl k
  case pop => match st, h with
    | .int x :: r, h => cases h; exact lv_pop hx hb (va := .int x) hdg rfl k
    | .ref x :: r, h => cases h; exact lv_pop hx hb (va := .ref (ad x)) hdg rfl k
    | .null :: r, h => cases h; exact lv_pop hx hb (va := .null) hdg rfl k
end GKA
end
section
/-! locals -/
def gk_kill (L : gk_L) (i : Nat) : gk_L := match i with
  | 0 => L
  | k + 1 => match L[k]? with
    | some (some (.long _)) => L.set k none
    | some (some (.double _)) => L.set k none
    | _ => L
def gk_s1 (L : gk_L) (i : Nat) (v : Value) : gk_L := (gk_kill L i).set i (some v)
def gk_s2 (L : gk_L) (i : Nat) (v : Value) : gk_L := ((gk_kill L i).set i (some v)).set (i + 1) none
def gk_lol (ad : Nat → Nat) (L : gk_L) : List (Nat × Value) := L.zipIdx.filterMap (fun q => q.1.map (fun v => (q.2, gk_v ad v)))
theorem gk_lol_mem {ad : Nat → Nat} {L : gk_L} {i : Nat} {v : Value} (h : L[i]? = some (some v)) : (i, gk_v ad v) ∈ gk_lol ad L := by
  refine List.mem_filterMap.mpr ⟨(some v, i), ?_, rfl⟩
  rw [List.mem_zipIdx_iff_getElem?]; exact h
theorem gk_lol_of {ad : Nat → Nat} {L : gk_L} {q : Nat × Value} (h : q ∈ gk_lol ad L) : ∃ v, L[q.1]? = some (some v) ∧ q.2 = gk_v ad v := by
  obtain ⟨⟨o, i⟩, h1, h2⟩ := List.mem_filterMap.mp h
  rw [List.mem_zipIdx_iff_getElem?] at h1
  cases o with
  | none => cases h2
  | some v => cases h2; exact ⟨v, h1, rfl⟩
theorem gk_Ls.has {ad : Nat → Nat} {ls : Array Slot} {n : Nat} {L : gk_L} (h : gk_Ls ad ls n L) : lv_has ls n (gk_lol ad L) := by
  refine ⟨h.1, h.2.2.1, fun q hq => ?_⟩
  obtain ⟨v, h1, h2⟩ := gk_lol_of hq
  rw [h2]; exact h.2.2.2 _ _ h1
theorem gk_kill_len (L : gk_L) (i : Nat) : (gk_kill L i).length = L.length := by
  unfold gk_kill
  split
  · rfl
  · split <;> simp
theorem gk_kill_get {L : gk_L} {i j : Nat} {w : Value} (h : (gk_kill L i)[j]? = some (some w)) : L[j]? = some (some w) ∧ ¬ (j + 1 = i ∧ w.category = 2) := by
  unfold gk_kill at h
  split at h
  · exact ⟨h, fun q => by omega⟩
  · rename_i k
    split at h
    · by_cases hj : j = k
      · subst hj
        rename_i x heq
        have hl := (List.getElem?_eq_some_iff.mp heq).1
        rw [List.getElem?_set_self hl] at h; cases h
      · rw [List.getElem?_set_ne (Ne.symm hj)] at h
        exact ⟨h, fun q => hj (by omega)⟩
    · by_cases hj : j = k
      · subst hj
        rename_i x heq
        have hl := (List.getElem?_eq_some_iff.mp heq).1
        rw [List.getElem?_set_self hl] at h; cases h
      · rw [List.getElem?_set_ne (Ne.symm hj)] at h
        exact ⟨h, fun q => hj (by omega)⟩
    · rename_i n1 n2
      refine ⟨h, fun q => ?_⟩
      obtain ⟨q1, q2⟩ := q
      have : j = k := by omega
      subst this
      cases w <;> simp [Value.category] at q2
      · exact n1 _ h
      · exact n2 _ h
theorem gk_Ls.st1 {ad : Nat → Nat} {ls' : Array Slot} {n i : Nat} {L : gk_L} {v : Value} (hn : L.length = n) (hi : i < n) (h : lv_has ls' n ((i, gk_v ad v) :: (gk_lol ad L).filter (fun q => !(q.1 == i) && !(q.1 + 1 == i && q.2.category == 2)))) : gk_Ls ad ls' n (gk_s1 L i v) := by
  have hk := gk_kill_len L i
  refine ⟨h.1, by rw [gk_s1, List.length_set, hk, hn], h.2.1, fun j w hj => ?_⟩
  by_cases e : j = i
  · subst e
    rw [gk_s1, List.getElem?_set_self (by omega)] at hj
    cases hj
    exact h.2.2 _ List.mem_cons_self
  · rw [gk_s1, List.getElem?_set_ne (Ne.symm e)] at hj
    obtain ⟨h1, h2⟩ := gk_kill_get hj
    refine h.2.2 (j, gk_v ad w) (List.mem_cons_of_mem _ (List.mem_filter.mpr ⟨gk_lol_mem h1, ?_⟩))
    simp only [gk_cat, Bool.and_eq_true, Bool.not_eq_true', beq_eq_false_iff_ne, ne_eq, Bool.and_eq_false_iff]
    refine ⟨e, ?_⟩
    by_cases a : j + 1 = i
    · right
      intro b
      exact h2 ⟨a, b⟩
    · left; exact a
theorem gk_Ls.st2 {ad : Nat → Nat} {ls' : Array Slot} {n i : Nat} {L : gk_L} {v : Value} (hn : L.length = n) (hi : i + 1 < n) (h : lv_has ls' n ((i, gk_v ad v) :: (gk_lol ad L).filter (fun q => !(q.1 == i) && (!(q.1 == i + 1) && !(q.1 + 1 == i && q.2.category == 2))))) : gk_Ls ad ls' n (gk_s2 L i v) := by
  have hk := gk_kill_len L i
  refine ⟨h.1, by rw [gk_s2, List.length_set, List.length_set, hk, hn], h.2.1, fun j w hj => ?_⟩
  by_cases e2 : j = i + 1
  · subst e2
    rw [gk_s2, List.getElem?_set_self (by rw [List.length_set]; omega)] at hj
    cases hj
  · rw [gk_s2, List.getElem?_set_ne (Ne.symm e2)] at hj
    by_cases e : j = i
    · subst e
      rw [List.getElem?_set_self (by omega)] at hj
      cases hj
      exact h.2.2 _ List.mem_cons_self
    · rw [List.getElem?_set_ne (Ne.symm e)] at hj
      obtain ⟨h1, h2⟩ := gk_kill_get hj
      refine h.2.2 (j, gk_v ad w) (List.mem_cons_of_mem _ (List.mem_filter.mpr ⟨gk_lol_mem h1, ?_⟩))
      simp only [gk_cat, Bool.and_eq_true, Bool.not_eq_true', beq_eq_false_iff_ne, ne_eq, Bool.and_eq_false_iff]
      refine ⟨e, e2, ?_⟩
      by_cases a : j + 1 = i
      · right
        intro b
        exact h2 ⟨a, b⟩
      · left; exact a
section GKL
variable {M : Nat → gk_J} {E : gk_E} {d j : Nat} {cf : Bool} {mc ms : Nat} {Γe : gk_G} {Q : Option Value → gk_H → Prop} {pc : Nat} {L : gk_L} {st : List Value} {Γ : gk_G} {h : gk_H} {nc ns : Nat}
theorem gk_go_alu {i : Instr} {st' : List Value} (hdg : decode (M j).2.1 pc = .ok (i, gk_ln i)) (ha : gk_alu i st = some st') (k : gk_Go M E d j cf mc ms Γe Q (pc + gk_ln i) L st' Γ h nc ns) : gk_Go M E d j cf mc ms Γe Q pc L st Γ h nc ns := by
  intro p l e R s m args below meth c base ro cs D QF H locs ls X hret hrel hS hL hac
  exact gk_alu_row X.1 X.2.1 hdg ha (k p l e R s m args below meth c base ro cs D QF H locs ls X hret hrel hS hL hac)
/-- which local an instruction reads, and how long it is -/
theorem gk_go_iload {i : Nat} {x : Int32} (hl : L[i]? = some (some (.int x))) (hdg : decode (M j).2.1 pc = .ok (.iload i, 2)) (k : gk_Go M E d j cf mc ms Γe Q (pc + 2) L (.int x :: st) Γ h nc ns) : gk_Go M E d j cf mc ms Γe Q pc L st Γ h nc ns := by
  intro p l e R s m args below meth c base ro cs D QF H locs ls X hret hrel hS hL hac
  exact lv_iload X.1 X.2.1 hdg (hL.2.2.2 _ _ hl) (k p l e R s m args below meth c base ro cs D QF H locs ls X hret hrel hS hL hac)
theorem gk_go_iload_n {i : Fin 4} {x : Int32} (hl : L[i.val]? = some (some (.int x))) (hdg : decode (M j).2.1 pc = .ok (.iload_n i, 1)) (k : gk_Go M E d j cf mc ms Γe Q (pc + 1) L (.int x :: st) Γ h nc ns) : gk_Go M E d j cf mc ms Γe Q pc L st Γ h nc ns := by
  intro p l e R s m args below meth c base ro cs D QF H locs ls X hret hrel hS hL hac
  exact lv_iload_n X.1 X.2.1 hdg rfl (hL.2.2.2 _ _ hl) (k p l e R s m args below meth c base ro cs D QF H locs ls X hret hrel hS hL hac)
theorem gk_go_lload {i : Nat} {x : Int64} (hl : L[i]? = some (some (.long x))) (hdg : decode (M j).2.1 pc = .ok (.lload i, 2)) (k : gk_Go M E d j cf mc ms Γe Q (pc + 2) L (.long x :: st) Γ h nc ns) : gk_Go M E d j cf mc ms Γe Q pc L st Γ h nc ns := by
  intro p l e R s m args below meth c base ro cs D QF H locs ls X hret hrel hS hL hac
  exact lv_lload X.1 X.2.1 hdg (hL.2.2.2 _ _ hl) (k p l e R s m args below meth c base ro cs D QF H locs ls X hret hrel hS hL hac)
theorem gk_go_lload_n {i : Fin 4} {x : Int64} (hl : L[i.val]? = some (some (.long x))) (hdg : decode (M j).2.1 pc = .ok (.lload_n i, 1)) (k : gk_Go M E d j cf mc ms Γe Q (pc + 1) L (.long x :: st) Γ h nc ns) : gk_Go M E d j cf mc ms Γe Q pc L st Γ h nc ns := by
  intro p l e R s m args below meth c base ro cs D QF H locs ls X hret hrel hS hL hac
  exact lv_lload_n X.1 X.2.1 hdg rfl (hL.2.2.2 _ _ hl) (k p l e R s m args below meth c base ro cs D QF H locs ls X hret hrel hS hL hac)
theorem gk_go_aload {i : Nat} {x : Nat} (hl : L[i]? = some (some (.ref x))) (hdg : decode (M j).2.1 pc = .ok (.aload i, 2)) (k : gk_Go M E d j cf mc ms Γe Q (pc + 2) L (.ref x :: st) Γ h nc ns) : gk_Go M E d j cf mc ms Γe Q pc L st Γ h nc ns := by
  intro p l e R s m args below meth c base ro cs D QF H locs ls X hret hrel hS hL hac
  exact lv_aload X.1 X.2.1 hdg (hL.2.2.2 _ _ hl) (k p l e R s m args below meth c base ro cs D QF H locs ls X hret hrel hS hL hac)
theorem gk_go_aload_n {i : Fin 4} {x : Nat} (hl : L[i.val]? = some (some (.ref x))) (hdg : decode (M j).2.1 pc = .ok (.aload_n i, 1)) (k : gk_Go M E d j cf mc ms Γe Q (pc + 1) L (.ref x :: st) Γ h nc ns) : gk_Go M E d j cf mc ms Γe Q pc L st Γ h nc ns := by
  intro p l e R s m args below meth c base ro cs D QF H locs ls X hret hrel hS hL hac
  exact lv_aload_n X.1 X.2.1 hdg rfl (hL.2.2.2 _ _ hl) (k p l e R s m args below meth c base ro cs D QF H locs ls X hret hrel hS hL hac)
theorem gk_go_aloadN {i : Nat} (hl : L[i]? = some (some .null)) (hdg : decode (M j).2.1 pc = .ok (.aload i, 2)) (k : gk_Go M E d j cf mc ms Γe Q (pc + 2) L (.null :: st) Γ h nc ns) : gk_Go M E d j cf mc ms Γe Q pc L st Γ h nc ns := by
  intro p l e R s m args below meth c base ro cs D QF H locs ls X hret hrel hS hL hac
  exact lv_aloadN X.1 X.2.1 hdg (hL.2.2.2 _ _ hl) (k p l e R s m args below meth c base ro cs D QF H locs ls X hret hrel hS hL hac)
theorem gk_go_istore {i : Nat} {x : Int32} (hi : i < L.length) (hdg : decode (M j).2.1 pc = .ok (.istore i, 2)) (k : gk_Go M E d j cf mc ms Γe Q (pc + 2) (gk_s1 L i (.int x)) st Γ h nc ns) : gk_Go M E d j cf mc ms Γe Q pc L (.int x :: st) Γ h nc ns := by
  intro p l e R s m args below meth c base ro cs D QF H locs ls X hret hrel hS hL hac
  have hi2 : i < (M j).2.2.1 := by rw [← hL.2.1]; exact hi
  exact lv_istore X.1 X.2.1 hdg hL.has hi2 rfl (fun ls' h' => k p l e R s m args below meth c base ro cs D QF H locs ls' X hret hrel hS (gk_Ls.st1 (v := .int x) hL.2.1 hi2 h') hac)
theorem gk_go_istore_n {i : Fin 4} {x : Int32} (hi : i.val < L.length) (hdg : decode (M j).2.1 pc = .ok (.istore_n i, 1)) (k : gk_Go M E d j cf mc ms Γe Q (pc + 1) (gk_s1 L i.val (.int x)) st Γ h nc ns) : gk_Go M E d j cf mc ms Γe Q pc L (.int x :: st) Γ h nc ns := by
  intro p l e R s m args below meth c base ro cs D QF H locs ls X hret hrel hS hL hac
  have hi2 : i.val < (M j).2.2.1 := by rw [← hL.2.1]; exact hi
  exact lv_istore_n X.1 X.2.1 hdg rfl hL.has hi2 rfl (fun ls' h' => k p l e R s m args below meth c base ro cs D QF H locs ls' X hret hrel hS (gk_Ls.st1 (v := .int x) hL.2.1 hi2 h') hac)
theorem gk_go_astore {i : Nat} {x : Nat} (hi : i < L.length) (hdg : decode (M j).2.1 pc = .ok (.astore i, 2)) (k : gk_Go M E d j cf mc ms Γe Q (pc + 2) (gk_s1 L i (.ref x)) st Γ h nc ns) : gk_Go M E d j cf mc ms Γe Q pc L (.ref x :: st) Γ h nc ns := by
  intro p l e R s m args below meth c base ro cs D QF H locs ls X hret hrel hS hL hac
  have hi2 : i < (M j).2.2.1 := by rw [← hL.2.1]; exact hi
  exact lv_astore X.1 X.2.1 hdg hL.has hi2 rfl (fun ls' h' => k p l e R s m args below meth c base ro cs D QF H locs ls' X hret hrel hS (gk_Ls.st1 (v := .ref x) hL.2.1 hi2 h') hac)
theorem gk_go_astore_n {i : Fin 4} {x : Nat} (hi : i.val < L.length) (hdg : decode (M j).2.1 pc = .ok (.astore_n i, 1)) (k : gk_Go M E d j cf mc ms Γe Q (pc + 1) (gk_s1 L i.val (.ref x)) st Γ h nc ns) : gk_Go M E d j cf mc ms Γe Q pc L (.ref x :: st) Γ h nc ns := by
  intro p l e R s m args below meth c base ro cs D QF H locs ls X hret hrel hS hL hac
  have hi2 : i.val < (M j).2.2.1 := by rw [← hL.2.1]; exact hi
  exact lv_astore_n X.1 X.2.1 hdg rfl hL.has hi2 rfl (fun ls' h' => k p l e R s m args below meth c base ro cs D QF H locs ls' X hret hrel hS (gk_Ls.st1 (v := .ref x) hL.2.1 hi2 h') hac)
theorem gk_go_lstore {i : Nat} {x : Int64} (hi : i + 1 < L.length) (hdg : decode (M j).2.1 pc = .ok (.lstore i, 2)) (k : gk_Go M E d j cf mc ms Γe Q (pc + 2) (gk_s2 L i (.long x)) st Γ h nc ns) : gk_Go M E d j cf mc ms Γe Q pc L (.long x :: st) Γ h nc ns := by
  intro p l e R s m args below meth c base ro cs D QF H locs ls X hret hrel hS hL hac
  have hi2 : i + 1 < (M j).2.2.1 := by rw [← hL.2.1]; exact hi
  exact lv_lstore X.1 X.2.1 hdg hL.has hi2 rfl (fun ls' h' => k p l e R s m args below meth c base ro cs D QF H locs ls' X hret hrel hS (gk_Ls.st2 (v := .long x) hL.2.1 hi2 h') hac)
theorem gk_go_lstore_n {i : Fin 4} {x : Int64} (hi : i.val + 1 < L.length) (hdg : decode (M j).2.1 pc = .ok (.lstore_n i, 1)) (k : gk_Go M E d j cf mc ms Γe Q (pc + 1) (gk_s2 L i.val (.long x)) st Γ h nc ns) : gk_Go M E d j cf mc ms Γe Q pc L (.long x :: st) Γ h nc ns := by
  intro p l e R s m args below meth c base ro cs D QF H locs ls X hret hrel hS hL hac
  have hi2 : i.val + 1 < (M j).2.2.1 := by rw [← hL.2.1]; exact hi
  exact lv_lstore_n X.1 X.2.1 hdg rfl hL.has hi2 rfl (fun ls' h' => k p l e R s m args below meth c base ro cs D QF H locs ls' X hret hrel hS (gk_Ls.st2 (v := .long x) hL.2.1 hi2 h') hac)
theorem gk_go_iinc {i : Nat} {n : Int} {x : Int32} (hl : L[i]? = some (some (.int x))) (hdg : decode (M j).2.1 pc = .ok (.iinc i n, 3)) (k : gk_Go M E d j cf mc ms Γe Q (pc + 3) (gk_s1 L i (.int (x + gk_lit n))) st Γ h nc ns) : gk_Go M E d j cf mc ms Γe Q pc L st Γ h nc ns := by
  intro p l e R s m args below meth c base ro cs D QF H locs ls X hret hrel hS hL hac
  have hi2 : i < (M j).2.2.1 := by rw [← hL.2.1]; exact (List.getElem?_eq_some_iff.mp hl).1
  obtain ⟨q, hq⟩ := List.getElem?_of_mem (gk_lol_mem (ad := gk_ad base ro) hl)
  exact lv_iinc (v := x + gk_lit n) X.1 X.2.1 hdg hL.has hq (by rw [gk_lit_eq]) hi2 rfl (fun ls' h' => k p l e R s m args below meth c base ro cs D QF H locs ls' X hret hrel hS (gk_Ls.st1 (v := .int (x + gk_lit n)) hL.2.1 hi2 h') hac)
/-- fewer locals known -/
theorem gk_go_mono {L' : gk_L} (hl : L'.length = L.length) (hs : ∀ (i : Nat) (v : Value), L'[i]? = some (some v) → L[i]? = some (some v)) (k : gk_Go M E d j cf mc ms Γe Q pc L' st Γ h nc ns) : gk_Go M E d j cf mc ms Γe Q pc L st Γ h nc ns := by
  intro p l e R s m args below meth c base ro cs D QF H locs ls X hret hrel hS hL hac
  exact k p l e R s m args below meth c base ro cs D QF H locs ls X hret hrel hS ⟨hL.1, hl.trans hL.2.1, hL.2.2.1, fun i v hi => hL.2.2.2 i v (hs i v hi)⟩ hac
end GKL
end
section
/-! the heap's rows -/
theorem gk_u_lays {C : String} {T : u_T} {N : Nat} : (u_ws C T N).all goodWord = true := by
  rw [List.all_eq_true]
  intro w hw
  obtain ⟨k, -, rfl⟩ := List.mem_map.mp hw
  unfold u_lay
  split <;> rfl
set_option maxRecDepth 100000 in
theorem gk_clok {ci : Nat} {C : String} {T : u_T} {N : Nat} (hc : vwCl[ci]? = some (C, T, N)) : (∀ w ∈ u_ws C T N, w ∈ gk_TT) ∧ (∃ ty0 : Nat → FieldType, ∀ k, k < N → parseFieldDescriptor (T k).2.2.1 = some (ty0 k)) ∧ (∀ a, a < N → ∀ b, b < N → a ≠ b → (T a).2.1 ≠ (T b).2.1) := by
  have key : (∀ w ∈ u_ws C T N, w ∈ lw_tbl) → ∀ w ∈ u_ws C T N, w ∈ gk_TT := fun h w hw => gk_TT_of (h w hw) (List.all_eq_true.mp gk_u_lays w hw)
  match ci, hc with
  | 0, hc => cases hc; exact ⟨key (by decide +kernel), ⟨_, tyX1_ok⟩, nmX1⟩
  | 1, hc => cases hc; exact ⟨key (by decide +kernel), ⟨_, tyX2_ok⟩, nmX2⟩
  | 2, hc => cases hc; exact ⟨key (by decide +kernel), ⟨_, tyX3_ok⟩, nmX3⟩
  | 3, hc => cases hc; exact ⟨key (by decide +kernel), ⟨_, tyX4_ok⟩, nmX4⟩
  | 4, hc => cases hc; exact ⟨key (by decide +kernel), ⟨_, tyX5_ok⟩, nmX5⟩
  | 5, hc => cases hc; exact ⟨key (by decide +kernel), ⟨_, tyX6_ok⟩, nmX6⟩
  | 6, hc => cases hc; exact ⟨key (by decide +kernel), ⟨_, tyX7_ok⟩, nmX7⟩
  | 7, hc => cases hc; exact ⟨key (by decide +kernel), ⟨_, tyX8_ok⟩, nmX8⟩
  | 8, hc => cases hc; exact ⟨key (by decide +kernel), ⟨_, tyX9_ok⟩, nmX9⟩
  | 9, hc => cases hc; exact ⟨key (by decide +kernel), ⟨_, tyX10_ok⟩, nmX10⟩
  | 10, hc => cases hc; exact ⟨key (by decide +kernel), ⟨_, tyX11_ok⟩, nmX11⟩
  | k + 11, hc => simp [vwCl] at hc
/-- an entry of a pool's fields says what is so: kd 0 int, 1 boolean, 2 a reference that is read, 5 one that its own constructor writes -/
def gk_kok (own dec : String) (fin : Bool) (b : Option Bool) (kd : Nat) (ty : FieldType) : Prop := match kd with
  | 0 => b = some false ∧ ty = .int ∧ fin = false
  | 1 => b = some false ∧ ty = .boolean ∧ fin = false
  | 2 => b = some true
  | _ => b = some true ∧ fin = true ∧ dec = own ∧ ((∃ n, ty = .object n) ∨ ∃ t, ty = .array t)
def gk_fok (own : String) (idx ci sl kd : Nat) : Prop := ∃ (C : String) (T : u_T) (N : Nat) (ty : FieldType), vwCl[ci]? = some (C, T, N) ∧ sl < N ∧ (gk_bs ci).length = N ∧ Cond.fieldLink own idx (T sl).1 (T sl).2.1 (T sl).2.2.1 ∈ gk_TT ∧ parseFieldDescriptor (T sl).2.2.1 = some ty ∧ gk_kok own (T sl).1 (T sl).2.2.2 ((gk_bs ci)[sl]?) kd ty
theorem gk_fs_get {ad : Nat → Nat} {bs : List Bool} {rs : List (Option Nat)} {f : Nat → Int32} {i : Nat} {b : Bool} (h : bs[i]? = some b) : (gk_fs ad bs rs f)[i]? = some (bif b then va_rf ((rs.getD i none).map ad) else .int (f i)) := by
  rw [gk_fs, List.getElem?_mapIdx, h]; rfl
theorem gk_fs_len {ad : Nat → Nat} {bs : List Bool} {rs : List (Option Nat)} {f : Nat → Int32} : (gk_fs ad bs rs f).length = bs.length := by rw [gk_fs, List.length_mapIdx]
theorem gk_fs_seti {ad : Nat → Nat} {bs : List Bool} {rs : List (Option Nat)} {f : Nat → Int32} {i : Nat} {x : Int32} (h : bs[i]? = some false) : (gk_fs ad bs rs f).set i (.int x) = gk_fs ad bs rs (upd f i x) := by
  have hl : i < bs.length := (List.getElem?_eq_some_iff.mp h).1
  refine List.ext_getElem? fun q => ?_
  by_cases hq : q = i
  · subst hq
    rw [List.getElem?_set_self (by rw [gk_fs_len]; exact hl), gk_fs_get h]
    simp [upd]
  · rw [List.getElem?_set_ne (Ne.symm hq), gk_fs, gk_fs, List.getElem?_mapIdx, List.getElem?_mapIdx]
    simp [upd, hq]
theorem gk_fs_setr {ad : Nat → Nat} {bs : List Bool} {rs : List (Option Nat)} {f : Nat → Int32} {i : Nat} {a : Option Nat} (h : bs[i]? = some true) (hr : i < rs.length) : (gk_fs ad bs rs f).set i (va_rf (a.map ad)) = gk_fs ad bs (rs.set i a) f := by
  have hl : i < bs.length := (List.getElem?_eq_some_iff.mp h).1
  refine List.ext_getElem? fun q => ?_
  by_cases hq : q = i
  · subst hq
    rw [List.getElem?_set_self (by rw [gk_fs_len]; exact hl), gk_fs_get h]
    simp [List.getD_eq_getElem?_getD, List.getElem?_set_self hr]
  · rw [List.getElem?_set_ne (Ne.symm hq), gk_fs, gk_fs, List.getElem?_mapIdx, List.getElem?_mapIdx]
    simp [List.getD_eq_getElem?_getD, List.getElem?_set_ne (Ne.symm hq)]
theorem gk_ad_own {base : Nat} {ro : Nat → Nat} {k : Nat} (h : k < 1000000) : gk_ad base ro k = base + k := if_pos h
theorem gk_ad_ro {base : Nat} {ro : Nat → Nat} {k : Nat} : gk_ad base ro (1000000 + k) = ro k := by
  rw [gk_ad, if_neg (Nat.not_lt.mpr (Nat.le_add_right _ _)), Nat.add_sub_cancel_left]
theorem gk_lt {base : Nat} {ro : Nat → Nat} {cs : Nat → ClassId} {D : va_G} {Γ : gk_G} {h : gk_H} {H : Heap} (hr : gk_rel base ro cs D Γ h H) {k : Nat} {κ : gk_K} (hk : Γ[k]? = some κ) : k < 1000000 := Nat.lt_of_lt_of_le (List.getElem?_eq_some_iff.mp hk).1 hr.1
theorem gk_up_ne {α : Type} {f : Nat → α} {k q : Nat} {v : α} (h : q ≠ k) : va_up f k v q = f q := if_neg h
theorem gk_up_eq {α : Type} {f : Nat → α} {k : Nat} {v : α} : va_up f k v k = v := if_pos rfl
/-- a change of one cell's numbers -/
theorem gk_rel_set {base : Nat} {ro : Nat → Nat} {cs : Nat → ClassId} {D : va_G} {Γ : gk_G} {h h' : gk_H} {H H1 : Heap} {k : Nat} {κ κ' : gk_K} {e : va_E} (hr : gk_rel base ro cs D Γ h H) (hk : Γ[k]? = some κ) (hh : ∀ q, q ≠ k → h'.1 q = h.1 q ∧ h'.2.1 q = h.2.1 q ∧ h'.2.2 q = h.2.2 q) (he : e = gk_cell (gk_ad base ro) cs κ' (h'.1 k) (h'.2.1 k) (h'.2.2 k)) (hP : va_P D vwCl ((gk_ws base (gk_ad base ro) cs Γ h).set k (base + k, e)) H1) : gk_rel base ro cs D (Γ.set k κ') h' H1 := by
  refine ⟨by rw [List.length_set]; exact hr.1, ?_⟩
  rw [he, gk_ws_set hk rfl hh] at hP
  exact hP
theorem gk_rel_set0 {base : Nat} {ro : Nat → Nat} {cs : Nat → ClassId} {D : va_G} {Γ : gk_G} {h h' : gk_H} {H H1 : Heap} {k : Nat} {κ : gk_K} {e : va_E} (hr : gk_rel base ro cs D Γ h H) (hk : Γ[k]? = some κ) (hh : ∀ q, q ≠ k → h'.1 q = h.1 q ∧ h'.2.1 q = h.2.1 q ∧ h'.2.2 q = h.2.2 q) (he : e = gk_cell (gk_ad base ro) cs κ (h'.1 k) (h'.2.1 k) (h'.2.2 k)) (hP : va_P D vwCl ((gk_ws base (gk_ad base ro) cs Γ h).set k (base + k, e)) H1) : gk_rel base ro cs D Γ h' H1 := by
  have h9 := gk_rel_set hr hk hh he hP
  rwa [← gk_set_self hk] at h9
def gk_hf (h : gk_H) (k i : Nat) (x : Int32) : gk_H := (va_up h.1 k (upd (h.1 k) i x), h.2)
def gk_ha (h : gk_H) (k i : Nat) (x : Int32) : gk_H := (h.1, va_up h.2.1 k (upd (h.2.1 k) i x), h.2.2)
def gk_hl (h : gk_H) (k i : Nat) (x : Int64) : gk_H := (h.1, h.2.1, va_up h.2.2 k (vp_updL (h.2.2 k) i x))
section GKH
variable {M : Nat → gk_J} {E : gk_E} {d j : Nat} {cf : Bool} {mc ms : Nat} {Γe : gk_G} {Q : Option Value → gk_H → Prop} {pc : Nat} {L : gk_L} {st : List Value} {Γ : gk_G} {h : gk_H} {nc ns : Nat}
set_option maxHeartbeats 1000000 in
theorem gk_go_get {idx ci sl kd k : Nat} {b : Bool} {rs : List (Option Nat)} (hf : gk_fok (M j).1.cls idx ci sl kd) (hbs : (gk_bs ci)[sl]? = some b) (hk : Γ[k]? = some (0, ci, rs)) (hdg : decode (M j).2.1 pc = .ok (.getfield idx, 3))
    (kk : gk_Go M E d j cf mc ms Γe Q (pc + 3) L ((bif b then va_rf (rs.getD sl none) else .int (h.1 k sl)) :: st) Γ h nc ns) : gk_Go M E d j cf mc ms Γe Q pc L (.ref k :: st) Γ h nc ns := by
  intro p l e R s m args below meth c base ro cs D QF H locs ls X hret hrel hS hL hac
  obtain ⟨hx, hb, hml, hown, hts, hin, hR, hK, hRO, hbs0⟩ := id X
  obtain ⟨C, T, N, ty, h1, h2, h3, h4, h5, h6⟩ := hf
  obtain ⟨c1, ⟨ty0, c2⟩, c3⟩ := gk_clok h1
  have e1 : gk_v (gk_ad base ro) (.ref k) = .ref (base + k) := by show Value.ref (gk_ad base ro k) = _; rw [gk_ad_own (gk_lt hrel hk)]
  rw [List.map_cons, e1]
  refine va_get (D := D) (ci := ci) (C := C) (T := T) (N := N) (v := bif b then va_rf ((rs.getD sl none).map (gk_ad base ro)) else .int (h.1 k sl)) hx hb hts c1 hown hK hrel.2 k (fs := gk_fs (gk_ad base ro) (gk_bs ci) rs (h.1 k)) (gk_ws_get hk) h1 sl h2 (hts _ h4) (fun _ h9 => h9) (gk_fs_get hbs) hdg ?_
  have h9 := kk p l e R s m args below meth c base ro cs D QF H locs ls X hret hrel hS hL hac
  have e2 : gk_v (gk_ad base ro) (bif b then va_rf (rs.getD sl none) else .int (h.1 k sl)) = bif b then va_rf ((rs.getD sl none).map (gk_ad base ro)) else .int (h.1 k sl) := by
    cases b with
    | false => rfl
    | true => cases rs.getD sl none <;> rfl
  rw [List.map_cons, e2] at h9
  exact h9
set_option maxHeartbeats 1000000 in
theorem gk_go_puti {idx ci sl kd k : Nat} {x : Int32} {rs : List (Option Nat)} (hf : gk_fok (M j).1.cls idx ci sl kd) (hkd : kd = 0 ∨ (kd = 1 ∧ (x = 0 ∨ x = 1))) (hk : Γ[k]? = some (0, ci, rs)) (hdg : decode (M j).2.1 pc = .ok (.putfield idx, 3))
    (kk : gk_Go M E d j cf mc ms Γe Q (pc + 3) L st Γ (gk_hf h k sl x) nc ns) : gk_Go M E d j cf mc ms Γe Q pc L (.int x :: .ref k :: st) Γ h nc ns := by
  intro p l e R s m args below meth c base ro cs D QF H locs ls X hret hrel hS hL hac
  obtain ⟨hx, hb, hml, hown, hts, hin, hR, hK, hRO, hbs0⟩ := id X
  obtain ⟨C, T, N, ty, h1, h2, h3, h4, h5, h6⟩ := hf
  obtain ⟨c1, ⟨ty0, c2⟩, c3⟩ := gk_clok h1
  have e1 : gk_v (gk_ad base ro) (.ref k) = .ref (base + k) := by show Value.ref (gk_ad base ro k) = _; rw [gk_ad_own (gk_lt hrel hk)]
  rw [List.map_cons, List.map_cons, e1]
  have h7 : (gk_bs ci)[sl]? = some false ∧ (T sl).2.2.2 = false ∧ narrow ty (.int x) = .int x ∧ fits ty (.int x) = true := by
    rcases hkd with rfl | ⟨rfl, hx01⟩
    · obtain ⟨g1, rfl, g3⟩ := h6; exact ⟨g1, g3, rfl, rfl⟩
    · obtain ⟨g1, rfl, g3⟩ := h6
      rcases hx01 with rfl | rfl <;> exact ⟨g1, g3, by decide +kernel, by decide +kernel⟩
  refine va_put (D := D) (ci := ci) (C := C) (T := T) (N := N) (v := .int x) (A := gk_A base) (H0 := s.heap) hx hb hts c1 ty0 c2 c3 hown hK hrel.2 gk_ws_D hS k (fs := gk_fs (gk_ad base ro) (gk_bs ci) rs (h.1 k)) (gk_ws_get hk) h1 sl h2 (hts _ h4) (fun _ h9 => h9) h7.2.1 h5 h7.2.2.1 h7.2.2.2 (by rw [gk_fs_len, h3]; exact h2) hdg (fun H1 locs1 hP1 hD1 hS1 => ?_)
  refine kk p l e R s m args below meth c base ro cs D QF H1 locs1 ls X hret ?_ hS1 hL hac
  refine gk_rel_set0 hrel hk (fun q hq => ⟨gk_up_ne hq, rfl, rfl⟩) ?_ hP1
  show Sum.inr (ci, _) = Sum.inr (ci, gk_fs (gk_ad base ro) (gk_bs ci) rs (va_up h.1 k (upd (h.1 k) sl x) k))
  rw [gk_up_eq, gk_fs_seti h7.1]
set_option maxHeartbeats 1000000 in
theorem gk_go_putr {idx ci sl kd k : Nat} {a : Option Nat} {rs : List (Option Nat)} (hcf : cf = true) (hf : gk_fok (M j).1.cls idx ci sl kd) (hkd : kd = 5) (hk : Γ[k]? = some (0, ci, rs)) (hr : sl < rs.length) (hdg : decode (M j).2.1 pc = .ok (.putfield idx, 3))
    (kk : gk_Go M E d j cf mc ms Γe Q (pc + 3) L st (Γ.set k (0, ci, rs.set sl a)) h nc ns) : gk_Go M E d j cf mc ms Γe Q pc L (va_rf a :: .ref k :: st) Γ h nc ns := by
  intro p l e R s m args below meth c base ro cs D QF H locs ls X hret hrel hS hL hac
  obtain ⟨hx, hb, hml, hown, hts, hin, hR, hK, hRO, hbs0⟩ := id X
  obtain ⟨C, T, N, ty, h1, h2, h3, h4, h5, h6⟩ := hf
  obtain ⟨c1, ⟨ty0, c2⟩, c3⟩ := gk_clok h1
  subst hkd
  obtain ⟨g1, g2, g3, g4⟩ := h6
  have e1 : gk_v (gk_ad base ro) (.ref k) = .ref (base + k) := by show Value.ref (gk_ad base ro k) = _; rw [gk_ad_own (gk_lt hrel hk)]
  have e2 : gk_v (gk_ad base ro) (va_rf a) = va_rf (a.map (gk_ad base ro)) := by cases a <;> rfl
  rw [List.map_cons, List.map_cons, e1, e2]
  have h7 : narrow ty (va_rf (a.map (gk_ad base ro))) = va_rf (a.map (gk_ad base ro)) ∧ fits ty (va_rf (a.map (gk_ad base ro))) = true := by
    rcases g4 with ⟨n, rfl⟩ | ⟨t, rfl⟩ <;> cases a <;> exact ⟨rfl, rfl⟩
  refine va_putF (D := D) (ci := ci) (C := C) (T := T) (N := N) (v := va_rf (a.map (gk_ad base ro))) (A := gk_A base) (H0 := s.heap) hx hb hts c1 ty0 c2 c3 hown hK hrel.2 gk_ws_D hS k (fs := gk_fs (gk_ad base ro) (gk_bs ci) rs (h.1 k)) (gk_ws_get hk) h1 sl h2 (hts _ h4) (fun _ h9 => h9) g2 (hin hcf) g3 h5 h7.1 h7.2 (by rw [gk_fs_len, h3]; exact h2) hdg (fun H1 locs1 hP1 hD1 hS1 => ?_)
  refine kk p l e R s m args below meth c base ro cs D QF H1 locs1 ls X hret ?_ hS1 hL (by rw [List.length_set]; exact hac)
  refine gk_rel_set hrel hk (fun q hq => ⟨rfl, rfl, rfl⟩) ?_ hP1
  show Sum.inr (ci, _) = Sum.inr (ci, gk_fs (gk_ad base ro) (gk_bs ci) (rs.set sl a) (h.1 k))
  rw [gk_fs_setr g1 hr]
theorem gk_go_iald {k n : Nat} {i : Int32} {rs : List (Option Nat)} (hk : Γ[k]? = some (1, n, rs)) (hi : vp_in i n) (hdg : decode (M j).2.1 pc = .ok (.iaload, 1)) (kk : gk_Go M E d j cf mc ms Γe Q (pc + 1) L (.int (h.2.1 k i.toNatClampNeg) :: st) Γ h nc ns) : gk_Go M E d j cf mc ms Γe Q pc L (.int i :: .ref k :: st) Γ h nc ns := by
  intro p l e R s m args below meth c base ro cs D QF H locs ls X hret hrel hS hL hac
  obtain ⟨hx, hb, hml, hown, hts, hin, hR, hK, hRO, hbs0⟩ := id X
  have e1 : gk_v (gk_ad base ro) (.ref k) = .ref (base + k) := by show Value.ref (gk_ad base ro k) = _; rw [gk_ad_own (gk_lt hrel hk)]
  rw [List.map_cons, List.map_cons, e1]
  exact va_iald (D := D) (cA := cs 0) (n := n) (f := h.2.1 k) hx hb hK hrel.2 k 0 (gk_ws_get hk) rfl hi hdg (kk p l e R s m args below meth c base ro cs D QF H locs ls X hret hrel hS hL hac)
theorem gk_go_cald {k n : Nat} {i : Int32} {rs : List (Option Nat)} (hk : Γ[k]? = some (2, n, rs)) (hi : vp_in i n) (hdg : decode (M j).2.1 pc = .ok (.caload, 1)) (kk : gk_Go M E d j cf mc ms Γe Q (pc + 1) L (.int (h.2.1 k i.toNatClampNeg) :: st) Γ h nc ns) : gk_Go M E d j cf mc ms Γe Q pc L (.int i :: .ref k :: st) Γ h nc ns := by
  intro p l e R s m args below meth c base ro cs D QF H locs ls X hret hrel hS hL hac
  obtain ⟨hx, hb, hml, hown, hts, hin, hR, hK, hRO, hbs0⟩ := id X
  have e1 : gk_v (gk_ad base ro) (.ref k) = .ref (base + k) := by show Value.ref (gk_ad base ro k) = _; rw [gk_ad_own (gk_lt hrel hk)]
  rw [List.map_cons, List.map_cons, e1]
  exact va_cald (D := D) (cA := cs 1) (n := n) (f := h.2.1 k) hx hb hK hrel.2 k 1 (gk_ws_get hk) rfl hi hdg (kk p l e R s m args below meth c base ro cs D QF H locs ls X hret hrel hS hL hac)
theorem gk_go_lald {k n : Nat} {i : Int32} {rs : List (Option Nat)} (hk : Γ[k]? = some (3, n, rs)) (hi : vp_in i n) (hdg : decode (M j).2.1 pc = .ok (.laload, 1)) (kk : gk_Go M E d j cf mc ms Γe Q (pc + 1) L (.long (h.2.2 k i.toNatClampNeg) :: st) Γ h nc ns) : gk_Go M E d j cf mc ms Γe Q pc L (.int i :: .ref k :: st) Γ h nc ns := by
  intro p l e R s m args below meth c base ro cs D QF H locs ls X hret hrel hS hL hac
  obtain ⟨hx, hb, hml, hown, hts, hin, hR, hK, hRO, hbs0⟩ := id X
  have e1 : gk_v (gk_ad base ro) (.ref k) = .ref (base + k) := by show Value.ref (gk_ad base ro k) = _; rw [gk_ad_own (gk_lt hrel hk)]
  rw [List.map_cons, List.map_cons, e1]
  exact va_lald (D := D) (cA := cs 2) (n := n) (f := h.2.2 k) hx hb hK hrel.2 k 2 (gk_ws_get hk) rfl hi hdg (kk p l e R s m args below meth c base ro cs D QF H locs ls X hret hrel hS hL hac)
theorem gk_go_iast {k n : Nat} {i x : Int32} {rs : List (Option Nat)} (hk : Γ[k]? = some (1, n, rs)) (hi : vp_in i n) (hdg : decode (M j).2.1 pc = .ok (.iastore, 1)) (kk : gk_Go M E d j cf mc ms Γe Q (pc + 1) L st Γ (gk_ha h k i.toNatClampNeg x) nc ns) : gk_Go M E d j cf mc ms Γe Q pc L (.int x :: .int i :: .ref k :: st) Γ h nc ns := by
  intro p l e R s m args below meth c base ro cs D QF H locs ls X hret hrel hS hL hac
  obtain ⟨hx, hb, hml, hown, hts, hin, hR, hK, hRO, hbs0⟩ := id X
  have e1 : gk_v (gk_ad base ro) (.ref k) = .ref (base + k) := by show Value.ref (gk_ad base ro k) = _; rw [gk_ad_own (gk_lt hrel hk)]
  rw [List.map_cons, List.map_cons, List.map_cons, e1]
  refine va_iast (D := D) (cA := cs 0) (n := n) (f := h.2.1 k) (A := gk_A base) (H0 := s.heap) hx hb hK hrel.2 gk_ws_D hS k 0 (gk_ws_get hk) rfl hi hdg (fun H1 locs1 hP1 hD1 hS1 => ?_)
  refine kk p l e R s m args below meth c base ro cs D QF H1 locs1 ls X hret ?_ hS1 hL hac
  refine gk_rel_set0 hrel hk (fun q hq => ⟨rfl, gk_up_ne hq, rfl⟩) ?_ hP1
  show _ = Sum.inl (cs 0, n, Sum.inl (va_up h.2.1 k (upd (h.2.1 k) i.toNatClampNeg x) k))
  rw [gk_up_eq]
theorem gk_go_cast {k n : Nat} {i x : Int32} {rs : List (Option Nat)} (hk : Γ[k]? = some (2, n, rs)) (hi : vp_in i n) (hdg : decode (M j).2.1 pc = .ok (.castore, 1)) (kk : gk_Go M E d j cf mc ms Γe Q (pc + 1) L st Γ (gk_ha h k i.toNatClampNeg (vp_nar .char x)) nc ns) : gk_Go M E d j cf mc ms Γe Q pc L (.int x :: .int i :: .ref k :: st) Γ h nc ns := by
  intro p l e R s m args below meth c base ro cs D QF H locs ls X hret hrel hS hL hac
  obtain ⟨hx, hb, hml, hown, hts, hin, hR, hK, hRO, hbs0⟩ := id X
  have e1 : gk_v (gk_ad base ro) (.ref k) = .ref (base + k) := by show Value.ref (gk_ad base ro k) = _; rw [gk_ad_own (gk_lt hrel hk)]
  rw [List.map_cons, List.map_cons, List.map_cons, e1]
  refine va_cast (D := D) (cA := cs 1) (n := n) (f := h.2.1 k) (A := gk_A base) (H0 := s.heap) hx hb hK hrel.2 gk_ws_D hS k 1 (gk_ws_get hk) rfl hi hdg (fun H1 locs1 hP1 hD1 hS1 => ?_)
  refine kk p l e R s m args below meth c base ro cs D QF H1 locs1 ls X hret ?_ hS1 hL hac
  refine gk_rel_set0 hrel hk (fun q hq => ⟨rfl, gk_up_ne hq, rfl⟩) ?_ hP1
  show _ = Sum.inl (cs 1, n, Sum.inl (va_up h.2.1 k (upd (h.2.1 k) i.toNatClampNeg (vp_nar .char x)) k))
  rw [gk_up_eq]
theorem gk_go_last {k n : Nat} {i : Int32} {x : Int64} {rs : List (Option Nat)} (hk : Γ[k]? = some (3, n, rs)) (hi : vp_in i n) (hdg : decode (M j).2.1 pc = .ok (.lastore, 1)) (kk : gk_Go M E d j cf mc ms Γe Q (pc + 1) L st Γ (gk_hl h k i.toNatClampNeg x) nc ns) : gk_Go M E d j cf mc ms Γe Q pc L (.long x :: .int i :: .ref k :: st) Γ h nc ns := by
  intro p l e R s m args below meth c base ro cs D QF H locs ls X hret hrel hS hL hac
  obtain ⟨hx, hb, hml, hown, hts, hin, hR, hK, hRO, hbs0⟩ := id X
  have e1 : gk_v (gk_ad base ro) (.ref k) = .ref (base + k) := by show Value.ref (gk_ad base ro k) = _; rw [gk_ad_own (gk_lt hrel hk)]
  rw [List.map_cons, List.map_cons, List.map_cons, e1]
  refine va_last (D := D) (cA := cs 2) (n := n) (f := h.2.2 k) (A := gk_A base) (H0 := s.heap) hx hb hK hrel.2 gk_ws_D hS k 2 (gk_ws_get hk) rfl hi hdg (fun H1 locs1 hP1 hD1 hS1 => ?_)
  refine kk p l e R s m args below meth c base ro cs D QF H1 locs1 ls X hret ?_ hS1 hL hac
  refine gk_rel_set0 hrel hk (fun q hq => ⟨rfl, rfl, gk_up_ne hq⟩) ?_ hP1
  show _ = Sum.inl (cs 2, n, Sum.inr (Sum.inl (va_up h.2.2 k (vp_updL (h.2.2 k) i.toNatClampNeg x) k)))
  rw [gk_up_eq]
theorem gk_go_alen {k t n : Nat} {rs : List (Option Nat)} (hk : Γ[k]? = some (t, n, rs)) (ht : t = 1 ∨ t = 2 ∨ t = 3) (hdg : decode (M j).2.1 pc = .ok (.arraylength, 1)) (kk : gk_Go M E d j cf mc ms Γe Q (pc + 1) L (.int (OfNat.ofNat n) :: st) Γ h nc ns) : gk_Go M E d j cf mc ms Γe Q pc L (.ref k :: st) Γ h nc ns := by
  intro p l e R s m args below meth c base ro cs D QF H locs ls X hret hrel hS hL hac
  obtain ⟨hx, hb, hml, hown, hts, hin, hR, hK, hRO, hbs0⟩ := id X
  have e1 : gk_v (gk_ad base ro) (.ref k) = .ref (base + k) := by show Value.ref (gk_ad base ro k) = _; rw [gk_ad_own (gk_lt hrel hk)]
  rw [List.map_cons, e1]
  have h9 := kk p l e R s m args below meth c base ro cs D QF H locs ls X hret hrel hS hL hac
  rcases ht with rfl | rfl | rfl
  · exact va_alen (D := D) (cA := cs 0) (x := (n, .inl (h.2.1 k))) hx hb hK hrel.2 k 0 (gk_ws_get hk) rfl rfl hdg h9
  · exact va_alen (D := D) (cA := cs 1) (x := (n, .inl (h.2.1 k))) hx hb hK hrel.2 k 1 (gk_ws_get hk) rfl rfl hdg h9
  · exact va_alen (D := D) (cA := cs 2) (x := (n, .inr (.inl (h.2.2 k)))) hx hb hK hrel.2 k 2 (gk_ws_get hk) rfl rfl hdg h9
theorem gk_go_aald {k n : Nat} {i : Int32} {rs : List (Option Nat)} (hk : Γ[k]? = some (4, n, rs)) (hi : vp_in i n) (hdg : decode (M j).2.1 pc = .ok (.aaload, 1)) (kk : gk_Go M E d j cf mc ms Γe Q (pc + 1) L (va_rf (rs.getD i.toNatClampNeg none) :: st) Γ h nc ns) : gk_Go M E d j cf mc ms Γe Q pc L (.int i :: .ref k :: st) Γ h nc ns := by
  intro p l e R s m args below meth c base ro cs D QF H locs ls X hret hrel hS hL hac
  obtain ⟨hx, hb, hml, hown, hts, hin, hR, hK, hRO, hbs0⟩ := id X
  have e1 : gk_v (gk_ad base ro) (.ref k) = .ref (base + k) := by show Value.ref (gk_ad base ro k) = _; rw [gk_ad_own (gk_lt hrel hk)]
  rw [List.map_cons, List.map_cons, e1]
  have h9 := kk p l e R s m args below meth c base ro cs D QF H locs ls X hret hrel hS hL hac
  have e2 : gk_v (gk_ad base ro) (va_rf (rs.getD i.toNatClampNeg none)) = va_rf ((rs.getD i.toNatClampNeg none).map (gk_ad base ro)) := by cases rs.getD i.toNatClampNeg none <;> rfl
  rw [List.map_cons, e2] at h9
  exact va_aldq (D := D) (cA := cs 3) (C := "DryPlaces$World") (n := n) (f := fun i => (rs.getD i none).map (gk_ad base ro)) hx hb hK hrel.2 k 3 (gk_ws_get hk) rfl hi hdg h9
end GKH
end
section
/-! branches, calls, ends -/
section GKB
variable {p : Program} {l : Launch} {e : Env} {R : Room} {s : State} {m : MethodId} {args : Array Value} {below : List Frame} {meth : Method} {c : Code} {H : Heap} {locs : List Loc} {cells slots : Nat} {Qw : State → Prop}
/-- a heap is as large as the cells that were made -/
theorem gk_size {g : JFrame} (k : H.size ≤ s.heap.size + cells → W p l e R s m args below meth c H locs cells slots Qw g) : W p l e R s m args below meth c H locs cells slots Qw g := by
  intro T hT X
  refine k ?_ T hT X
  rw [← hT]
  exact X.same.2.2.1
variable {pc : Nat} {ls : Array Slot} {rest st0 : List Value} {a : Array Value} {mc' ms' base : Nat} {ro : Nat → Nat} {cs : Nat → ClassId} {D : va_G} {Γ1 : gk_G} {Q' : Option Value → gk_H → Prop}
theorem gk_run_use (hr : va_Run p l e R s m args below meth c H locs cells slots mc' ms' (F0 m pc ls st0) rest (gk_Qc base ro cs D Γ1 Q' a) (gk_A base)) (hbs : base ≤ s.heap.size) (hS : va_S (gk_A base) s.heap H locs)
    (kk : ∀ (v : Option Value) (h1 : gk_H) (H1 : Heap) (locs1 : List Loc), Q' v h1 → gk_rel base ro cs D Γ1 h1 H1 → va_S (gk_A base) s.heap H1 locs1 → W p l e R s m args below meth c H1 locs1 (cells + mc') (slots + ms') Qw (F0 m (pc + 3) ls ((v.map (gk_v (gk_ad base ro))).toList ++ rest))) : W p l e R s m args below meth c H locs cells slots Qw (F0 m pc ls st0) := by
  intro T hT X
  obtain ⟨v, st₀, t, T', L, h0, X', hL, e1, e2, ⟨⟨v', h1, hv, hq, hrl⟩, hz, hk⟩, st⟩ := hr T hT X
  have hv' : v = v'.map (gk_v (gk_ad base ro)) := by
    have := hv; injection this
  subst hv'
  rw [h0] at hz hk
  obtain ⟨t2, a1, b1⟩ := kk v' h1 T'.heap (locs ++ L) hq (by rw [e1]; exact hrl)
    ⟨Nat.le_trans hS.1 (by rw [e1]; exact hz), fun q h1 h2 => by rw [e1, hk q (Nat.lt_of_lt_of_le h1 hS.1) h2]; exact hS.2.1 q h1 h2, fun q hq => by
      rcases List.mem_append.mp hq with h | h
      · exact hS.2.2 q h
      · exact hL q h⟩ T' rfl X'
  exact ⟨t2, st t2 a1, b1⟩
end GKB
theorem gk_low {base : Nat} {ro : Nat → Nat} {cs : Nat → ClassId} {D : va_G} {Γ : gk_G} {h : gk_H} {H : Heap} (hr : gk_rel base ro cs D Γ h H) (hb : base ≤ H.size) : base + Γ.length ≤ H.size := by
  cases hl : Γ.length with
  | zero => exact hb
  | succ n =>
    have hk : Γ[n]? = some Γ[n] := List.getElem?_eq_getElem (by omega)
    have h1 := (hr.2 n _ (gk_ws_get hk)).lt
    show base + (n + 1) ≤ H.size
    have h2 : base + n < H.size := h1
    omega
theorem gk_blind {E : gk_E} {base : Nat} {ro : Nat → Nat} {cs : Nat → ClassId} {D : va_G} {av : List Value} {Γ : gk_G} {h : gk_H} : FrameBlind (gk_Pc E base ro cs D av Γ h) := by
  intro a U g mk hp
  obtain ⟨h1, h2, h3, h4, h5⟩ := hp
  exact ⟨h1, h2, h3, va_K.moved (u := U) (U := U.calling g mk a) (Vm.Alike.refl U.vm) h4, gk_RO.same (s := U) (U := U.calling g mk a) rfl h5⟩
theorem gk_goodIn {ws0 : List Cond} {J : gk_J} (h0 : ∀ w ∈ ws0, w ∈ gk_TT) (hc : Cond.code J.1 J.2.1 J.2.2.1 J.2.2.2 ∈ gk_TT) : GoodIn gk_TT (ws0 ++ gk_wd J) := by
  intro w hw
  rcases List.mem_append.mp hw with h | h
  · exact ⟨h0 w h, gk_TT_good (h0 w h)⟩
  · rcases List.mem_cons.mp h with h | h
    · rw [h]; exact ⟨hc, gk_TT_good hc⟩
    · exact ⟨h, gk_TT_good h⟩
/-- what a call's entry says: the callee's words are the tables', its arguments, its locals -/
def gk_jok (J : gk_J) (n : Nat) : Prop := Cond.code J.1 J.2.1 J.2.2.1 J.2.2.2 ∈ gk_TT ∧ Cond.initialized J.1.cls ∈ gk_TT ∧ (J.1.cls ≠ "java/lang/invoke/MethodHandle" ∧ J.1.cls ≠ "java/lang/invoke/VarHandle" ∧ (parseMethodDescriptor J.1.desc).map (fun d => d.parameters.length) = some n) ∧ J.2.2.1 ≤ 41
def gk_cok (own : String) (idx kd : Nat) (J : gk_J) (ci n : Nat) : Prop := gk_jok J n ∧ match kd with
  | 0 => (∃ (T : u_T) (N : Nat), vwCl[ci]? = some (J.1.cls, T, N)) ∧ ∀ w ∈ ([.methodLink own idx J.1, .instanceMethod J.1, .selects J.1.cls J.1 J.1] : List Cond), w ∈ gk_TT
  | 1 => ∀ w ∈ ([.methodLink own idx J.1, .static J.1] : List Cond), w ∈ gk_TT
  | 2 => J.2.2.2 = none ∧ J.1.name = "<init>" ∧ ∀ w ∈ ([.methodLink own idx J.1, .instanceMethod J.1] : List Cond), w ∈ gk_TT
  | 5 => Cond.static J.1 ∈ gk_TT ∧ Cond.methodLinkNest own idx J.1 "DryPlaces" ∈ gk_nest
  | 6 => J.2.2.2 = none ∧ J.1.name = "<init>" ∧ Cond.instanceMethod J.1 ∈ gk_TT ∧ Cond.methodLinkNest own idx J.1 "DryPlaces" ∈ gk_nest
  | 7 => J.1.cls = "java/lang/String" ∧ ∀ w ∈ ([.methodLink own idx J.1, .instanceMethod J.1, .selects J.1.cls J.1 J.1] : List Cond), w ∈ gk_TT
  | _ => False
section GKC
variable {M : Nat → gk_J} {E : gk_E} {d j : Nat} {cf : Bool} {mc ms : Nat} {Γe : gk_G} {Q : Option Value → gk_H → Prop} {pc : Nat} {L : gk_L} {st : List Value} {Γ : gk_G} {h : gk_H} {nc ns : Nat}
theorem gk_map_st {ad : Nat → Nat} {av st : List Value} {k : Nat} : (av.reverse ++ .ref k :: st).map (gk_v ad) = (av.map (gk_v ad)).reverse ++ .ref (ad k) :: st.map (gk_v ad) := by
  rw [List.map_append, List.map_reverse]; rfl
theorem gk_cat_sum {ad : Nat → Nat} {st : List Value} : ((st.map (gk_v ad)).map fun v => v.category).sum = (st.map fun v => v.category).sum := by
  rw [List.map_map]; congr 1; refine List.map_congr_left fun v _ => gk_cat ad v
theorem gk_opt_st {ad : Nat → Nat} {v : Option Value} {st : List Value} : (v.toList ++ st).map (gk_v ad) = (v.map (gk_v ad)).toList ++ st.map (gk_v ad) := by
  cases v <;> rfl
set_option maxHeartbeats 2000000 in
/-- a call of an own object's method (kd 0), of a text's (kd 7) -/
theorem gk_go_callV {idx kd j' ci n d' mc' ms' k : Nat} {av : List Value} {Γ1 : gk_G} {Q' : Option Value → gk_H → Prop} (hok : gk_cok (M j).1.cls idx kd (M j') ci n) (hkd : (kd = 0 ∧ ∃ rs, Γ[k]? = some (0, ci, rs)) ∨ (kd = 7 ∧ (k = 1000001 ∨ k = 1000002))) (hn : av.length = n) (hd : d' + 1 ≤ d) (hcat : (st.map fun v => v.category).sum ≤ 8)
    (hcon : gk_Con M E d' j' (.ref k :: av) Γ Γ1 h mc' ms' Q') (hlen : Γ1.length = Γ.length + mc') (hroom : nc + mc' ≤ mc ∧ ns + ms' ≤ ms) (hdg : decode (M j).2.1 pc = .ok (.invokevirtual idx, 3))
    (kk : ∀ (v : Option Value) (h1 : gk_H), Q' v h1 → gk_Go M E d j cf mc ms Γe Q (pc + 3) L (v.toList ++ st) Γ1 h1 (nc + mc') (ns + ms')) : gk_Go M E d j cf mc ms Γe Q pc L (av.reverse ++ .ref k :: st) Γ h nc ns := by
  intro p l e R s m args below meth c base ro cs D QF H locs ls X hret hrel hS hL hac
  obtain ⟨hx, hb, hml, hown, hts, hin, hR, hK, hRO, hbs0⟩ := id X
  obtain ⟨⟨j1, j2, j3, j4⟩, hkk⟩ := hok
  have hw : ∀ w ∈ ([.methodLink (M j).1.cls idx (M j').1, .instanceMethod (M j').1, .selects (M j').1.cls (M j').1 (M j').1] : List Cond), w ∈ gk_TT := by
    rcases hkd with ⟨rfl, -⟩ | ⟨rfl, -⟩
    · exact hkk.2
    · exact hkk.2
  have hrecv : ∃ cell : Cell, H[gk_ad base ro k]? = some cell ∧ cell.vm.isStatics = false ∧ s.vm.findClass (M j').1.cls = some cell.cls := by
    rcases hkd with ⟨rfl, rs, hk⟩ | ⟨rfl, hk⟩
    · obtain ⟨⟨T, N, hc⟩, -⟩ := hkk
      rw [gk_ad_own (gk_lt hrel hk)]
      exact va_recv (q := ((M j').1.cls, T, N)) hK hrel.2 hc (gk_ws_get hk)
    · rw [hkk.1]
      rcases hk with rfl | rfl
      · exact vk_recv (i := 0) hRO.2.1 (by decide) hS
      · exact vk_recv (i := 1) hRO.2.1 (by decide) hS
  refine gk_size fun hsz => ?_
  have hlow := gk_low hrel (Nat.le_trans hbs0 hS.1)
  rw [gk_map_st]
  have hG : GoodIn gk_TT (wsV (M j).1.cls idx (M j').1.cls (M j').1 (gk_wd (M j'))) := gk_goodIn (fun w hw9 => by
    simp only [List.mem_cons, List.not_mem_nil, or_false] at hw9 hw
    rcases hw9 with h9 | h9 | h9 | h9
    · exact hw w (Or.inl h9)
    · exact hw w (Or.inr (Or.inl h9))
    · exact hw w (Or.inr (Or.inr h9))
    · rw [h9]; exact j2) j1
  refine gk_run_use (va_runV (As := av.map (gk_v (gk_ad base ro))) (rest := st.map (gk_v (gk_ad base ro))) (b := gk_ad base ro k) ⟨hx, hb, hml, hown, hts⟩ (hcon l base ro cs D) (cwV n hts hG rfl rfl rfl ⟨rfl, j3⟩ ⟨by show d' + 1 ≤ _; omega, by show 8 + ((M j').2.2.1 + 11) + 60 * d' ≤ _; omega⟩) ⟨gk_blind, hrecv, fun U hU hW => ⟨rfl, by rw [hU]; omega, by rw [hU]; exact hrel, va_K.moved hW.alike hK, by rw [hU]; exact (hRO.kept hS.2.1).warm hW⟩⟩ rfl (by rw [List.length_map]; exact hn) hL.1 rfl (lv_room (by rw [gk_cat_sum]; exact hcat)) hdg ⟨by omega, by omega⟩) hbs0 hS (fun v h1 H1 locs1 hq hrl hS1 => ?_)
  have h9 := kk v h1 hq p l e R s m args below meth c base ro cs D QF H1 locs1 ls X hret hrl hS1 hL (by omega)
  rw [gk_opt_st] at h9
  exact h9
set_option maxHeartbeats 2000000 in
theorem gk_go_callS {idx kd j' ci n d' mc' ms' : Nat} {av : List Value} {Γ1 : gk_G} {Q' : Option Value → gk_H → Prop} (hok : gk_cok (M j).1.cls idx kd (M j') ci n) (hkd : kd = 1 ∨ kd = 5) (hn : av.length = n) (hd : d' + 1 ≤ d) (hcat : (st.map fun v => v.category).sum ≤ 8)
    (hcon : gk_Con M E d' j' av Γ Γ1 h mc' ms' Q') (hlen : Γ1.length = Γ.length + mc') (hroom : nc + mc' ≤ mc ∧ ns + ms' ≤ ms) (hdg : decode (M j).2.1 pc = .ok (.invokestatic idx, 3))
    (kk : ∀ (v : Option Value) (h1 : gk_H), Q' v h1 → gk_Go M E d j cf mc ms Γe Q (pc + 3) L (v.toList ++ st) Γ1 h1 (nc + mc') (ns + ms')) : gk_Go M E d j cf mc ms Γe Q pc L (av.reverse ++ st) Γ h nc ns := by
  intro p l e R s m args below meth c base ro cs D QF H locs ls X hret hrel hS hL hac
  obtain ⟨hx, hb, hml, hown, hts, hin, hR, hK, hRO, hbs0⟩ := id X
  obtain ⟨⟨j1, j2, j3, j4⟩, hkk⟩ := hok
  refine gk_size fun hsz => ?_
  have hlow := gk_low hrel (Nat.le_trans hbs0 hS.1)
  rw [List.map_append, List.map_reverse]
  have hpre : PreS s H (gk_Pc E base ro cs D av Γ h) (av.map (gk_v (gk_ad base ro))) := ⟨gk_blind, fun U hU hW => ⟨rfl, by rw [hU]; omega, by rw [hU]; exact hrel, va_K.moved hW.alike hK, by rw [hU]; exact (hRO.kept hS.2.1).warm hW⟩⟩
  have hRR : (gk_rm d' mc' ms').frames + 1 ≤ R.frames ∧ 8 + ((M j').2.2.1 + 11) + (gk_rm d' mc' ms').locals ≤ R.locals := ⟨by show d' + 1 ≤ _; omega, by show 8 + ((M j').2.2.1 + 11) + 60 * d' ≤ _; omega⟩
  have hrun : va_Run p l e R s m args below meth c H locs nc ns mc' ms' (F0 m pc ls ((av.map (gk_v (gk_ad base ro))).reverse ++ st.map (gk_v (gk_ad base ro)))) (st.map (gk_v (gk_ad base ro))) (gk_Qc base ro cs D Γ1 Q' (av.map (gk_v (gk_ad base ro))).toArray) (gk_A base) := by
    rcases hkd with rfl | rfl
    · have hG : GoodIn gk_TT (va_wsS (M j).1.cls idx (M j').1 (gk_wd (M j'))) := gk_goodIn (fun w hw9 => by
        simp only [List.mem_cons, List.not_mem_nil, or_false] at hw9
        rcases hw9 with h9 | h9 | h9
        · exact hkk w (by rw [h9]; simp)
        · exact hkk w (by rw [h9]; simp)
        · rw [h9]; exact j2) j1
      exact va_runS (As := av.map (gk_v (gk_ad base ro))) (rest := st.map (gk_v (gk_ad base ro))) ⟨hx, hb, hml, hown, hts⟩ (hcon l base ro cs D) (va_cwS n hts hG rfl rfl rfl j3 hRR) hpre rfl (by rw [List.length_map]; exact hn) hL.1 rfl (lv_room (by rw [gk_cat_sum]; exact hcat)) hdg ⟨by omega, by omega⟩
    · obtain ⟨g1, g2⟩ := hkk
      exact va_runSN (As := av.map (gk_v (gk_ad base ro))) (rest := st.map (gk_v (gk_ad base ro))) ⟨hx, hb, hml, hown, hts⟩ (hcon l base ro cs D) ⟨va_cnB n hts (gk_goodIn (ws0 := []) (fun w h9 => by cases h9) j1) rfl rfl rfl (hRO.2.2.2.2.1 _ g2) (hts _ j2) j3 hRR, hts _ g1, trivial⟩ hpre rfl (by rw [List.length_map]; exact hn) hL.1 rfl (lv_room (by rw [gk_cat_sum]; exact hcat)) hdg ⟨by omega, by omega⟩
  refine gk_run_use hrun hbs0 hS (fun v h1 H1 locs1 hq hrl hS1 => ?_)
  have h9 := kk v h1 hq p l e R s m args below meth c base ro cs D QF H1 locs1 ls X hret hrl hS1 hL (by omega)
  rw [gk_opt_st] at h9
  exact h9
set_option maxHeartbeats 2000000 in
theorem gk_go_callI {idx kd j' ci n d' mc' ms' k : Nat} {av : List Value} {Γ1 : gk_G} {Q' : Option Value → gk_H → Prop} (hok : gk_cok (M j).1.cls idx kd (M j') ci n) (hkd : kd = 2 ∨ kd = 6) (hn : av.length = n) (hd : d' + 1 ≤ d) (hcat : (st.map fun v => v.category).sum ≤ 8)
    (hcon : gk_Con M E d' j' (.ref k :: av) Γ Γ1 h mc' ms' Q') (hlen : Γ1.length = Γ.length + mc') (hroom : nc + mc' ≤ mc ∧ ns + ms' ≤ ms) (hdg : decode (M j).2.1 pc = .ok (.invokespecial idx, 3))
    (kk : ∀ (v : Option Value) (h1 : gk_H), Q' v h1 → gk_Go M E d j cf mc ms Γe Q (pc + 3) L (v.toList ++ st) Γ1 h1 (nc + mc') (ns + ms')) : gk_Go M E d j cf mc ms Γe Q pc L (av.reverse ++ .ref k :: st) Γ h nc ns := by
  intro p l e R s m args below meth c base ro cs D QF H locs ls X hret hrel hS hL hac
  obtain ⟨hx, hb, hml, hown, hts, hin, hR, hK, hRO, hbs0⟩ := id X
  obtain ⟨⟨j1, j2, j3, j4⟩, hkk⟩ := hok
  refine gk_size fun hsz => ?_
  have hlow := gk_low hrel (Nat.le_trans hbs0 hS.1)
  rw [gk_map_st]
  have hpre : PreS s H (gk_Pc E base ro cs D (.ref k :: av) Γ h) (.ref (gk_ad base ro k) :: av.map (gk_v (gk_ad base ro))) := ⟨gk_blind, fun U hU hW => ⟨rfl, by rw [hU]; omega, by rw [hU]; exact hrel, va_K.moved hW.alike hK, by rw [hU]; exact (hRO.kept hS.2.1).warm hW⟩⟩
  have hRR : (gk_rm d' mc' ms').frames + 1 ≤ R.frames ∧ 8 + ((M j').2.2.1 + 11) + (gk_rm d' mc' ms').locals ≤ R.locals := ⟨by show d' + 1 ≤ _; omega, by show 8 + ((M j').2.2.1 + 11) + 60 * d' ≤ _; omega⟩
  have hG : GoodIn gk_TT (gk_wd (M j')) := gk_goodIn (ws0 := []) (fun w h9 => by cases h9) j1
  have hrun : va_Run p l e R s m args below meth c H locs nc ns mc' ms' (F0 m pc ls ((av.map (gk_v (gk_ad base ro))).reverse ++ .ref (gk_ad base ro k) :: st.map (gk_v (gk_ad base ro)))) (st.map (gk_v (gk_ad base ro))) (gk_Qc base ro cs D Γ1 Q' (Value.ref (gk_ad base ro k) :: av.map (gk_v (gk_ad base ro))).toArray) (gk_A base) := by
    rcases hkd with rfl | rfl
    · obtain ⟨g1, g2, g3⟩ := hkk
      exact va_runI (As := av.map (gk_v (gk_ad base ro))) (rest := st.map (gk_v (gk_ad base ro))) (b := gk_ad base ro k) ⟨hx, hb, hml, hown, hts⟩ (hcon l base ro cs D) (cwI n hts hG (by rw [gk_wd, g1]) rfl rfl (hts _ j2) (hts _ (g3 _ (by simp))) (hts _ (g3 _ (by simp))) g2 j3 hRR) hpre rfl (by rw [List.length_map]; exact hn) hL.1 rfl (lv_room (by rw [gk_cat_sum]; exact hcat)) hdg ⟨by omega, by omega⟩
    · obtain ⟨g1, g2, g3, g4⟩ := hkk
      exact va_runIN (As := av.map (gk_v (gk_ad base ro))) (rest := st.map (gk_v (gk_ad base ro))) (b := gk_ad base ro k) ⟨hx, hb, hml, hown, hts⟩ (hcon l base ro cs D) ⟨va_cnB n hts hG (by rw [gk_wd, g1]) rfl rfl (hRO.2.2.2.2.1 _ g4) (hts _ j2) j3 hRR, g2, hts _ g3⟩ hpre rfl (by rw [List.length_map]; exact hn) hL.1 rfl (lv_room (by rw [gk_cat_sum]; exact hcat)) hdg ⟨by omega, by omega⟩
  refine gk_run_use hrun hbs0 hS (fun v h1 H1 locs1 hq hrl hS1 => ?_)
  have h9 := kk v h1 hq p l e R s m args below meth c base ro cs D QF H1 locs1 ls X hret hrl hS1 hL (by omega)
  rw [gk_opt_st] at h9
  exact h9
end GKC
end
section
/-! what is read alone, switches, ends, makings -/
def gk_sw (x : Int32) (td : Nat) (K : Nat → Prop) : List (Int32 × Nat) → Prop
  | [] => K td
  | (v, t) :: r => (x = v → K t) ∧ (¬ x = v → gk_sw x td K r)
theorem gk_sw_miss {x : Int32} {td : Nat} {K : Nat → Prop} : ∀ {sw : List (Int32 × Nat)}, gk_sw x td K sw → (∀ q ∈ sw, ¬ x = q.1) → K td := by
  intro sw
  induction sw with
  | nil => intro h _; exact h
  | cons q r ih =>
    intro h hn
    exact ih (h.2 (hn q List.mem_cons_self)) (fun q' hq' => hn q' (List.mem_cons_of_mem _ hq'))
theorem gk_sw_hit {x : Int32} {td : Nat} {K : Nat → Prop} : ∀ {sw : List (Int32 × Nat)} {i : Nat} {t : Nat}, gk_sw x td K sw → sw[i]? = some (x, t) → (∀ (i' : Nat) (q : Int32 × Nat), i' < i → sw[i']? = some q → ¬ x = q.1) → K t := by
  intro sw
  induction sw with
  | nil => intro i t _ h; cases h
  | cons q r ih =>
    intro i t h hi hn
    cases i with
    | zero => cases hi; exact h.1 rfl
    | succ i =>
      refine ih (i := i) (h.2 (hn 0 q (by omega) rfl)) hi (fun i' q' h1 h2 => hn (i' + 1) q' (by omega) h2)
def gk_tokb (pc : Nat) (dflt lo hi : Int) (offs : Array Int) (sw : List (Int32 × Nat)) (td : Nat) : Bool :=
  decide (hi - lo + 1 = (offs.size : Int)) && decide ((pc : Int) + dflt = td) && decide (sw.length = offs.size) && (List.range offs.size).all (fun i => match offs[i]?, sw[i]? with
    | some off, some q => decide (q.1.toInt = lo + i) && decide ((pc : Int) + off = q.2)
    | _, _ => false)
def gk_lokb (pc : Nat) (dflt : Int) (ps : Array (Int × Int)) (sw : List (Int32 × Nat)) (td : Nat) : Bool :=
  decide ((pc : Int) + dflt = td) && (ps.toList.zip (ps.toList.drop 1)).all (fun (a, next) => a.1 < next.1) && decide (sw.length = ps.toList.length) && (ps.toList.zip sw).all (fun q => decide (q.2.1.toInt = q.1.1) && decide ((pc : Int) + q.1.2 = q.2.2))
theorem gk_lo_off {pc : Nat} {dflt : Int} {td : Nat} {x : Int32} {K : Nat → Prop} (hd : (pc : Int) + dflt = td) : ∀ (ps : List (Int × Int)) (sw : List (Int32 × Nat)), sw.length = ps.length → (ps.zip sw).all (fun q => decide (q.2.1.toInt = q.1.1) && decide ((pc : Int) + q.1.2 = q.2.2)) = true → gk_sw x td K sw → ∃ tgt : Nat, (pc : Int) + Op.lookupswitch.offset ps dflt x.toInt = tgt ∧ K tgt := by
  intro ps
  induction ps with
  | nil =>
    intro sw hl _ h
    cases sw with
    | nil => exact ⟨td, hd, h⟩
    | cons q r => cases hl
  | cons a ps ih =>
    intro sw hl hz h
    cases sw with
    | nil => cases hl
    | cons q r =>
      simp only [List.zip_cons_cons, List.all_cons, Bool.and_eq_true, decide_eq_true_eq] at hz
      obtain ⟨⟨z1, z2⟩, z3⟩ := hz
      rw [Op.lookupswitch.offset_cons]
      by_cases hx : x = q.1
      · rw [if_pos (by rw [hx, z1])]
        exact ⟨q.2, z2, h.1 hx⟩
      · rw [if_neg (fun e => hx (Int32.toInt_inj.mp (by rw [z1]; exact e.symm)))]
        exact ih r (by simpa using hl) z3 (h.2 hx)
section GKM
variable {M : Nat → gk_J} {E : gk_E} {d j : Nat} {cf : Bool} {mc ms : Nat} {Γe : gk_G} {Q : Option Value → gk_H → Prop} {pc : Nat} {L : gk_L} {st : List Value} {Γ : gk_G} {h : gk_H} {nc ns : Nat}
theorem gk_go_table {dflt lo hi : Int} {offs : Array Int} {len td : Nat} {sw : List (Int32 × Nat)} {x : Int32} (hdg : decode (M j).2.1 pc = .ok (.tableswitch dflt lo hi offs, len)) (ok : gk_tokb pc dflt lo hi offs sw td = true) (kk : gk_sw x td (fun t => gk_Go M E d j cf mc ms Γe Q t L st Γ h nc ns) sw) : gk_Go M E d j cf mc ms Γe Q pc L (.int x :: st) Γ h nc ns := by
  intro p l e R s m args below meth c base ro cs D QF H locs ls X hret hrel hS hL hac
  simp only [gk_tokb, Bool.and_eq_true, decide_eq_true_eq, List.all_eq_true, List.mem_range] at ok
  obtain ⟨⟨⟨o1, o2⟩, o3⟩, o4⟩ := ok
  have at' : ∀ i, i < offs.size → ∃ (off : Int) (q : Int32 × Nat), offs[i]? = some off ∧ sw[i]? = some q ∧ q.1.toInt = lo + i ∧ (pc : Int) + off = q.2 := by
    intro i hi
    have := o4 i hi
    cases h1 : offs[i]? with
    | none => rw [h1] at this; simp at this
    | some off =>
      cases h2 : sw[i]? with
      | none => rw [h1, h2] at this; simp at this
      | some q =>
        rw [h1, h2] at this
        simp only [Bool.and_eq_true, decide_eq_true_eq] at this
        exact ⟨off, q, rfl, rfl, this.1, this.2⟩
  by_cases hin : lo ≤ x.toInt ∧ x.toInt ≤ hi
  · have hi2 : (x.toInt - lo).toNat < offs.size := by omega
    obtain ⟨off, q, a1, a2, a3, a4⟩ := at' _ hi2
    have hq : q.1 = x := Int32.toInt_inj.mp (by rw [a3]; omega)
    have hgo : gk_Go M E d j cf mc ms Γe Q q.2 L st Γ h nc ns := by
      refine gk_sw_hit (i := (x.toInt - lo).toNat) (t := q.2) kk (by rw [a2, ← hq]) (fun i' q' h1 h2 => ?_)
      obtain ⟨off', q'', b1, b2, b3, b4⟩ := at' i' (by omega)
      rw [h2] at b2; cases b2
      intro e
      have : x.toInt = lo + i' := by rw [e, b3]
      omega
    exact lv_tableIn X.1 X.2.1 hdg (by omega) (by omega) a1 a4 (hgo p l e R s m args below meth c base ro cs D QF H locs ls X hret hrel hS hL hac)
  · have hgo : gk_Go M E d j cf mc ms Γe Q td L st Γ h nc ns := by
      refine gk_sw_miss (K := fun t => gk_Go M E d j cf mc ms Γe Q t L st Γ h nc ns) kk (fun q hq => ?_)
      obtain ⟨i, hi⟩ := List.getElem?_of_mem hq
      have hl : i < offs.size := by rw [← o3]; exact (List.getElem?_eq_some_iff.mp hi).1
      obtain ⟨off', q'', b1, b2, b3, b4⟩ := at' i hl
      rw [hi] at b2; cases b2
      intro e
      have : x.toInt = lo + i := by rw [e, b3]
      omega
    exact lv_tableOut X.1 X.2.1 hdg (by omega) o2 (hgo p l e R s m args below meth c base ro cs D QF H locs ls X hret hrel hS hL hac)
theorem gk_go_lookup {dflt : Int} {ps : Array (Int × Int)} {len td : Nat} {sw : List (Int32 × Nat)} {x : Int32} (hdg : decode (M j).2.1 pc = .ok (.lookupswitch dflt ps, len)) (ok : gk_lokb pc dflt ps sw td = true) (kk : gk_sw x td (fun t => gk_Go M E d j cf mc ms Γe Q t L st Γ h nc ns) sw) : gk_Go M E d j cf mc ms Γe Q pc L (.int x :: st) Γ h nc ns := by
  intro p l e R s m args below meth c base ro cs D QF H locs ls X hret hrel hS hL hac
  simp only [gk_lokb, Bool.and_eq_true] at ok
  obtain ⟨⟨⟨o1, o2⟩, o3⟩, o4⟩ := ok
  obtain ⟨tgt, t1, t2⟩ := gk_lo_off (of_decide_eq_true o1) ps.toList sw (of_decide_eq_true o3) o4 kk
  exact lv_lookup X.1 X.2.1 hdg o2 rfl t1 (t2 p l e R s m args below meth c base ro cs D QF H locs ls X hret hrel hS hL hac)
theorem gk_go_ret {v : Option Value} (hq : Q v h) (hok : gk_rok (M j).2.2.2 v) (hΓ : Γ = Γe) (h1 : nc ≤ mc) (h2 : ns ≤ ms) (hst : st = v.toList) (hdg : decode (M j).2.1 pc = .ok (gk_ri (M j).2.2.2, 1)) : gk_Go M E d j cf mc ms Γe Q pc L st Γ h nc ns := by
  intro p l e R s m args below meth c base ro cs D QF H locs ls X hret hrel hS hL hac
  subst hst; subst hΓ
  exact W.widen h1 h2 (hret pc ls H locs v h hq hrel hS hok hdg)
theorem gk_go_goto {off : Int} {tgt : Nat} (hdg : decode (M j).2.1 pc = .ok (.goto off, 3)) (ht : (pc : Int) + off = (tgt : Int)) (kk : gk_Go M E d j cf mc ms Γe Q tgt L st Γ h nc ns) : gk_Go M E d j cf mc ms Γe Q pc L st Γ h nc ns := by
  intro p l e R s m args below meth c base ro cs D QF H locs ls X hret hrel hS hL hac
  exact lv_goto X.1 X.2.1 hdg ht (kk p l e R s m args below meth c base ro cs D QF H locs ls X hret hrel hS hL hac)
theorem gk_go_ifnull {v : Option Nat} {off : Int} {tgt : Nat} (hdg : decode (M j).2.1 pc = .ok (.ifnull off, 3)) (ht : (pc : Int) + off = (tgt : Int)) (kk : gk_Go M E d j cf mc ms Γe Q (match v with | none => tgt | some _ => pc + 3) L st Γ h nc ns) : gk_Go M E d j cf mc ms Γe Q pc L (va_rf v :: st) Γ h nc ns := by
  intro p l e R s m args below meth c base ro cs D QF H locs ls X hret hrel hS hL hac
  have h9 := kk p l e R s m args below meth c base ro cs D QF H locs ls X hret hrel hS hL hac
  cases v with
  | none => exact lv_ifnullN X.1 X.2.1 hdg ht h9
  | some a => exact lv_ifnull X.1 X.2.1 hdg h9
theorem gk_go_ifnonnull {v : Option Nat} {off : Int} {tgt : Nat} (hdg : decode (M j).2.1 pc = .ok (.ifnonnull off, 3)) (ht : (pc : Int) + off = (tgt : Int)) (kk : gk_Go M E d j cf mc ms Γe Q (match v with | none => pc + 3 | some _ => tgt) L st Γ h nc ns) : gk_Go M E d j cf mc ms Γe Q pc L (va_rf v :: st) Γ h nc ns := by
  intro p l e R s m args below meth c base ro cs D QF H locs ls X hret hrel hS hL hac
  have h9 := kk p l e R s m args below meth c base ro cs D QF H locs ls X hret hrel hS hL hac
  cases v with
  | none => exact lv_ifnonnullN X.1 X.2.1 hdg h9
  | some a => exact lv_ifnonnull X.1 X.2.1 hdg ht h9
theorem gk_go_ldc {idx : Nat} {x : Int32} (hw : Cond.constant (M j).1.cls idx x ∈ gk_TT) (hdg : decode (M j).2.1 pc = .ok (.ldc idx, 2)) (kk : gk_Go M E d j cf mc ms Γe Q (pc + 2) L (.int x :: st) Γ h nc ns) : gk_Go M E d j cf mc ms Γe Q pc L st Γ h nc ns := by
  intro p l e R s m args below meth c base ro cs D QF H locs ls X hret hrel hS hL hac
  obtain ⟨hx, hb, hml, hown, hts, -⟩ := id X
  exact lv_ldc hx hb hown (hts _ hw) hdg (kk p l e R s m args below meth c base ro cs D QF H locs ls X hret hrel hS hL hac)
theorem gk_go_ldcw {idx : Nat} {x : Int32} (hw : Cond.constant (M j).1.cls idx x ∈ gk_TT) (hdg : decode (M j).2.1 pc = .ok (.ldc_w idx, 3)) (kk : gk_Go M E d j cf mc ms Γe Q (pc + 3) L (.int x :: st) Γ h nc ns) : gk_Go M E d j cf mc ms Γe Q pc L st Γ h nc ns := by
  intro p l e R s m args below meth c base ro cs D QF H locs ls X hret hrel hS hL hac
  obtain ⟨hx, hb, hml, hown, hts, -⟩ := id X
  exact lv_ldcw hx hb hown (hts _ hw) hdg (kk p l e R s m args below meth c base ro cs D QF H locs ls X hret hrel hS hL hac)
theorem gk_go_ldc2 {idx : Nat} {x : Int64} (hw : Cond.constantLong (M j).1.cls idx x ∈ gk_TT) (hdg : decode (M j).2.1 pc = .ok (.ldc2_w idx, 3)) (kk : gk_Go M E d j cf mc ms Γe Q (pc + 3) L (.long x :: st) Γ h nc ns) : gk_Go M E d j cf mc ms Γe Q pc L st Γ h nc ns := by
  intro p l e R s m args below meth c base ro cs D QF H locs ls X hret hrel hS hL hac
  obtain ⟨hx, hb, hml, hown, hts, -⟩ := id X
  exact lv_ldc2 hx hb hown (hts _ hw) hdg (kk p l e R s m args below meth c base ro cs D QF H locs ls X hret hrel hS hL hac)
/-- a text of Tape's -/
theorem gk_go_ldcs {idx i : Nat} (hi : (idx = 57 ∧ i = 0) ∨ (idx = 49 ∧ i = 1)) (hown0 : (M j).1.cls = "DryPlaces$Tape") (hdg : decode (M j).2.1 pc = .ok (.ldc idx, 2)) (kk : gk_Go M E d j cf mc ms Γe Q (pc + 2) L (.ref (1000000 + (1 + i)) :: st) Γ h nc ns) : gk_Go M E d j cf mc ms Γe Q pc L st Γ h nc ns := by
  intro p l e R s m args below meth c base ro cs D QF H locs ls X hret hrel hS hL hac
  obtain ⟨hx, hb, hml, hown, hts, hin, hR, hK, hRO, hbs0⟩ := id X
  have h9 := kk p l e R s m args below meth c base ro cs D QF H locs ls X hret hrel hS hL hac
  have e1 : gk_v (gk_ad base ro) (.ref (1000000 + (1 + i))) = .ref (ro (1 + i)) := by show Value.ref (gk_ad base ro _) = _; rw [gk_ad_ro]
  rw [List.map_cons, e1] at h9
  rw [hown0] at hown
  rcases hi with ⟨rfl, rfl⟩ | ⟨rfl, rfl⟩
  · exact va_ldcS hx hb hown hRO.2.2.1.1 hdg h9
  · exact va_ldcS hx hb hown hRO.2.2.1.2 hdg h9
/-- a text's fields -/
theorem gk_go_gets {idx i kd : Nat} (hi : i < 2) (hkd : (kd = 3 ∧ Cond.fieldLink (M j).1.cls idx "java/lang/String" "value" "[B" ∈ gk_TT) ∨ (kd = 4 ∧ Cond.fieldLink (M j).1.cls idx "java/lang/String" "coder" "B" ∈ gk_TT)) (hdg : decode (M j).2.1 pc = .ok (.getfield idx, 3)) (kk : gk_Go M E d j cf mc ms Γe Q (pc + 3) L ((bif kd == 3 then .ref (1000000 + (3 + i)) else .int 0) :: st) Γ h nc ns) : gk_Go M E d j cf mc ms Γe Q pc L (.ref (1000000 + (1 + i)) :: st) Γ h nc ns := by
  intro p l e R s m args below meth c base ro cs D QF H locs ls X hret hrel hS hL hac
  obtain ⟨hx, hb, hml, hown, hts, hin, hR, hK, hRO, hbs0⟩ := id X
  have h9 := kk p l e R s m args below meth c base ro cs D QF H locs ls X hret hrel hS hL hac
  have e1 : gk_v (gk_ad base ro) (.ref (1000000 + (1 + i))) = .ref (ro (1 + i)) := by show Value.ref (gk_ad base ro _) = _; rw [gk_ad_ro]
  have hs := hRO.2.1.1 i hi
  rw [List.map_cons, e1]
  rcases hkd with ⟨rfl, hw⟩ | ⟨rfl, hw⟩
  · have e2 : gk_v (gk_ad base ro) (bif (3 : Nat) == 3 then .ref (1000000 + (3 + i)) else .int 0) = .ref (ro (3 + i)) := by show Value.ref (gk_ad base ro _) = _; rw [gk_ad_ro]
    rw [List.map_cons, e2] at h9
    exact vk_getf hx hb hs.2.2.1 hS hown (hts _ hw) (fun _ h => h) hdg h9
  · exact vk_getf hx hb hs.2.1 hS hown (hts _ hw) (fun _ h => h) hdg h9
theorem gk_go_bald {i : Nat} {x : Int32} (hi : i < 2) (hin0 : vp_in x (gk_len.getD i 0)) (hdg : decode (M j).2.1 pc = .ok (.baload, 1)) (kk : gk_Go M E d j cf mc ms Γe Q (pc + 1) L (.int ((gk_byt.getD i []).getD x.toNatClampNeg 0) :: st) Γ h nc ns) : gk_Go M E d j cf mc ms Γe Q pc L (.int x :: .ref (1000000 + (3 + i)) :: st) Γ h nc ns := by
  intro p l e R s m args below meth c base ro cs D QF H locs ls X hret hrel hS hL hac
  obtain ⟨hx, hb, hml, hown, hts, hin, hR, hK, hRO, hbs0⟩ := id X
  have h9 := kk p l e R s m args below meth c base ro cs D QF H locs ls X hret hrel hS hL hac
  have e1 : gk_v (gk_ad base ro) (.ref (1000000 + (3 + i))) = .ref (ro (3 + i)) := by show Value.ref (gk_ad base ro _) = _; rw [gk_ad_ro]
  rw [List.map_cons, List.map_cons, e1]
  exact va_tb hx hb (hRO.2.1.1 i hi).2.2.2 hS hin0 rfl hdg h9
theorem gk_go_blen {i : Nat} (hi : i < 2) (hdg : decode (M j).2.1 pc = .ok (.arraylength, 1)) (kk : gk_Go M E d j cf mc ms Γe Q (pc + 1) L (.int (OfNat.ofNat (gk_len.getD i 0)) :: st) Γ h nc ns) : gk_Go M E d j cf mc ms Γe Q pc L (.ref (1000000 + (3 + i)) :: st) Γ h nc ns := by
  intro p l e R s m args below meth c base ro cs D QF H locs ls X hret hrel hS hL hac
  obtain ⟨hx, hb, hml, hown, hts, hin, hR, hK, hRO, hbs0⟩ := id X
  have h9 := kk p l e R s m args below meth c base ro cs D QF H locs ls X hret hrel hS hL hac
  have e1 : gk_v (gk_ad base ro) (.ref (1000000 + (3 + i))) = .ref (ro (3 + i)) := by show Value.ref (gk_ad base ro _) = _; rw [gk_ad_ro]
  rw [List.map_cons, e1]
  exact va_tlen hx hb (hRO.2.1.1 i hi).2.2.2 hS rfl hdg h9
theorem gk_go_static {idx : Nat} (hw : Cond.fieldLink (M j).1.cls idx "java/lang/String" "COMPACT_STRINGS" "Z" ∈ gk_TT) (hdg : decode (M j).2.1 pc = .ok (.getstatic idx, 3)) (kk : gk_Go M E d j cf mc ms Γe Q (pc + 3) L (.int 1 :: st) Γ h nc ns) : gk_Go M E d j cf mc ms Γe Q pc L st Γ h nc ns := by
  intro p l e R s m args below meth c base ro cs D QF H locs ls X hret hrel hS hL hac
  obtain ⟨hx, hb, hml, hown, hts, hin, hR, hK, hRO, hbs0⟩ := id X
  exact va_gets hx hb hRO.2.2.2.1.1 hS hown (hts _ hw) (fun _ h => h) hdg (kk p l e R s m args below meth c base ro cs D QF H locs ls X hret hrel hS hL hac)
theorem gk_go_static2 {idx : Nat} (hw : Cond.fieldLink (M j).1.cls idx "jdk/internal/util/Preconditions" "SIOOBE_FORMATTER" "Ljava/util/function/BiFunction;" ∈ gk_TT) (hdg : decode (M j).2.1 pc = .ok (.getstatic idx, 3)) (kk : gk_Go M E d j cf mc ms Γe Q (pc + 3) L ((bif E.1.2 then .ref (1000000 + 5) else .null) :: st) Γ h nc ns) : gk_Go M E d j cf mc ms Γe Q pc L st Γ h nc ns := by
  intro p l e R s m args below meth c base ro cs D QF H locs ls X hret hrel hS hL hac
  obtain ⟨hx, hb, hml, hown, hts, hin, hR, hK, hRO, hbs0⟩ := id X
  have h9 := kk p l e R s m args below meth c base ro cs D QF H locs ls X hret hrel hS hL hac
  have e1 : gk_v (gk_ad base ro) (bif E.1.2 then .ref (1000000 + 5) else .null) = bif E.1.2 then .ref (ro 5) else .null := by
    cases E.1.2 with
    | false => rfl
    | true => show Value.ref (gk_ad base ro _) = _; rw [gk_ad_ro]; rfl
  rw [List.map_cons, e1] at h9
  exact va_gets hx hb hRO.2.2.2.1.2 hS hown (hts _ hw) (fun _ h => h) hdg h9
/-- the script -/
theorem gk_go_sld {x : Int32} (hin0 : vp_in x E.1.1) (hdg : decode (M j).2.1 pc = .ok (.iaload, 1)) (kk : gk_Go M E d j cf mc ms Γe Q (pc + 1) L (.int (E.2 x.toNatClampNeg) :: st) Γ h nc ns) : gk_Go M E d j cf mc ms Γe Q pc L (.int x :: .ref (1000000 + 0) :: st) Γ h nc ns := by
  intro p l e R s m args below meth c base ro cs D QF H locs ls X hret hrel hS hL hac
  obtain ⟨hx, hb, hml, hown, hts, hin, hR, hK, hRO, hbs0⟩ := id X
  have h9 := kk p l e R s m args below meth c base ro cs D QF H locs ls X hret hrel hS hL hac
  have e1 : gk_v (gk_ad base ro) (.ref (1000000 + 0)) = .ref (ro 0) := by show Value.ref (gk_ad base ro _) = _; rw [gk_ad_ro]
  rw [List.map_cons, List.map_cons, e1]
  exact va_sld hx hb hRO.1.1 (Nat.lt_of_lt_of_le hRO.1.2 hbs0) (Nat.not_le.mpr hRO.1.2) hS hin0 hdg h9
theorem gk_go_slen (hdg : decode (M j).2.1 pc = .ok (.arraylength, 1)) (kk : gk_Go M E d j cf mc ms Γe Q (pc + 1) L (.int (Int32.ofNat E.1.1) :: st) Γ h nc ns) : gk_Go M E d j cf mc ms Γe Q pc L (.ref (1000000 + 0) :: st) Γ h nc ns := by
  intro p l e R s m args below meth c base ro cs D QF H locs ls X hret hrel hS hL hac
  obtain ⟨hx, hb, hml, hown, hts, hin, hR, hK, hRO, hbs0⟩ := id X
  have h9 := kk p l e R s m args below meth c base ro cs D QF H locs ls X hret hrel hS hL hac
  have e1 : gk_v (gk_ad base ro) (.ref (1000000 + 0)) = .ref (ro 0) := by show Value.ref (gk_ad base ro _) = _; rw [gk_ad_ro]
  rw [List.map_cons, e1]
  exact va_slen hx hb hRO.1.1 (Nat.lt_of_lt_of_le hRO.1.2 hbs0) (Nat.not_le.mpr hRO.1.2) hS hdg h9
/-- Object's own constructor -/
theorem gk_go_obj {idx k : Nat} (hw : ∀ w ∈ ([.methodLink (M j).1.cls idx Lib.objectInit, .instanceMethod Lib.objectInit, .code Lib.objectInit ⟨#[0xb1]⟩ 1 none] : List Cond), w ∈ gk_TT) (hd : 1 ≤ d) (hcat : (st.map fun v => v.category).sum ≤ 8) (hdg : decode (M j).2.1 pc = .ok (.invokespecial idx, 3)) (kk : gk_Go M E d j cf mc ms Γe Q (pc + 3) L st Γ h nc ns) : gk_Go M E d j cf mc ms Γe Q pc L (.ref k :: st) Γ h nc ns := by
  intro p l e R s m args below meth c base ro cs D QF H locs ls X hret hrel hS hL hac
  obtain ⟨hx, hb, hml, hown, hts, hin, hR, hK, hRO, hbs0⟩ := id X
  refine W.objInit hx hb hown (hts _ (hw _ (by simp))) (hts _ (hw _ (by simp))) (hts _ (hw _ (by simp))) rfl (by rw [hml]; exact hL.1) rfl hdg (by omega) ?_ (kk p l e R s m args below meth c base ro cs D QF H locs ls X hret hrel hS hL hac)
  have := lv_room (m := m) (pc := pc) (ls := ls) (rest := st.map (gk_v (gk_ad base ro))) (st := st.map (gk_v (gk_ad base ro))) (by rw [gk_cat_sum]; exact hcat)
  have h2 : 2 * (F0 m pc ls ((Value.ref k :: st).map (gk_v (gk_ad base ro)))).monitorRoom + ((st.map (gk_v (gk_ad base ro))).map fun v => v.category).sum ≤ 8 := this
  omega
def gk_hc (h : gk_H) (k k0 sp dp n : Nat) : gk_H := (h.1, va_up h.2.1 k (va_cpy (h.2.1 k0) (h.2.1 k) sp dp n), h.2.2)
def gk_hcl (h : gk_H) (k k0 sp dp n : Nat) : gk_H := (h.1, h.2.1, va_up h.2.2 k (va_cpy (h.2.2 k0) (h.2.2 k) sp dp n))
/-- System.arraycopy of ints -/
theorem gk_go_copyi {idx k0 k n0 n1 : Nat} {sp dp n : Int32} {rs0 rs1 : List (Option Nat)} (hw : ∀ w ∈ ([.methodLink (M j).1.cls idx arraycopyName, .native arraycopyName, .static arraycopyName, .initialized "java/lang/System"] : List Cond), w ∈ gk_TT) (hd : 1 ≤ d) (hcat : (st.map fun v => v.category).sum ≤ 8) (h0 : Γ[k0]? = some (1, n0, rs0)) (hk : Γ[k]? = some (1, n1, rs1)) (a1 : ¬ sp < 0) (a2 : ¬ dp < 0) (a3 : ¬ n < 0) (a4 : sp.toNatClampNeg + n.toNatClampNeg ≤ n0) (a5 : dp.toNatClampNeg + n.toNatClampNeg ≤ n1) (hdg : decode (M j).2.1 pc = .ok (.invokestatic idx, 3))
    (kk : gk_Go M E d j cf mc ms Γe Q (pc + 3) L st Γ (gk_hc h k k0 sp.toNatClampNeg dp.toNatClampNeg n.toNatClampNeg) nc ns) : gk_Go M E d j cf mc ms Γe Q pc L (.int n :: .int dp :: .ref k :: .int sp :: .ref k0 :: st) Γ h nc ns := by
  intro p l e R s m args below meth c base ro cs D QF H locs ls X hret hrel hS hL hac
  obtain ⟨hx, hb, hml, hown, hts, hin, hR, hK, hRO, hbs0⟩ := id X
  have e1 : gk_v (gk_ad base ro) (.ref k) = .ref (base + k) := by show Value.ref (gk_ad base ro k) = _; rw [gk_ad_own (gk_lt hrel hk)]
  have e0 : gk_v (gk_ad base ro) (.ref k0) = .ref (base + k0) := by show Value.ref (gk_ad base ro k0) = _; rw [gk_ad_own (gk_lt hrel h0)]
  simp only [List.map_cons, e1, e0]
  refine va_copyi (D := D) (A := gk_A base) (H0 := s.heap) (c0 := cs 0) (c1 := cs 0) (n0 := n0) (n1 := n1) (f := h.2.1 k0) (g := h.2.1 k) (ty := .int) hx hb (by rw [hml]; exact hL.1.symm) hown (hts _ (hw _ (by simp))) (hts _ (hw _ (by simp))) (hts _ (hw _ (by simp))) (hts _ (hw _ (by simp))) hK hrel.2 gk_ws_D hS k0 k 0 0 (gk_ws_get h0) (gk_ws_get hk) rfl rfl rfl a1 a2 a3 a4 a5 (fun _ _ => rfl) (by omega) ?_ hdg (fun H1 locs1 hP1 hD1 hS1 => ?_)
  · rw [gk_cat_sum]
    have : nativeFrameWords "java/lang/System" "arraycopy" 5 + 11 ≤ 52 := by decide +kernel
    omega
  · refine kk p l e R s m args below meth c base ro cs D QF H1 locs1 ls X hret ?_ hS1 hL hac
    refine gk_rel_set0 hrel hk (fun q hq => ⟨rfl, gk_up_ne hq, rfl⟩) ?_ hP1
    show _ = Sum.inl (cs 0, n1, Sum.inl (va_up h.2.1 k _ k))
    rw [gk_up_eq]
theorem gk_go_copyl {idx k0 k n0 n1 : Nat} {sp dp n : Int32} {rs0 rs1 : List (Option Nat)} (hw : ∀ w ∈ ([.methodLink (M j).1.cls idx arraycopyName, .native arraycopyName, .static arraycopyName, .initialized "java/lang/System"] : List Cond), w ∈ gk_TT) (hd : 1 ≤ d) (hcat : (st.map fun v => v.category).sum ≤ 8) (h0 : Γ[k0]? = some (3, n0, rs0)) (hk : Γ[k]? = some (3, n1, rs1)) (a1 : ¬ sp < 0) (a2 : ¬ dp < 0) (a3 : ¬ n < 0) (a4 : sp.toNatClampNeg + n.toNatClampNeg ≤ n0) (a5 : dp.toNatClampNeg + n.toNatClampNeg ≤ n1) (hdg : decode (M j).2.1 pc = .ok (.invokestatic idx, 3))
    (kk : gk_Go M E d j cf mc ms Γe Q (pc + 3) L st Γ (gk_hcl h k k0 sp.toNatClampNeg dp.toNatClampNeg n.toNatClampNeg) nc ns) : gk_Go M E d j cf mc ms Γe Q pc L (.int n :: .int dp :: .ref k :: .int sp :: .ref k0 :: st) Γ h nc ns := by
  intro p l e R s m args below meth c base ro cs D QF H locs ls X hret hrel hS hL hac
  obtain ⟨hx, hb, hml, hown, hts, hin, hR, hK, hRO, hbs0⟩ := id X
  have e1 : gk_v (gk_ad base ro) (.ref k) = .ref (base + k) := by show Value.ref (gk_ad base ro k) = _; rw [gk_ad_own (gk_lt hrel hk)]
  have e0 : gk_v (gk_ad base ro) (.ref k0) = .ref (base + k0) := by show Value.ref (gk_ad base ro k0) = _; rw [gk_ad_own (gk_lt hrel h0)]
  simp only [List.map_cons, e1, e0]
  refine va_copyl (D := D) (A := gk_A base) (H0 := s.heap) (c0 := cs 2) (c1 := cs 2) (n0 := n0) (n1 := n1) (f := h.2.2 k0) (g := h.2.2 k) (ty := .long) hx hb (by rw [hml]; exact hL.1.symm) hown (hts _ (hw _ (by simp))) (hts _ (hw _ (by simp))) (hts _ (hw _ (by simp))) (hts _ (hw _ (by simp))) hK hrel.2 gk_ws_D hS k0 k 2 2 (gk_ws_get h0) (gk_ws_get hk) rfl rfl rfl a1 a2 a3 a4 a5 (fun _ _ => rfl) (by omega) ?_ hdg (fun H1 locs1 hP1 hD1 hS1 => ?_)
  · rw [gk_cat_sum]
    have : nativeFrameWords "java/lang/System" "arraycopy" 5 + 11 ≤ 52 := by decide +kernel
    omega
  · refine kk p l e R s m args below meth c base ro cs D QF H1 locs1 ls X hret ?_ hS1 hL hac
    refine gk_rel_set0 hrel hk (fun q hq => ⟨rfl, rfl, gk_up_ne hq⟩) ?_ hP1
    show _ = Sum.inl (cs 2, n1, Sum.inr (Sum.inl (va_up h.2.2 k _ k)))
    rw [gk_up_eq]
end GKM
end
section
/-! makings -/
set_option maxRecDepth 100000 in
theorem gk_defs {ci : Nat} {C : String} {T : u_T} {N : Nat} (hc : vwCl[ci]? = some (C, T, N)) : (gk_bs ci).length = N ∧ ∀ j, j < N → (parseFieldDescriptor (T j).2.2.1).map defaultValue = ((gk_bs ci)[j]?).map (fun b => bif b then Value.null else .int 0) := by
  match ci, hc with
  | 0, hc => cases hc; exact ⟨rfl, by decide +kernel⟩
  | 1, hc => cases hc; exact ⟨rfl, by decide +kernel⟩
  | 2, hc => cases hc; exact ⟨rfl, by decide +kernel⟩
  | 3, hc => cases hc; exact ⟨rfl, by decide +kernel⟩
  | 4, hc => cases hc; exact ⟨rfl, by decide +kernel⟩
  | 5, hc => cases hc; exact ⟨rfl, by decide +kernel⟩
  | 6, hc => cases hc; exact ⟨rfl, by decide +kernel⟩
  | 7, hc => cases hc; exact ⟨rfl, by decide +kernel⟩
  | 8, hc => cases hc; exact ⟨rfl, by decide +kernel⟩
  | 9, hc => cases hc; exact ⟨rfl, by decide +kernel⟩
  | 10, hc => cases hc; exact ⟨rfl, by decide +kernel⟩
  | k + 11, hc => simp [vwCl] at hc
theorem gk_ws_push {base : Nat} {ad : Nat → Nat} {cs : Nat → ClassId} {Γ : gk_G} {h h' : gk_H} {κ : gk_K} (hh : ∀ q, q ≠ Γ.length → h'.1 q = h.1 q ∧ h'.2.1 q = h.2.1 q ∧ h'.2.2 q = h.2.2 q) : gk_ws base ad cs Γ h ++ [(base + Γ.length, gk_cell ad cs κ (h'.1 Γ.length) (h'.2.1 Γ.length) (h'.2.2 Γ.length))] = gk_ws base ad cs (Γ ++ [κ]) h' := by
  rw [gk_ws, gk_ws, List.mapIdx_append]
  congr 1
  · refine List.ext_getElem? fun i => ?_
    rw [List.getElem?_mapIdx, List.getElem?_mapIdx]
    cases hi : Γ[i]? with
    | none => rfl
    | some κ' =>
      have hl : i < Γ.length := (List.getElem?_eq_some_iff.mp hi).1
      obtain ⟨e1, e2, e3⟩ := hh i (by omega)
      simp only [Option.map_some, e1, e2, e3]
  · simp
def gk_h0 (h : gk_H) (k : Nat) : gk_H := (va_up h.1 k (fun _ => 0), va_up h.2.1 k (fun _ => 0), va_up h.2.2 k (fun _ => 0))
/-- the new cell lies behind the last one -/
theorem gk_behind {base : Nat} {ro : Nat → Nat} {cs : Nat → ClassId} {D : va_G} {Γ : gk_G} {h : gk_H} {H1 : Heap} {q : Nat} {x : va_E} (hP : va_P D vwCl (gk_ws base (gk_ad base ro) cs Γ h ++ [(q, x)]) H1) (hD : va_D (gk_A base) (gk_ws base (gk_ad base ro) cs Γ h ++ [(q, x)])) (hz : H1.size ≤ base + Γ.length + 1) : q = base + Γ.length := by
  have hl : (gk_ws base (gk_ad base ro) cs Γ h).length = Γ.length := by rw [gk_ws, List.length_mapIdx]
  have hg : (gk_ws base (gk_ad base ro) cs Γ h ++ [(q, x)])[Γ.length]? = some (q, x) := by
    rw [List.getElem?_append_right (by omega), hl, Nat.sub_self]; rfl
  have h1 : q < H1.size := (hP _ _ hg).lt
  have h2 : base ≤ q := hD.2 _ _ hg
  rcases Nat.lt_or_ge q (base + Γ.length) with h3 | h3
  · have hk : q - base < Γ.length := by omega
    have hk2 : Γ[q - base]? = some Γ[q - base] := List.getElem?_eq_getElem hk
    have hg2 : (gk_ws base (gk_ad base ro) cs Γ h ++ [(q, x)])[q - base]? = some (base + (q - base), gk_cell (gk_ad base ro) cs Γ[q - base] (h.1 (q - base)) (h.2.1 (q - base)) (h.2.2 (q - base))) := by
      rw [List.getElem?_append_left (by omega)]; exact gk_ws_get hk2
    have := hD.1 _ _ _ _ hg2 hg (show base + (q - base) = q by omega)
    omega
  · omega
section GKN
variable {M : Nat → gk_J} {E : gk_E} {d j : Nat} {cf : Bool} {mc ms : Nat} {Γe : gk_G} {Q : Option Value → gk_H → Prop} {pc : Nat} {L : gk_L} {st : List Value} {Γ : gk_G} {h : gk_H} {nc ns : Nat}
set_option maxHeartbeats 1000000 in
theorem gk_go_new {idx ci N : Nat} {C : String} {T : u_T} (hc : vwCl[ci]? = some (C, T, N)) (hw : ∀ w ∈ ([.classLink (M j).1.cls idx C, .instantiable C N, .initialized C] : List Cond), w ∈ gk_TT) (h1 : nc + 1 ≤ mc) (h2 : ns + N ≤ ms) (h3 : Γ.length < 1000000) (hdg : decode (M j).2.1 pc = .ok (.new idx, 3))
    (kk : gk_Go M E d j cf mc ms Γe Q (pc + 3) L (.ref Γ.length :: st) (Γ ++ [(0, ci, List.replicate N none)]) (gk_h0 h Γ.length) (nc + 1) (ns + N)) : gk_Go M E d j cf mc ms Γe Q pc L st Γ h nc ns := by
  intro p l e R s m args below meth c base ro cs D QF H locs ls X hret hrel hS hL hac
  obtain ⟨hx, hb, hml, hown, hts, hin, hR, hK, hRO, hbs0⟩ := id X
  obtain ⟨c1, ⟨ty0, c2⟩, c3⟩ := gk_clok hc
  obtain ⟨d1, d2⟩ := gk_defs hc
  refine va_new (D := D) (ci := ci) (A := gk_A base) (H0 := s.heap) (fs := gk_fs (gk_ad base ro) (gk_bs ci) (List.replicate N none) (fun _ => 0)) hx hb hts c1 ty0 c2 hown (hts _ (hw _ (by simp))) (hts _ (hw _ (by simp))) (hts _ (hw _ (by simp))) hK hrel.2 gk_ws_D hS (fun q hq => Nat.le_trans hbs0 hq) hc (fun q hq => ?_) (by omega) (by omega) hdg (fun q H1 hP1 hD1 hS1 => gk_size fun hsz => ?_)
  · have e1 := d2 q hq
    rw [c2 q hq] at e1
    have hb9 : (gk_bs ci)[q]? = some (gk_bs ci)[q] := List.getElem?_eq_getElem (by omega)
    rw [hb9] at e1
    rw [vp_V, List.getD_eq_getElem?_getD, gk_fs_get hb9]
    have e2 : (List.replicate N (none : Option Nat)).getD q none = none := by
      rw [List.getD_eq_getElem?_getD]; cases h9 : (List.replicate N (none : Option Nat))[q]? with
      | none => rfl
      | some z => rw [List.eq_of_mem_replicate (List.mem_of_getElem? h9)]; rfl
    rw [e2]
    simp only [Option.map_some, Option.some.injEq] at e1
    rw [e1]; rfl
  · have hq := gk_behind hP1 hD1 (by omega)
    subst hq
    have h9 := kk p l e R s m args below meth c base ro cs D QF H1 locs ls X hret ⟨by rw [List.length_append]; exact h3, ?_⟩ hS1 hL (by rw [List.length_append]; show _ = base + (Γ.length + 1); omega)
    · have e1 : gk_v (gk_ad base ro) (.ref Γ.length) = .ref (base + Γ.length) := by show Value.ref (gk_ad base ro _) = _; rw [gk_ad_own h3]
      rw [List.map_cons, e1] at h9
      exact h9
    · rw [← gk_ws_push (h := h) (fun q hq => ⟨gk_up_ne hq, gk_up_ne hq, gk_up_ne hq⟩)]
      have e2 : gk_cell (gk_ad base ro) cs (0, ci, List.replicate N none) ((gk_h0 h Γ.length).1 Γ.length) ((gk_h0 h Γ.length).2.1 Γ.length) ((gk_h0 h Γ.length).2.2 Γ.length) = .inr (ci, gk_fs (gk_ad base ro) (gk_bs ci) (List.replicate N none) (fun _ => 0)) := by
        show Sum.inr (ci, gk_fs (gk_ad base ro) (gk_bs ci) (List.replicate N none) (va_up h.1 Γ.length (fun _ => 0) Γ.length)) = _
        rw [gk_up_eq]
      rw [e2]; exact hP1
theorem gk_cA {s : State} {D : va_G} {cs : Nat → ClassId} {t : Nat} {ty : FieldType} {cA : ClassId} (hK : va_K D vwCl (gk_tys cs) s) (ht : (gk_tys cs)[t]? = some (cs t, ty)) (hp : refKind ty = false) (h : va_RA s cA ty) : cA = cs t := by
  have h1 := (hK.2 t _ ht).2
  cases ty <;> first | (cases hp; done) | exact Option.some.inj (h.symm.trans h1)
/-- int[], char[], long[] by their tags 1, 2, 3 -/
def gk_at (t : Nat) : ArrayType × FieldType := match t with
  | 1 => (.int, .int)
  | 2 => (.char, .char)
  | _ => (.long, .long)
set_option maxHeartbeats 1000000 in
theorem gk_go_newa {t : Nat} {n : Int32} (ht : t = 1 ∨ t = 2 ∨ t = 3) (hw : Cond.arrayClass (gk_at t).2 ∈ gk_TT) (hn : ¬ n < 0) (hby : n.toNatClampNeg * 8 ≤ 536870912) (h1 : nc + 1 ≤ mc) (h2 : ns + n.toNatClampNeg ≤ ms) (h3 : Γ.length < 1000000) (hdg : decode (M j).2.1 pc = .ok (.newarray (gk_at t).1, 2))
    (kk : gk_Go M E d j cf mc ms Γe Q (pc + 2) L (.ref Γ.length :: st) (Γ ++ [(t, n.toNatClampNeg, [])]) (gk_h0 h Γ.length) (nc + 1) (ns + n.toNatClampNeg)) : gk_Go M E d j cf mc ms Γe Q pc L (.int n :: st) Γ h nc ns := by
  intro p l e R s m args below meth c base ro cs D QF H locs ls X hret hrel hS hL hac
  obtain ⟨hx, hb, hml, hown, hts, hin, hR, hK, hRO, hbs0⟩ := id X
  have fin : ∀ (q : Nat) (H1 : Heap) (x : va_E), x = gk_cell (gk_ad base ro) cs (t, n.toNatClampNeg, []) ((gk_h0 h Γ.length).1 Γ.length) ((gk_h0 h Γ.length).2.1 Γ.length) ((gk_h0 h Γ.length).2.2 Γ.length) → va_P D vwCl (gk_ws base (gk_ad base ro) cs Γ h ++ [(q, x)]) H1 → va_D (gk_A base) (gk_ws base (gk_ad base ro) cs Γ h ++ [(q, x)]) → va_S (gk_A base) s.heap H1 locs → W p l e R s m args below meth c H1 locs (nc + 1) (ns + n.toNatClampNeg) QF (F0 m (pc + 2) ls (.ref q :: st.map (gk_v (gk_ad base ro)))) := by
    intro q H1 x hx9 hP1 hD1 hS1
    refine gk_size fun hsz => ?_
    have hq := gk_behind hP1 hD1 (by omega)
    subst hq
    have h9 := kk p l e R s m args below meth c base ro cs D QF H1 locs ls X hret ⟨by rw [List.length_append]; exact h3, ?_⟩ hS1 hL (by rw [List.length_append]; show _ = base + (Γ.length + 1); omega)
    · have e1 : gk_v (gk_ad base ro) (.ref Γ.length) = .ref (base + Γ.length) := by show Value.ref (gk_ad base ro _) = _; rw [gk_ad_own h3]
      rw [List.map_cons, e1] at h9
      exact h9
    · rw [← gk_ws_push (h := h) (fun q hq => ⟨gk_up_ne hq, gk_up_ne hq, gk_up_ne hq⟩), ← hx9]
      exact hP1
  have tl : ∀ (cA : ClassId) (ty : FieldType), va_K D vwCl (gk_tys cs ++ [(cA, ty)]) s → va_RA s cA ty := fun cA ty h => (h.2 4 (cA, ty) rfl).2
  rw [List.map_cons]
  rcases ht with rfl | rfl | rfl
  · refine va_newa (D := D) (A := gk_A base) (H0 := s.heap) (atype := .int) (ty := .int) (a0 := (n.toNatClampNeg, .inl (fun _ => 0))) hx hb (hts _ hw) rfl hK hrel.2 gk_ws_D hS (fun q hq => Nat.le_trans hbs0 hq) (fun cA => rfl) hn rfl ?_ (by omega) (by omega) hdg (fun q cA H1 hK1 hP1 hD1 hS1 => ?_)
    · show n.toNatClampNeg * 4 ≤ _; omega
    · have := gk_cA (t := 0) hK rfl rfl (tl _ _ hK1); subst this
      exact fin q H1 _ (by show _ = Sum.inl (cs 0, n.toNatClampNeg, Sum.inl (va_up h.2.1 Γ.length (fun _ => 0) Γ.length)); rw [gk_up_eq]) hP1 hD1 hS1
  · refine va_newa (D := D) (A := gk_A base) (H0 := s.heap) (atype := .char) (ty := .char) (a0 := (n.toNatClampNeg, .inl (fun _ => 0))) hx hb (hts _ hw) rfl hK hrel.2 gk_ws_D hS (fun q hq => Nat.le_trans hbs0 hq) (fun cA => rfl) hn rfl ?_ (by omega) (by omega) hdg (fun q cA H1 hK1 hP1 hD1 hS1 => ?_)
    · show n.toNatClampNeg * 2 ≤ _; omega
    · have := gk_cA (t := 1) hK rfl rfl (tl _ _ hK1); subst this
      exact fin q H1 _ (by show _ = Sum.inl (cs 1, n.toNatClampNeg, Sum.inl (va_up h.2.1 Γ.length (fun _ => 0) Γ.length)); rw [gk_up_eq]) hP1 hD1 hS1
  · refine va_newa (D := D) (A := gk_A base) (H0 := s.heap) (atype := .long) (ty := .long) (a0 := (n.toNatClampNeg, .inr (.inl (fun _ => 0)))) hx hb (hts _ hw) rfl hK hrel.2 gk_ws_D hS (fun q hq => Nat.le_trans hbs0 hq) (fun cA => rfl) hn rfl ?_ (by omega) (by omega) hdg (fun q cA H1 hK1 hP1 hD1 hS1 => ?_)
    · show n.toNatClampNeg * 8 ≤ _; omega
    · have := gk_cA (t := 2) hK rfl rfl (tl _ _ hK1); subst this
      exact fin q H1 _ (by show _ = Sum.inl (cs 2, n.toNatClampNeg, Sum.inr (Sum.inl (va_up h.2.2 Γ.length (fun _ => 0) Γ.length))); rw [gk_up_eq]) hP1 hD1 hS1
set_option maxHeartbeats 1000000 in
theorem gk_go_newq {idx : Nat} {n : Int32} (hw : Cond.classLink (M j).1.cls idx "DryPlaces$World" ∈ gk_TT) (hn : ¬ n < 0) (hby : n.toNatClampNeg * 8 ≤ 536870912) (h1 : nc + 1 ≤ mc) (h2 : ns + n.toNatClampNeg ≤ ms) (h3 : Γ.length < 1000000) (hdg : decode (M j).2.1 pc = .ok (.anewarray idx, 3))
    (kk : gk_Go M E d j cf mc ms Γe Q (pc + 3) L (.ref Γ.length :: st) (Γ ++ [(4, n.toNatClampNeg, List.replicate n.toNatClampNeg none)]) (gk_h0 h Γ.length) (nc + 1) (ns + n.toNatClampNeg)) : gk_Go M E d j cf mc ms Γe Q pc L (.int n :: st) Γ h nc ns := by
  intro p l e R s m args below meth c base ro cs D QF H locs ls X hret hrel hS hL hac
  obtain ⟨hx, hb, hml, hown, hts, hin, hR, hK, hRO, hbs0⟩ := id X
  rw [List.map_cons]
  refine va_newq (D := D) (A := gk_A base) (H0 := s.heap) (C := "DryPlaces$World") hx hb hown (hts _ hw) hRO.2.2.2.2.2 hK hrel.2 gk_ws_D hS (fun q hq => Nat.le_trans hbs0 hq) hn rfl (by omega) (by omega) (by omega) hdg (fun q cA H1 hK1 hP1 hD1 hS1 => gk_size fun hsz => ?_)
  have hra : va_RA s cA (.object "DryPlaces$World") := (hK1.2 4 (cA, .object "DryPlaces$World") rfl).2
  have hrb : va_RA s (cs 3) (.object "DryPlaces$World") := (hK.2 3 (cs 3, .object "DryPlaces$World") rfl).2
  have hcA : cA = cs 3 := by
    obtain ⟨_, _, _, _, _, g1⟩ := hra
    obtain ⟨_, _, _, _, _, g2⟩ := hrb
    exact Option.some.inj (g1.symm.trans g2)
  subst hcA
  have hq := gk_behind hP1 hD1 (by omega)
  subst hq
  have h9 := kk p l e R s m args below meth c base ro cs D QF H1 locs ls X hret ⟨by rw [List.length_append]; exact h3, ?_⟩ hS1 hL (by rw [List.length_append]; show _ = base + (Γ.length + 1); omega)
  · have e1 : gk_v (gk_ad base ro) (.ref Γ.length) = .ref (base + Γ.length) := by show Value.ref (gk_ad base ro _) = _; rw [gk_ad_own h3]
    rw [List.map_cons, e1] at h9
    exact h9
  · rw [← gk_ws_push (h := h) (fun q hq => ⟨gk_up_ne hq, gk_up_ne hq, gk_up_ne hq⟩)]
    have e2 : gk_cell (gk_ad base ro) cs (4, n.toNatClampNeg, List.replicate n.toNatClampNeg none) ((gk_h0 h Γ.length).1 Γ.length) ((gk_h0 h Γ.length).2.1 Γ.length) ((gk_h0 h Γ.length).2.2 Γ.length) = .inl (cs 3, n.toNatClampNeg, .inr (.inr (.inr (.inr (fun _ => none))))) := by
      show Sum.inl (cs 3, n.toNatClampNeg, Sum.inr (Sum.inr (Sum.inr (Sum.inr (fun i => ((List.replicate n.toNatClampNeg (none : Option Nat)).getD i none).map (gk_ad base ro)))))) = _
      have : (fun i => ((List.replicate n.toNatClampNeg (none : Option Nat)).getD i none).map (gk_ad base ro)) = fun _ => none := by
        funext q
        rw [List.getD_eq_getElem?_getD]; cases h9 : (List.replicate n.toNatClampNeg (none : Option Nat))[q]? with
        | none => rfl
        | some z => rw [List.eq_of_mem_replicate (List.mem_of_getElem? h9)]; rfl
      rw [this]
    rw [e2]; exact hP1
set_option maxHeartbeats 1000000 in
theorem gk_go_aast {k n a : Nat} {i : Int32} {rs rs' : List (Option Nat)} (hk : Γ[k]? = some (4, n, rs)) (ha : Γ[a]? = some (0, 8, rs')) (hi : vp_in i n) (hrs : i.toNatClampNeg < rs.length) (hdg : decode (M j).2.1 pc = .ok (.aastore, 1)) (kk : gk_Go M E d j cf mc ms Γe Q (pc + 1) L st (Γ.set k (4, n, rs.set i.toNatClampNeg (some a))) h nc ns) : gk_Go M E d j cf mc ms Γe Q pc L (.ref a :: .int i :: .ref k :: st) Γ h nc ns := by
  intro p l e R s m args below meth c base ro cs D QF H locs ls X hret hrel hS hL hac
  obtain ⟨hx, hb, hml, hown, hts, hin, hR, hK, hRO, hbs0⟩ := id X
  have e1 : gk_v (gk_ad base ro) (.ref k) = .ref (base + k) := by show Value.ref (gk_ad base ro k) = _; rw [gk_ad_own (gk_lt hrel hk)]
  have e0 : gk_v (gk_ad base ro) (.ref a) = .ref (base + a) := by show Value.ref (gk_ad base ro a) = _; rw [gk_ad_own (gk_lt hrel ha)]
  simp only [List.map_cons, e1, e0]
  refine va_astq (D := D) (A := gk_A base) (H0 := s.heap) (cA := cs 3) (r := (RX9, TX9, 13)) (n := n) (f := fun i => (rs.getD i none).map (gk_ad base ro)) hx hb hK hrel.2 gk_ws_D hS k 3 a 8 (gk_ws_get hk) rfl (gk_ws_get ha) rfl hi hdg (fun H1 locs1 hP1 hD1 hS1 => ?_)
  refine kk p l e R s m args below meth c base ro cs D QF H1 locs1 ls X hret ?_ hS1 hL (by rw [List.length_set]; exact hac)
  refine gk_rel_set hrel hk (fun q hq => ⟨rfl, rfl, rfl⟩) ?_ hP1
  show _ = Sum.inl (cs 3, n, Sum.inr (Sum.inr (Sum.inr (Sum.inr (fun q => ((rs.set i.toNatClampNeg (some a)).getD q none).map (gk_ad base ro))))))
  have : (fun q => ((rs.set i.toNatClampNeg (some a)).getD q none).map (gk_ad base ro)) = va_up (fun i => (rs.getD i none).map (gk_ad base ro)) i.toNatClampNeg (some (base + a)) := by
    funext q
    by_cases hq : q = i.toNatClampNeg
    · subst hq
      rw [gk_up_eq, List.getD_eq_getElem?_getD, List.getElem?_set_self hrs]
      show some (gk_ad base ro a) = _
      rw [gk_ad_own (gk_lt hrel ha)]
    · rw [gk_up_ne hq, List.getD_eq_getElem?_getD, List.getElem?_set_ne (Ne.symm hq), ← List.getD_eq_getElem?_getD]
  rw [this]
end GKN
end
section
/-! the walk as a function: what must hold for a method's body to come to its end with Q -/
def gk_lk {α : Type} : List (Nat × α) → Nat → Option α
  | [], _ => none
  | q :: r, k => bif Nat.beq q.1 k then some q.2 else gk_lk r k
theorem gk_lk_mem {α : Type} : ∀ {t : List (Nat × α)} {k : Nat} {v : α}, gk_lk t k = some v → (k, v) ∈ t := by
  intro t
  induction t with
  | nil => intro k v h; cases h
  | cons q r ih =>
    intro k v h
    rw [gk_lk] at h
    cases hq : Nat.beq q.1 k with
    | true =>
      rw [hq] at h
      have := Nat.eq_of_beq_eq_true hq
      cases h
      rw [← this]
      exact List.mem_cons_self
    | false => rw [hq] at h; exact List.mem_cons_of_mem _ (ih h)
/-- a method's table: pc, instruction, next pc, target -/
abbrev gk_T : Type := List (Nat × Instr × Nat × Nat)
/-- a pool: fields (idx, ci, slot, kd), calls (idx, kd, j', ci, n, answer 0 none 1 int 2 long, cells, slots), ints, longs, classes -/
abbrev gk_P : Type := List (Nat × Nat × Nat × Nat) × List (Nat × Nat × Nat × Nat × Nat × Nat × Nat × Nat) × List (Nat × Int32) × List (Nat × Int64) × List (Nat × Nat)
/-- a method's own: answer's kind (0 none, 1 int, 2 long, 3 boolean, 4 char, 5 byte), switches, cells behind its makings' calls -/
abbrev gk_O : Type := Nat × List (Nat × List (Int32 × Nat) × Nat) × List (Nat × gk_G)
def gk_rt (rk : Nat) : Option FieldType := match rk with
  | 0 => none
  | 1 => some .int
  | 2 => some .long
  | 3 => some .boolean
  | 4 => some .char
  | _ => some .byte
/-- the callee's contract, one frame deeper -/
def gk_call (M : Nat → gk_J) (E : gk_E) (d j : Nat) (av : List Value) (Γ Γ1 : gk_G) (h : gk_H) (mc ms : Nat) (K : Option Value → gk_H → Prop) : Prop := ∃ d', d' + 1 = d ∧ gk_Con M E d' j av Γ Γ1 h mc ms K
def gk_tk : Nat → List Value → List Value → Option (List Value × List Value)
  | 0, acc, st => some (acc, st)
  | n + 1, acc, v :: st => gk_tk n (v :: acc) st
  | _ + 1, _, [] => none
theorem gk_tk_eq : ∀ {n : Nat} {acc st av rest : List Value}, gk_tk n acc st = some (av, rest) → ∃ bv, av = bv ++ acc ∧ bv.length = n ∧ st = bv.reverse ++ rest := by
  intro n
  induction n with
  | zero => intro acc st av rest h; cases h; exact ⟨[], rfl, rfl, rfl⟩
  | succ n ih =>
    intro acc st av rest h
    cases st with
    | nil => cases h
    | cons v st =>
      obtain ⟨bv, h1, h2, h3⟩ := ih (acc := v :: acc) h
      refine ⟨bv ++ [v], by rw [h1]; simp, by simp [h2], ?_⟩
      rw [h3]; simp
def gk_cs (st : List Value) : Nat := (st.map fun v => v.category).sum
def gk_al (i : Nat) (K : Option Nat → Prop) : Nat → List (Option Nat) → Prop
  | _, [] => True
  | q, a :: r => (i = q → K a) ∧ gk_al i K (q + 1) r
theorem gk_al_at {i : Nat} {K : Option Nat → Prop} : ∀ {rs : List (Option Nat)} {q : Nat}, gk_al i K q rs → q ≤ i → i < q + rs.length → K (rs.getD (i - q) none) := by
  intro rs
  induction rs with
  | nil => intro q _ h1 h2; simp at h2; omega
  | cons a r ih =>
    intro q h h1 h2
    by_cases e : i = q
    · subst e
      rw [Nat.sub_self]; exact h.1 rfl
    · have h3 := ih h.2 (by omega) (by simp at h2; omega)
      rw [show i - q = i - (q + 1) + 1 by omega]
      exact h3
/-- a number gets a name -/
def gk_nm {α : Type} (b : Bool) (x : α) (F : α → Prop) : Prop := bif b then (∀ y, y = x → F y) else F x
theorem gk_nm_use {α : Type} {b : Bool} {x : α} {F : α → Prop} (h : gk_nm b x F) : F x := by
  cases b with
  | true => exact h x rfl
  | false => exact h
section GKW
variable (nm : Bool) (M : Nat → gk_J) (E : gk_E) (d j : Nat) (cf : Bool) (mc ms : Nat) (Γe : gk_G) (Q : Option Value → gk_H → Prop) (P : gk_P) (O : gk_O) (K : Nat → gk_L → List Value → gk_G → gk_H → Nat → Nat → Prop)
def gk_ld (nxt i kd : Nat) (L : gk_L) (st : List Value) (Γ : gk_G) (h : gk_H) (nc ns : Nat) : Prop := match L[i]? with
  | some (some (.int x)) => bif kd == 0 then K nxt L (.int x :: st) Γ h nc ns else False
  | some (some (.long x)) => bif kd == 1 then K nxt L (.long x :: st) Γ h nc ns else False
  | some (some (.ref x)) => bif kd == 2 then K nxt L (.ref x :: st) Γ h nc ns else False
  | some (some .null) => bif kd == 3 then K nxt L (.null :: st) Γ h nc ns else False
  | _ => False
def gk_sto (nxt i kd : Nat) (L : gk_L) (st : List Value) (Γ : gk_G) (h : gk_H) (nc ns : Nat) : Prop := match st with
  | .int x :: r => bif kd == 0 && Nat.blt i L.length then gk_nm nm x (fun y => K nxt (gk_s1 L i (.int y)) r Γ h nc ns) else False
  | .long x :: r => bif kd == 1 && Nat.blt (i + 1) L.length then gk_nm nm x (fun y => K nxt (gk_s2 L i (.long y)) r Γ h nc ns) else False
  | .ref x :: r => bif kd == 2 && Nat.blt i L.length then K nxt (gk_s1 L i (.ref x)) r Γ h nc ns else False
  | _ => False
def gk_rd (kd : Nat) (nxt : Nat) (L : gk_L) (st : List Value) (Γ : gk_G) (h : gk_H) (nc ns : Nat) : Prop := match st with
  | .int i :: .ref k :: r => bif Nat.beq k 1000000 then (bif kd == 1 then vp_in i E.1.1 ∧ K nxt L (.int (E.2 i.toNatClampNeg) :: r) Γ h nc ns else False) else bif Nat.blt 1000002 k then (bif kd == 5 && Nat.blt k 1000005 then vp_in i (gk_len.getD (k - 1000003) 0) ∧ K nxt L (.int ((gk_byt.getD (k - 1000003) []).getD i.toNatClampNeg 0) :: r) Γ h nc ns else False) else match Γ[k]? with
    | some (1, n, _) => bif kd == 1 then vp_in i n ∧ K nxt L (.int (h.2.1 k i.toNatClampNeg) :: r) Γ h nc ns else False
    | some (2, n, _) => bif kd == 2 then vp_in i n ∧ K nxt L (.int (h.2.1 k i.toNatClampNeg) :: r) Γ h nc ns else False
    | some (3, n, _) => bif kd == 3 then vp_in i n ∧ K nxt L (.long (h.2.2 k i.toNatClampNeg) :: r) Γ h nc ns else False
    | some (4, n, rs) => bif kd == 4 && Nat.beq rs.length n then vp_in i n ∧ gk_al i.toNatClampNeg (fun a => K nxt L (va_rf a :: r) Γ h nc ns) 0 rs else False
    | _ => False
  | _ => False
def gk_wr (kd : Nat) (nxt : Nat) (L : gk_L) (st : List Value) (Γ : gk_G) (h : gk_H) (nc ns : Nat) : Prop := match st with
  | .int x :: .int i :: .ref k :: r => match Γ[k]? with
    | some (1, n, _) => bif kd == 1 then vp_in i n ∧ K nxt L r Γ (gk_ha h k i.toNatClampNeg x) nc ns else False
    | some (2, n, _) => bif kd == 2 then vp_in i n ∧ K nxt L r Γ (gk_ha h k i.toNatClampNeg (vp_nar .char x)) nc ns else False
    | _ => False
  | .long x :: .int i :: .ref k :: r => match Γ[k]? with
    | some (3, n, _) => bif kd == 3 then vp_in i n ∧ K nxt L r Γ (gk_hl h k i.toNatClampNeg x) nc ns else False
    | _ => False
  | .ref a :: .int i :: .ref k :: r => match Γ[k]?, Γ[a]? with
    | some (4, n, rs), some (0, 8, _) => bif kd == 4 && cf && Nat.blt i.toNatClampNeg rs.length then vp_in i n ∧ K nxt L r (Γ.set k (4, n, rs.set i.toNatClampNeg (some a))) h nc ns else False
    | _, _ => False
  | _ => False
def gk_len1 (nxt : Nat) (L : gk_L) (st : List Value) (Γ : gk_G) (h : gk_H) (nc ns : Nat) : Prop := match st with
  | .ref k :: r => bif Nat.beq k 1000000 then K nxt L (.int (Int32.ofNat E.1.1) :: r) Γ h nc ns else bif Nat.blt 1000002 k then (bif Nat.blt k 1000005 then K nxt L (.int (OfNat.ofNat (gk_len.getD (k - 1000003) 0)) :: r) Γ h nc ns else False) else match Γ[k]? with
    | some (1, n, _) => K nxt L (.int (OfNat.ofNat n) :: r) Γ h nc ns
    | some (2, n, _) => K nxt L (.int (OfNat.ofNat n) :: r) Γ h nc ns
    | some (3, n, _) => K nxt L (.int (OfNat.ofNat n) :: r) Γ h nc ns
    | _ => False
  | _ => False
def gk_gf (e : Nat × Nat × Nat) (nxt : Nat) (L : gk_L) (st : List Value) (Γ : gk_G) (h : gk_H) (nc ns : Nat) : Prop := match st with
  | .ref k :: r => bif Nat.blt 1000000 k then (bif Nat.blt k 1000003 then (bif Nat.beq e.2.2 3 then K nxt L (.ref (k + 2) :: r) Γ h nc ns else bif Nat.beq e.2.2 4 then K nxt L (.int 0 :: r) Γ h nc ns else False) else False) else match Γ[k]? with
    | some (0, ci, rs) => bif Nat.beq ci e.1 then (bif Nat.beq e.2.2 0 || Nat.beq e.2.2 1 then K nxt L (.int (h.1 k e.2.1) :: r) Γ h nc ns else bif Nat.beq e.2.2 2 || Nat.beq e.2.2 5 then K nxt L (va_rf (rs.getD e.2.1 none) :: r) Γ h nc ns else False) else False
    | _ => False
  | _ => False
def gk_pf (e : Nat × Nat × Nat) (nxt : Nat) (L : gk_L) (st : List Value) (Γ : gk_G) (h : gk_H) (nc ns : Nat) : Prop := match st with
  | .int x :: .ref k :: r => match Γ[k]? with
    | some (0, ci, _) => bif Nat.beq ci e.1 then (bif Nat.beq e.2.2 0 then K nxt L r Γ (gk_hf h k e.2.1 x) nc ns else bif Nat.beq e.2.2 1 then (x = 0 ∨ x = 1) ∧ K nxt L r Γ (gk_hf h k e.2.1 x) nc ns else False) else False
    | _ => False
  | .ref a :: .ref k :: r => match Γ[k]? with
    | some (0, ci, rs) => bif Nat.beq ci e.1 && (Nat.beq e.2.2 5 && (cf && Nat.blt e.2.1 rs.length)) then K nxt L r (Γ.set k (0, ci, rs.set e.2.1 (some a))) h nc ns else False
    | _ => False
  | .null :: .ref k :: r => match Γ[k]? with
    | some (0, ci, rs) => bif Nat.beq ci e.1 && (Nat.beq e.2.2 5 && (cf && Nat.blt e.2.1 rs.length)) then K nxt L r (Γ.set k (0, ci, rs.set e.2.1 none)) h nc ns else False
    | _ => False
  | _ => False
/-- behind a call -/
def gk_bk (rk : Nat) (nxt : Nat) (L : gk_L) (r : List Value) (Γ1 : gk_G) (nc ns : Nat) : Option Value → gk_H → Prop := match rk with
  | 0 => fun v h1 => v = none ∧ K nxt L r Γ1 h1 nc ns
  | 1 => fun v h1 => ∃ x, v = some (.int x) ∧ K nxt L (.int x :: r) Γ1 h1 nc ns
  | _ => fun v h1 => ∃ x, v = some (.long x) ∧ K nxt L (.long x :: r) Γ1 h1 nc ns
def gk_cl (e : Nat × Nat × Nat × Nat × Nat × Nat × Nat) (pc nxt : Nat) (av : List Value) (L : gk_L) (r : List Value) (Γ : gk_G) (h : gk_H) (nc ns : Nat) : Prop :=
  bif Nat.ble (gk_cs r) 8 then (match cf with
    | false => gk_call M E d e.2.1 av Γ Γ h 0 0 (gk_bk K e.2.2.2.2.1 nxt L r Γ nc ns)
    | true => match gk_lk O.2.2 pc with
      | none => gk_call M E d e.2.1 av Γ Γ h 0 0 (gk_bk K e.2.2.2.2.1 nxt L r Γ nc ns)
      | some Γ1 => (Γ1.length = Γ.length + e.2.2.2.2.2.1 ∧ nc + e.2.2.2.2.2.1 ≤ mc ∧ ns + e.2.2.2.2.2.2 ≤ ms) ∧ gk_call M E d e.2.1 av Γ Γ1 h e.2.2.2.2.2.1 e.2.2.2.2.2.2 (gk_bk K e.2.2.2.2.1 nxt L r Γ1 (nc + e.2.2.2.2.2.1) (ns + e.2.2.2.2.2.2))) else False
def gk_in (i : Instr) (e : Nat × Nat × Nat × Nat × Nat × Nat × Nat) (pc nxt : Nat) (L : gk_L) (st : List Value) (Γ : gk_G) (h : gk_H) (nc ns : Nat) : Prop := match i with
  | .invokevirtual _ => match gk_tk e.2.2.2.1 [] st with
    | some (av, .ref k :: r) => bif Nat.beq e.1 0 then (match Γ[k]? with
      | some (0, ci, _) => bif Nat.beq ci e.2.2.1 then gk_cl M E d cf mc ms O K e pc nxt (.ref k :: av) L r Γ h nc ns else False
      | _ => False) else bif Nat.beq e.1 7 && (Nat.beq k 1000001 || Nat.beq k 1000002) then gk_cl M E d cf mc ms O K e pc nxt (.ref k :: av) L r Γ h nc ns else False
    | _ => False
  | .invokestatic _ => bif Nat.beq e.1 4 then (match st with
      | .int n :: .int dp :: .ref k :: .int sp :: .ref k0 :: r => bif Nat.ble (gk_cs r) 8 then (match Γ[k0]?, Γ[k]? with
        | some (1, n0, _), some (1, n1, _) => (1 ≤ d ∧ ¬ sp < 0 ∧ ¬ dp < 0 ∧ ¬ n < 0 ∧ sp.toNatClampNeg + n.toNatClampNeg ≤ n0 ∧ dp.toNatClampNeg + n.toNatClampNeg ≤ n1) ∧ K nxt L r Γ (gk_hc h k k0 sp.toNatClampNeg dp.toNatClampNeg n.toNatClampNeg) nc ns
        | some (3, n0, _), some (3, n1, _) => (1 ≤ d ∧ ¬ sp < 0 ∧ ¬ dp < 0 ∧ ¬ n < 0 ∧ sp.toNatClampNeg + n.toNatClampNeg ≤ n0 ∧ dp.toNatClampNeg + n.toNatClampNeg ≤ n1) ∧ K nxt L r Γ (gk_hcl h k k0 sp.toNatClampNeg dp.toNatClampNeg n.toNatClampNeg) nc ns
        | _, _ => False) else False
      | _ => False) else bif Nat.beq e.1 1 || Nat.beq e.1 5 then (match gk_tk e.2.2.2.1 [] st with
    | some (av, r) => gk_cl M E d cf mc ms O K e pc nxt av L r Γ h nc ns
    | _ => False) else False
  | .invokespecial _ => bif Nat.beq e.1 3 then (match st with
      | .ref _ :: r => bif Nat.ble (gk_cs r) 8 then 1 ≤ d ∧ K nxt L r Γ h nc ns else False
      | _ => False) else bif Nat.beq e.1 2 || Nat.beq e.1 6 then (match gk_tk e.2.2.2.1 [] st with
    | some (av, .ref k :: r) => gk_cl M E d cf mc ms O K e pc nxt (.ref k :: av) L r Γ h nc ns
    | _ => False) else False
  | _ => False
/-- at an end -/
def gk_end (v : Option Value) (Γ : gk_G) (h : gk_H) (nc ns : Nat) : Prop := match cf with
  | false => Q v h
  | true => (Γ = Γe ∧ nc ≤ mc ∧ ns ≤ ms) ∧ Q v h
def gk_rtn (i : Instr) (st : List Value) (Γ : gk_G) (h : gk_H) (nc ns : Nat) : Prop := match i, st with
  | .return_, [] => bif Nat.beq O.1 0 then gk_end cf mc ms Γe Q none Γ h nc ns else False
  | .lreturn, [.long x] => bif Nat.beq O.1 2 then gk_end cf mc ms Γe Q (some (.long x)) Γ h nc ns else False
  | .ireturn, [.int x] => match O.1 with
    | 1 => gk_end cf mc ms Γe Q (some (.int x)) Γ h nc ns
    | 3 => (x = 0 ∨ x = 1) ∧ gk_end cf mc ms Γe Q (some (.int x)) Γ h nc ns
    | 4 => narrow .char (.int x) = .int x ∧ gk_end cf mc ms Γe Q (some (.int x)) Γ h nc ns
    | 5 => narrow .byte (.int x) = .int x ∧ gk_end cf mc ms Γe Q (some (.int x)) Γ h nc ns
    | _ => False
  | _, _ => False
def gk_nw (i : Instr) (nxt : Nat) (L : gk_L) (st : List Value) (Γ : gk_G) (h : gk_H) (nc ns : Nat) : Prop := match cf, i, st with
  | true, .new idx, st => match gk_lk P.2.2.2.2 idx with
    | some ci => (nc + 1 ≤ mc ∧ ns + (gk_bs ci).length ≤ ms ∧ Γ.length < 1000000) ∧ K nxt L (.ref Γ.length :: st) (Γ ++ [(0, ci, List.replicate (gk_bs ci).length none)]) (gk_h0 h Γ.length) (nc + 1) (ns + (gk_bs ci).length)
    | none => False
  | true, .newarray .int, .int n :: r => (¬ n < 0 ∧ n.toNatClampNeg * 8 ≤ 536870912 ∧ nc + 1 ≤ mc ∧ ns + n.toNatClampNeg ≤ ms ∧ Γ.length < 1000000) ∧ K nxt L (.ref Γ.length :: r) (Γ ++ [(1, n.toNatClampNeg, [])]) (gk_h0 h Γ.length) (nc + 1) (ns + n.toNatClampNeg)
  | true, .newarray .char, .int n :: r => (¬ n < 0 ∧ n.toNatClampNeg * 8 ≤ 536870912 ∧ nc + 1 ≤ mc ∧ ns + n.toNatClampNeg ≤ ms ∧ Γ.length < 1000000) ∧ K nxt L (.ref Γ.length :: r) (Γ ++ [(2, n.toNatClampNeg, [])]) (gk_h0 h Γ.length) (nc + 1) (ns + n.toNatClampNeg)
  | true, .newarray .long, .int n :: r => (¬ n < 0 ∧ n.toNatClampNeg * 8 ≤ 536870912 ∧ nc + 1 ≤ mc ∧ ns + n.toNatClampNeg ≤ ms ∧ Γ.length < 1000000) ∧ K nxt L (.ref Γ.length :: r) (Γ ++ [(3, n.toNatClampNeg, [])]) (gk_h0 h Γ.length) (nc + 1) (ns + n.toNatClampNeg)
  | true, .anewarray idx, .int n :: r => match gk_lk P.2.2.2.2 idx with
    | some 8 => (¬ n < 0 ∧ n.toNatClampNeg * 8 ≤ 536870912 ∧ nc + 1 ≤ mc ∧ ns + n.toNatClampNeg ≤ ms ∧ Γ.length < 1000000) ∧ K nxt L (.ref Γ.length :: r) (Γ ++ [(4, n.toNatClampNeg, List.replicate n.toNatClampNeg none)]) (gk_h0 h Γ.length) (nc + 1) (ns + n.toNatClampNeg)
    | _ => False
  | _, _, _ => False
def gk_br (i : Instr) (nxt tgt : Nat) (L : gk_L) (st : List Value) (Γ : gk_G) (h : gk_H) (nc ns : Nat) : Prop := match i, st with
  | .goto _, st => K tgt L st Γ h nc ns
  | .ifCond .eq _, .int x :: r => (x = 0 → K tgt L r Γ h nc ns) ∧ (¬ x = 0 → K nxt L r Γ h nc ns)
  | .ifCond .ne _, .int x :: r => (¬ x = 0 → K tgt L r Γ h nc ns) ∧ (x = 0 → K nxt L r Γ h nc ns)
  | .ifCond .lt _, .int x :: r => (x < 0 → K tgt L r Γ h nc ns) ∧ (¬ x < 0 → K nxt L r Γ h nc ns)
  | .ifCond .ge _, .int x :: r => (0 ≤ x → K tgt L r Γ h nc ns) ∧ (¬ 0 ≤ x → K nxt L r Γ h nc ns)
  | .ifCond .gt _, .int x :: r => (0 < x → K tgt L r Γ h nc ns) ∧ (¬ 0 < x → K nxt L r Γ h nc ns)
  | .ifCond .le _, .int x :: r => (x ≤ 0 → K tgt L r Γ h nc ns) ∧ (¬ x ≤ 0 → K nxt L r Γ h nc ns)
  | .if_icmp .eq _, .int y :: .int x :: r => (x = y → K tgt L r Γ h nc ns) ∧ (¬ x = y → K nxt L r Γ h nc ns)
  | .if_icmp .ne _, .int y :: .int x :: r => (¬ x = y → K tgt L r Γ h nc ns) ∧ (x = y → K nxt L r Γ h nc ns)
  | .if_icmp .lt _, .int y :: .int x :: r => (x < y → K tgt L r Γ h nc ns) ∧ (¬ x < y → K nxt L r Γ h nc ns)
  | .if_icmp .ge _, .int y :: .int x :: r => (y ≤ x → K tgt L r Γ h nc ns) ∧ (¬ y ≤ x → K nxt L r Γ h nc ns)
  | .if_icmp .gt _, .int y :: .int x :: r => (y < x → K tgt L r Γ h nc ns) ∧ (¬ y < x → K nxt L r Γ h nc ns)
  | .if_icmp .le _, .int y :: .int x :: r => (x ≤ y → K tgt L r Γ h nc ns) ∧ (¬ x ≤ y → K nxt L r Γ h nc ns)
  | .ifnull _, .null :: r => K tgt L r Γ h nc ns
  | .ifnull _, .ref _ :: r => K nxt L r Γ h nc ns
  | .ifnonnull _, .null :: r => K nxt L r Γ h nc ns
  | .ifnonnull _, .ref _ :: r => K tgt L r Γ h nc ns
  | _, _ => False
/-- one instruction -/
def gk_one (pc : Nat) (i : Instr) (nxt tgt : Nat) (L : gk_L) (st : List Value) (Γ : gk_G) (h : gk_H) (nc ns : Nat) : Prop := match i with
  | .iload n => gk_ld K nxt n 0 L st Γ h nc ns
  | .iload_n n => gk_ld K nxt n.val 0 L st Γ h nc ns
  | .lload n => gk_ld K nxt n 1 L st Γ h nc ns
  | .lload_n n => gk_ld K nxt n.val 1 L st Γ h nc ns
  | .aload n => match L[n]? with
    | some (some .null) => gk_ld K nxt n 3 L st Γ h nc ns
    | _ => gk_ld K nxt n 2 L st Γ h nc ns
  | .aload_n n => gk_ld K nxt n.val 2 L st Γ h nc ns
  | .istore n => gk_sto nm K nxt n 0 L st Γ h nc ns
  | .istore_n n => gk_sto nm K nxt n.val 0 L st Γ h nc ns
  | .lstore n => gk_sto nm K nxt n 1 L st Γ h nc ns
  | .lstore_n n => gk_sto nm K nxt n.val 1 L st Γ h nc ns
  | .astore n => gk_sto nm K nxt n 2 L st Γ h nc ns
  | .astore_n n => gk_sto nm K nxt n.val 2 L st Γ h nc ns
  | .iinc n z => match L[n]? with
    | some (some (.int x)) => gk_nm nm (x + gk_lit z) (fun y => K nxt (gk_s1 L n (.int y)) st Γ h nc ns)
    | _ => False
  | .idiv => match st with
    | .int y :: .int x :: r => ¬ y = 0 ∧ K nxt L (.int (x / y) :: r) Γ h nc ns
    | _ => False
  | .irem => match st with
    | .int y :: .int x :: r => ¬ y = 0 ∧ K nxt L (.int (x - x / y * y) :: r) Γ h nc ns
    | _ => False
  | .iaload => gk_rd E K 1 nxt L st Γ h nc ns
  | .caload => gk_rd E K 2 nxt L st Γ h nc ns
  | .laload => gk_rd E K 3 nxt L st Γ h nc ns
  | .aaload => gk_rd E K 4 nxt L st Γ h nc ns
  | .baload => gk_rd E K 5 nxt L st Γ h nc ns
  | .iastore => gk_wr cf K 1 nxt L st Γ h nc ns
  | .castore => gk_wr cf K 2 nxt L st Γ h nc ns
  | .lastore => gk_wr cf K 3 nxt L st Γ h nc ns
  | .aastore => gk_wr cf K 4 nxt L st Γ h nc ns
  | .arraylength => gk_len1 E K nxt L st Γ h nc ns
  | .getfield idx => match gk_lk P.1 idx with
    | some e => gk_gf K e nxt L st Γ h nc ns
    | none => False
  | .putfield idx => match gk_lk P.1 idx with
    | some e => gk_pf cf K e nxt L st Γ h nc ns
    | none => False
  | .getstatic _ => bif Nat.beq tgt 0 then K nxt L (.int 1 :: st) Γ h nc ns else K nxt L ((bif E.1.2 then .ref 1000005 else .null) :: st) Γ h nc ns
  | .ldc idx => match gk_lk P.2.2.1 idx with
    | some x => K nxt L (.int x :: st) Γ h nc ns
    | none => bif Nat.beq idx 57 then K nxt L (.ref 1000001 :: st) Γ h nc ns else bif Nat.beq idx 49 then K nxt L (.ref 1000002 :: st) Γ h nc ns else False
  | .ldc_w idx => match gk_lk P.2.2.1 idx with
    | some x => K nxt L (.int x :: st) Γ h nc ns
    | none => False
  | .ldc2_w idx => match gk_lk P.2.2.2.1 idx with
    | some x => K nxt L (.long x :: st) Γ h nc ns
    | none => False
  | .tableswitch _ _ _ _ => match st, gk_lk O.2.1 pc with
    | .int x :: r, some q => gk_sw x q.2 (fun t => K t L r Γ h nc ns) q.1
    | _, _ => False
  | .lookupswitch _ _ => match st, gk_lk O.2.1 pc with
    | .int x :: r, some q => gk_sw x q.2 (fun t => K t L r Γ h nc ns) q.1
    | _, _ => False
  | .goto o => gk_br K (.goto o) nxt tgt L st Γ h nc ns
  | .ifCond c o => gk_br K (.ifCond c o) nxt tgt L st Γ h nc ns
  | .if_icmp c o => gk_br K (.if_icmp c o) nxt tgt L st Γ h nc ns
  | .ifnull o => gk_br K (.ifnull o) nxt tgt L st Γ h nc ns
  | .ifnonnull o => gk_br K (.ifnonnull o) nxt tgt L st Γ h nc ns
  | .invokevirtual idx => match gk_lk P.2.1 idx with
    | some e => gk_in M E d cf mc ms O K (.invokevirtual idx) e pc nxt L st Γ h nc ns
    | none => False
  | .invokestatic idx => match gk_lk P.2.1 idx with
    | some e => gk_in M E d cf mc ms O K (.invokestatic idx) e pc nxt L st Γ h nc ns
    | none => False
  | .invokespecial idx => match gk_lk P.2.1 idx with
    | some e => gk_in M E d cf mc ms O K (.invokespecial idx) e pc nxt L st Γ h nc ns
    | none => False
  | .return_ => gk_rtn cf mc ms Γe Q O .return_ st Γ h nc ns
  | .lreturn => gk_rtn cf mc ms Γe Q O .lreturn st Γ h nc ns
  | .ireturn => gk_rtn cf mc ms Γe Q O .ireturn st Γ h nc ns
  | .new idx => gk_nw cf mc ms P K (.new idx) nxt L st Γ h nc ns
  | .newarray t => gk_nw cf mc ms P K (.newarray t) nxt L st Γ h nc ns
  | .anewarray idx => gk_nw cf mc ms P K (.anewarray idx) nxt L st Γ h nc ns
  | i => match gk_alu i st with
    | some st' => K nxt L st' Γ h nc ns
    | none => False
end GKW
end
section
/-! the function is sound -/
def gk_tgok (pc : Nat) (i : Instr) (tgt : Nat) : Bool := match i with
  | .goto o => decide ((pc : Int) + o = tgt)
  | .ifCond _ o => decide ((pc : Int) + o = tgt)
  | .if_icmp _ o => decide ((pc : Int) + o = tgt)
  | .ifnull o => decide ((pc : Int) + o = tgt)
  | .ifnonnull o => decide ((pc : Int) + o = tgt)
  | _ => true
def gk_eok (bytes : ByteArray) (q : Nat × Instr × Nat × Nat) : Bool := match q.2.1 with
  | .tableswitch a b c e => decide (decode bytes q.1 = .ok (.tableswitch a b c e, q.2.2.1 - q.1))
  | .lookupswitch a b => decide (decode bytes q.1 = .ok (.lookupswitch a b, q.2.2.1 - q.1))
  | i => decide (decode bytes q.1 = .ok (i, gk_ln i)) && (Nat.beq q.2.2.1 (q.1 + gk_ln i) && gk_tgok q.1 i q.2.2.2)
def gk_fok1 (own : String) (e : Nat × Nat × Nat × Nat) : Prop := match e.2.2.2 with
  | 3 => Cond.fieldLink own e.1 "java/lang/String" "value" "[B" ∈ gk_TT
  | 4 => Cond.fieldLink own e.1 "java/lang/String" "coder" "B" ∈ gk_TT
  | kd => gk_fok own e.1 e.2.1 e.2.2.1 kd
def gk_cok1 (M : Nat → gk_J) (own : String) (e : Nat × Nat × Nat × Nat × Nat × Nat × Nat × Nat) : Prop := match e.2.1 with
  | 3 => ∀ w ∈ ([.methodLink own e.1 Lib.objectInit, .instanceMethod Lib.objectInit, .code Lib.objectInit ⟨#[0xb1]⟩ 1 none] : List Cond), w ∈ gk_TT
  | 4 => ∀ w ∈ ([.methodLink own e.1 arraycopyName, .native arraycopyName, .static arraycopyName, .initialized "java/lang/System"] : List Cond), w ∈ gk_TT
  | kd => gk_cok own e.1 kd (M e.2.2.1) e.2.2.2.1 e.2.2.2.2.1
def gk_nok (own : String) (e : Nat × Nat) : Prop := ∃ (C : String) (T : u_T) (N : Nat), vwCl[e.2]? = some (C, T, N) ∧ ∀ w ∈ ([.classLink own e.1 C, .instantiable C N, .initialized C] : List Cond), w ∈ gk_TT
/-- a class's pool says what is so -/
def gk_pok (M : Nat → gk_J) (own : String) (P : gk_P) : Prop := (∀ e ∈ P.1, gk_fok1 own e) ∧ (∀ e ∈ P.2.1, gk_cok1 M own e) ∧ (∀ e ∈ P.2.2.1, Cond.constant own e.1 e.2 ∈ gk_TT) ∧ (∀ e ∈ P.2.2.2.1, Cond.constantLong own e.1 e.2 ∈ gk_TT) ∧ ∀ e ∈ P.2.2.2.2, gk_nok own e
def gk_xok (own : String) (P : gk_P) (O : gk_O) (q : Nat × Instr × Nat × Nat) : Prop := match q.2.1 with
  | .tableswitch a b c e => ∀ z, gk_lk O.2.1 q.1 = some z → gk_tokb q.1 a b c e z.1 z.2 = true
  | .lookupswitch a b => ∀ z, gk_lk O.2.1 q.1 = some z → gk_lokb q.1 a b z.1 z.2 = true
  | .getstatic idx => match q.2.2.2 with
    | 0 => Cond.fieldLink own idx "java/lang/String" "COMPACT_STRINGS" "Z" ∈ gk_TT
    | _ => Cond.fieldLink own idx "jdk/internal/util/Preconditions" "SIOOBE_FORMATTER" "Ljava/util/function/BiFunction;" ∈ gk_TT
  | .ldc idx => gk_lk P.2.2.1 idx = none → own = "DryPlaces$Tape"
  | _ => True
/-- a method's tables say what is so -/
def gk_ok (M : Nat → gk_J) (j : Nat) (tb : gk_T) (P : gk_P) (O : gk_O) : Prop := (∀ q ∈ tb, gk_eok (M j).2.1 q = true) ∧ gk_pok M (M j).1.cls P ∧ (∀ q ∈ tb, gk_xok (M j).1.cls P O q) ∧ (M j).2.2.2 = gk_rt O.1
set_option maxRecDepth 100000 in
theorem gk_arrs : Cond.arrayClass .int ∈ gk_TT ∧ Cond.arrayClass .char ∈ gk_TT ∧ Cond.arrayClass .long ∈ gk_TT := ⟨gk_TT_of (by decide +kernel) rfl, gk_TT_of (by decide +kernel) rfl, gk_TT_of (by decide +kernel) rfl⟩
section GKS
variable {M : Nat → gk_J} {E : gk_E} {d j : Nat} {cf : Bool} {mc ms : Nat} {Γe : gk_G} {Q : Option Value → gk_H → Prop} {P : gk_P} {O : gk_O} {K : Nat → gk_L → List Value → gk_G → gk_H → Nat → Nat → Prop}
/-- what a state keeps where nothing is made -/
def gk_inv (cf : Bool) (mc ms : Nat) (Γe Γ : gk_G) (nc ns : Nat) : Prop := (cf = false → Γ = Γe) ∧ nc ≤ mc ∧ ns ≤ ms
def gk_KG (M : Nat → gk_J) (E : gk_E) (d j : Nat) (cf : Bool) (mc ms : Nat) (Γe : gk_G) (Q : Option Value → gk_H → Prop) (K : Nat → gk_L → List Value → gk_G → gk_H → Nat → Nat → Prop) : Prop := ∀ pc L st Γ h nc ns, gk_inv cf mc ms Γe Γ nc ns → K pc L st Γ h nc ns → gk_Go M E d j cf mc ms Γe Q pc L st Γ h nc ns
variable {pc nxt tgt : Nat} {L : gk_L} {st : List Value} {Γ : gk_G} {h : gk_H} {nc ns : Nat}
theorem gk_two (a k : Nat) (h1 : a < k) (h2 : k < a + 3) : k = a + 1 ∨ k = a + 2 := by omega
theorem gk_bif {b : Bool} {A : Prop} (h : bif b then A else False) : b = true ∧ A := by cases b with | true => exact ⟨rfl, h⟩ | false => exact absurd h id
set_option maxHeartbeats 1000000 in
theorem gk_ld_sound (hK : gk_KG M E d j cf mc ms Γe Q K) (hi : gk_inv cf mc ms Γe Γ nc ns) {i n kd : Nat} {ins : Instr} (hw : gk_ld K nxt n kd L st Γ h nc ns) (hn : nxt = pc + i) (hdg : decode (M j).2.1 pc = .ok (ins, i)) (hins : (kd = 0 ∧ ((ins = .iload n ∧ i = 2) ∨ ∃ f : Fin 4, ins = .iload_n f ∧ f.val = n ∧ i = 1)) ∨ (kd = 1 ∧ ((ins = .lload n ∧ i = 2) ∨ ∃ f : Fin 4, ins = .lload_n f ∧ f.val = n ∧ i = 1)) ∨ (kd = 2 ∧ ((ins = .aload n ∧ i = 2) ∨ ∃ f : Fin 4, ins = .aload_n f ∧ f.val = n ∧ i = 1)) ∨ (kd = 3 ∧ ins = .aload n ∧ i = 2)) : gk_Go M E d j cf mc ms Γe Q pc L st Γ h nc ns := by
  subst hn
  unfold gk_ld at hw
  split at hw
  · rename_i x hl
    obtain ⟨h1, h2⟩ := gk_bif hw
    have h3 : kd = 0 := by simpa using h1
    subst h3
    rcases hins with ⟨-, ⟨rfl, rfl⟩ | ⟨f, rfl, rfl, rfl⟩⟩ | ⟨h9, -⟩ | ⟨h9, -⟩ | ⟨h9, -⟩
    · exact gk_go_iload hl hdg (hK _ _ _ _ _ _ _ hi h2)
    · exact gk_go_iload_n hl hdg (hK _ _ _ _ _ _ _ hi h2)
    all_goals cases h9
  · rename_i x hl
    obtain ⟨h1, h2⟩ := gk_bif hw
    have h3 : kd = 1 := by simpa using h1
    subst h3
    rcases hins with ⟨h9, -⟩ | ⟨-, ⟨rfl, rfl⟩ | ⟨f, rfl, rfl, rfl⟩⟩ | ⟨h9, -⟩ | ⟨h9, -⟩
    · cases h9
    · exact gk_go_lload hl hdg (hK _ _ _ _ _ _ _ hi h2)
    · exact gk_go_lload_n hl hdg (hK _ _ _ _ _ _ _ hi h2)
    all_goals cases h9
  · rename_i x hl
    obtain ⟨h1, h2⟩ := gk_bif hw
    have h3 : kd = 2 := by simpa using h1
    subst h3
    rcases hins with ⟨h9, -⟩ | ⟨h9, -⟩ | ⟨-, ⟨rfl, rfl⟩ | ⟨f, rfl, rfl, rfl⟩⟩ | ⟨h9, -⟩
    · cases h9
    · cases h9
    · exact gk_go_aload hl hdg (hK _ _ _ _ _ _ _ hi h2)
    · exact gk_go_aload_n hl hdg (hK _ _ _ _ _ _ _ hi h2)
    · cases h9
  · rename_i hl
    obtain ⟨h1, h2⟩ := gk_bif hw
    have h3 : kd = 3 := by simpa using h1
    subst h3
    rcases hins with ⟨h9, -⟩ | ⟨h9, -⟩ | ⟨h9, -⟩ | ⟨-, rfl, rfl⟩
    · cases h9
    · cases h9
    · cases h9
    · exact gk_go_aloadN hl hdg (hK _ _ _ _ _ _ _ hi h2)
  · exact absurd hw id
set_option maxHeartbeats 1000000 in
theorem gk_sto_sound {nm : Bool} (hK : gk_KG M E d j cf mc ms Γe Q K) (hi : gk_inv cf mc ms Γe Γ nc ns) {i n kd : Nat} {ins : Instr} (hw : gk_sto nm K nxt n kd L st Γ h nc ns) (hn : nxt = pc + i) (hdg : decode (M j).2.1 pc = .ok (ins, i)) (hins : (kd = 0 ∧ ((ins = .istore n ∧ i = 2) ∨ ∃ f : Fin 4, ins = .istore_n f ∧ f.val = n ∧ i = 1)) ∨ (kd = 1 ∧ ((ins = .lstore n ∧ i = 2) ∨ ∃ f : Fin 4, ins = .lstore_n f ∧ f.val = n ∧ i = 1)) ∨ (kd = 2 ∧ ((ins = .astore n ∧ i = 2) ∨ ∃ f : Fin 4, ins = .astore_n f ∧ f.val = n ∧ i = 1))) : gk_Go M E d j cf mc ms Γe Q pc L st Γ h nc ns := by
  subst hn
  unfold gk_sto at hw
  split at hw
  · obtain ⟨h1, h2⟩ := gk_bif hw
    simp only [Bool.and_eq_true, beq_iff_eq, Nat.blt_eq] at h1
    obtain ⟨rfl, h4⟩ := h1
    have h2 := gk_nm_use h2
    rcases hins with ⟨-, ⟨rfl, rfl⟩ | ⟨f, rfl, rfl, rfl⟩⟩ | ⟨h9, -⟩ | ⟨h9, -⟩
    · exact gk_go_istore h4 hdg (hK _ _ _ _ _ _ _ hi h2)
    · exact gk_go_istore_n h4 hdg (hK _ _ _ _ _ _ _ hi h2)
    all_goals cases h9
  · obtain ⟨h1, h2⟩ := gk_bif hw
    simp only [Bool.and_eq_true, beq_iff_eq, Nat.blt_eq] at h1
    obtain ⟨rfl, h4⟩ := h1
    have h2 := gk_nm_use h2
    rcases hins with ⟨h9, -⟩ | ⟨-, ⟨rfl, rfl⟩ | ⟨f, rfl, rfl, rfl⟩⟩ | ⟨h9, -⟩
    · cases h9
    · exact gk_go_lstore h4 hdg (hK _ _ _ _ _ _ _ hi h2)
    · exact gk_go_lstore_n h4 hdg (hK _ _ _ _ _ _ _ hi h2)
    · cases h9
  · obtain ⟨h1, h2⟩ := gk_bif hw
    simp only [Bool.and_eq_true, beq_iff_eq, Nat.blt_eq] at h1
    obtain ⟨rfl, h4⟩ := h1
    rcases hins with ⟨h9, -⟩ | ⟨h9, -⟩ | ⟨-, ⟨rfl, rfl⟩ | ⟨f, rfl, rfl, rfl⟩⟩
    · cases h9
    · cases h9
    · exact gk_go_astore h4 hdg (hK _ _ _ _ _ _ _ hi h2)
    · exact gk_go_astore_n h4 hdg (hK _ _ _ _ _ _ _ hi h2)
  · exact absurd hw id
def gk_rdi (kd : Nat) : Instr := match kd with
  | 1 => .iaload
  | 2 => .caload
  | 3 => .laload
  | 4 => .aaload
  | _ => .baload
set_option maxHeartbeats 2000000 in
theorem gk_rd_sound (hK : gk_KG M E d j cf mc ms Γe Q K) (hi : gk_inv cf mc ms Γe Γ nc ns) {kd : Nat} (hw : gk_rd E K kd nxt L st Γ h nc ns) (hn : nxt = pc + 1) (hdg : decode (M j).2.1 pc = .ok (gk_rdi kd, 1)) : gk_Go M E d j cf mc ms Γe Q pc L st Γ h nc ns := by
  subst hn
  unfold gk_rd at hw
  split at hw
  · rename_i i k r
    cases hk0 : Nat.beq k 1000000 with
    | true =>
      rw [hk0] at hw
      obtain ⟨h1, h2, h3⟩ := gk_bif hw
      have h4 : kd = 1 := by simpa using h1
      subst h4
      have := Nat.eq_of_beq_eq_true hk0
      subst this
      exact gk_go_sld h2 hdg (hK _ _ _ _ _ _ _ hi h3)
    | false =>
      rw [hk0] at hw
      cases hk1 : Nat.blt 1000002 k with
      | true =>
        rw [hk1] at hw
        obtain ⟨h1, h2, h3⟩ := gk_bif hw
        simp only [Bool.and_eq_true, beq_iff_eq, Nat.blt_eq] at h1 hk1
        obtain ⟨rfl, h4⟩ := h1
        rcases gk_two 1000002 k hk1 (by first | exact h4 | exact h1) with rfl | rfl
        · exact gk_go_bald (i := 0) (by decide) h2 hdg (hK _ _ _ _ _ _ _ hi h3)
        · exact gk_go_bald (i := 1) (by decide) h2 hdg (hK _ _ _ _ _ _ _ hi h3)
      | false =>
        rw [hk1] at hw
        simp only [cond_false] at hw
        split at hw
        · rename_i n rs hg
          obtain ⟨h1, h2, h3⟩ := gk_bif hw
          have h4 : kd = 1 := by simpa using h1
          subst h4
          exact gk_go_iald hg h2 hdg (hK _ _ _ _ _ _ _ hi h3)
        · rename_i n rs hg
          obtain ⟨h1, h2, h3⟩ := gk_bif hw
          have h4 : kd = 2 := by simpa using h1
          subst h4
          exact gk_go_cald hg h2 hdg (hK _ _ _ _ _ _ _ hi h3)
        · rename_i n rs hg
          obtain ⟨h1, h2, h3⟩ := gk_bif hw
          have h4 : kd = 3 := by simpa using h1
          subst h4
          exact gk_go_lald hg h2 hdg (hK _ _ _ _ _ _ _ hi h3)
        · rename_i n rs hg
          obtain ⟨h1, h2, h3⟩ := gk_bif hw
          simp only [Bool.and_eq_true, beq_iff_eq] at h1
          obtain ⟨rfl, h5⟩ := h1
          have h5 := Nat.eq_of_beq_eq_true h5
          refine gk_go_aald hg h2 hdg (hK _ _ _ _ _ _ _ hi ?_)
          have h6 := gk_al_at h3 (Nat.zero_le _) (by rw [Nat.zero_add, h5]; exact Nat.not_le.mp (fun q => h2 (Or.inr q)))
          exact h6
        · exact absurd hw id
  · exact absurd hw id
def gk_wri (kd : Nat) : Instr := match kd with
  | 1 => .iastore
  | 2 => .castore
  | 3 => .lastore
  | _ => .aastore
set_option maxHeartbeats 2000000 in
theorem gk_wr_sound (hK : gk_KG M E d j cf mc ms Γe Q K) (hi : gk_inv cf mc ms Γe Γ nc ns) {kd : Nat} (hw : gk_wr cf K kd nxt L st Γ h nc ns) (hn : nxt = pc + 1) (hdg : decode (M j).2.1 pc = .ok (gk_wri kd, 1)) : gk_Go M E d j cf mc ms Γe Q pc L st Γ h nc ns := by
  subst hn
  unfold gk_wr at hw
  split at hw
  · split at hw
    · rename_i hg
      obtain ⟨h1, h2, h3⟩ := gk_bif hw
      have h4 : kd = 1 := by simpa using h1
      subst h4
      exact gk_go_iast hg h2 hdg (hK _ _ _ _ _ _ _ hi h3)
    · rename_i hg
      obtain ⟨h1, h2, h3⟩ := gk_bif hw
      have h4 : kd = 2 := by simpa using h1
      subst h4
      exact gk_go_cast hg h2 hdg (hK _ _ _ _ _ _ _ hi h3)
    · exact absurd hw id
  · split at hw
    · rename_i hg
      obtain ⟨h1, h2, h3⟩ := gk_bif hw
      have h4 : kd = 3 := by simpa using h1
      subst h4
      exact gk_go_last hg h2 hdg (hK _ _ _ _ _ _ _ hi h3)
    · exact absurd hw id
  · split at hw
    · rename_i hg ha
      obtain ⟨h1, h2, h3⟩ := gk_bif hw
      simp only [Bool.and_eq_true, beq_iff_eq, Nat.blt_eq] at h1
      obtain ⟨⟨rfl, h4⟩, h5⟩ := h1
      exact gk_go_aast hg ha h2 h5 hdg (hK _ _ _ _ _ _ _ ⟨fun h9 => (by rw [h4] at h9; cases h9), hi.2⟩ h3)
    · exact absurd hw id
  · exact absurd hw id
set_option maxHeartbeats 2000000 in
theorem gk_len1_sound (hK : gk_KG M E d j cf mc ms Γe Q K) (hi : gk_inv cf mc ms Γe Γ nc ns) (hw : gk_len1 E K nxt L st Γ h nc ns) (hn : nxt = pc + 1) (hdg : decode (M j).2.1 pc = .ok (.arraylength, 1)) : gk_Go M E d j cf mc ms Γe Q pc L st Γ h nc ns := by
  subst hn
  unfold gk_len1 at hw
  split at hw
  · rename_i k r
    cases hk0 : Nat.beq k 1000000 with
    | true =>
      rw [hk0] at hw
      have := Nat.eq_of_beq_eq_true hk0
      subst this
      exact gk_go_slen hdg (hK _ _ _ _ _ _ _ hi hw)
    | false =>
      rw [hk0] at hw
      cases hk1 : Nat.blt 1000002 k with
      | true =>
        rw [hk1] at hw
        obtain ⟨h1, h3⟩ := gk_bif hw
        simp only [Nat.blt_eq] at h1 hk1
        rcases gk_two 1000002 k hk1 (by first | exact h4 | exact h1) with rfl | rfl
        · exact gk_go_blen (i := 0) (by decide) hdg (hK _ _ _ _ _ _ _ hi h3)
        · exact gk_go_blen (i := 1) (by decide) hdg (hK _ _ _ _ _ _ _ hi h3)
      | false =>
        rw [hk1] at hw
        simp only [cond_false] at hw
        split at hw
        · rename_i hg; exact gk_go_alen hg (Or.inl rfl) hdg (hK _ _ _ _ _ _ _ hi hw)
        · rename_i hg; exact gk_go_alen hg (Or.inr (Or.inl rfl)) hdg (hK _ _ _ _ _ _ _ hi hw)
        · rename_i hg; exact gk_go_alen hg (Or.inr (Or.inr rfl)) hdg (hK _ _ _ _ _ _ _ hi hw)
        · exact absurd hw id
  · exact absurd hw id
set_option maxHeartbeats 2000000 in
theorem gk_gf_sound (hK : gk_KG M E d j cf mc ms Γe Q K) (hi : gk_inv cf mc ms Γe Γ nc ns) {idx : Nat} {e : Nat × Nat × Nat} (hf : gk_fok1 (M j).1.cls (idx, e)) (hw : gk_gf K e nxt L st Γ h nc ns) (hn : nxt = pc + 3) (hdg : decode (M j).2.1 pc = .ok (.getfield idx, 3)) : gk_Go M E d j cf mc ms Γe Q pc L st Γ h nc ns := by
  subst hn
  unfold gk_gf at hw
  obtain ⟨ci, sl, kd⟩ := e
  split at hw
  · rename_i k r
    cases hk0 : Nat.blt 1000000 k with
    | true =>
      rw [hk0] at hw
      obtain ⟨h1, h2⟩ := gk_bif hw
      simp only [Nat.blt_eq] at h1 hk0
      have e1 := gk_two 1000000 k hk0 h1
      cases hk3 : Nat.beq kd 3 with
      | true =>
        rw [hk3] at h2
        have := Nat.eq_of_beq_eq_true hk3
        subst this
        rcases e1 with rfl | rfl
        · exact gk_go_gets (kd := 3) (i := 0) (by decide) (Or.inl ⟨rfl, hf⟩) hdg (hK _ _ _ _ _ _ _ hi h2)
        · exact gk_go_gets (kd := 3) (i := 1) (by decide) (Or.inl ⟨rfl, hf⟩) hdg (hK _ _ _ _ _ _ _ hi h2)
      | false =>
        rw [hk3] at h2
        obtain ⟨h4, h5⟩ := gk_bif h2
        have := Nat.eq_of_beq_eq_true h4
        subst this
        rcases e1 with rfl | rfl
        · exact gk_go_gets (kd := 4) (i := 0) (by decide) (Or.inr ⟨rfl, hf⟩) hdg (hK _ _ _ _ _ _ _ hi h5)
        · exact gk_go_gets (kd := 4) (i := 1) (by decide) (Or.inr ⟨rfl, hf⟩) hdg (hK _ _ _ _ _ _ _ hi h5)
    | false =>
      rw [hk0] at hw
      simp only [cond_false] at hw
      split at hw
      · rename_i ci' rs hg
        obtain ⟨h1, h2⟩ := gk_bif hw
        have := Nat.eq_of_beq_eq_true h1
        subst this
        cases hk3 : (Nat.beq kd 0 || Nat.beq kd 1) with
        | true =>
          rw [hk3] at h2
          simp only [Bool.or_eq_true] at hk3
          have hf2 : gk_fok (M j).1.cls idx ci' sl kd := by
            rcases hk3 with h9 | h9 <;> (have := Nat.eq_of_beq_eq_true h9; subst this; exact hf)
          have hb : (gk_bs ci')[sl]? = some false := by
            obtain ⟨C, T, N, ty, g1, g2, g3, g4, g5, g6⟩ := hf2
            rcases hk3 with h9 | h9 <;> (have := Nat.eq_of_beq_eq_true h9; subst this; exact g6.1)
          exact gk_go_get hf2 hb hg hdg (hK _ _ _ _ _ _ _ hi h2)
        | false =>
          rw [hk3] at h2
          obtain ⟨h4, h5⟩ := gk_bif h2
          simp only [Bool.or_eq_true] at h4
          have hf2 : gk_fok (M j).1.cls idx ci' sl kd := by
            rcases h4 with h9 | h9 <;> (have := Nat.eq_of_beq_eq_true h9; subst this; exact hf)
          have hb : (gk_bs ci')[sl]? = some true := by
            obtain ⟨C, T, N, ty, g1, g2, g3, g4, g5, g6⟩ := hf2
            rcases h4 with h9 | h9
            · have := Nat.eq_of_beq_eq_true h9; subst this; exact g6
            · have := Nat.eq_of_beq_eq_true h9; subst this; exact g6.1
          exact gk_go_get hf2 hb hg hdg (hK _ _ _ _ _ _ _ hi h5)
      · exact absurd hw id
  · exact absurd hw id
set_option maxHeartbeats 2000000 in
theorem gk_pf_sound (hK : gk_KG M E d j cf mc ms Γe Q K) (hi : gk_inv cf mc ms Γe Γ nc ns) {idx : Nat} {e : Nat × Nat × Nat} (hf : gk_fok1 (M j).1.cls (idx, e)) (hw : gk_pf cf K e nxt L st Γ h nc ns) (hn : nxt = pc + 3) (hdg : decode (M j).2.1 pc = .ok (.putfield idx, 3)) : gk_Go M E d j cf mc ms Γe Q pc L st Γ h nc ns := by
  subst hn
  unfold gk_pf at hw
  obtain ⟨ci, sl, kd⟩ := e
  split at hw
  · split at hw
    · rename_i ci' rs hg
      obtain ⟨h1, h2⟩ := gk_bif hw
      have := Nat.eq_of_beq_eq_true h1
      subst this
      cases hk3 : Nat.beq kd 0 with
      | true =>
        rw [hk3] at h2
        have := Nat.eq_of_beq_eq_true hk3
        subst this
        exact gk_go_puti (kd := 0) hf (Or.inl rfl) hg hdg (hK _ _ _ _ _ _ _ hi h2)
      | false =>
        rw [hk3] at h2
        obtain ⟨h4, h5, h6⟩ := gk_bif h2
        have := Nat.eq_of_beq_eq_true h4
        subst this
        exact gk_go_puti (kd := 1) hf (Or.inr ⟨rfl, h5⟩) hg hdg (hK _ _ _ _ _ _ _ hi h6)
    · exact absurd hw id
  · split at hw
    · rename_i a k r x ci' rs hg
      obtain ⟨h1, h2⟩ := gk_bif hw
      simp only [Bool.and_eq_true, Nat.blt_eq] at h1
      obtain ⟨g1, g2, g3, g4⟩ := h1
      have := Nat.eq_of_beq_eq_true g1
      subst this
      have := Nat.eq_of_beq_eq_true g2
      subst this
      exact gk_go_putr (a := some a) g3 hf rfl hg g4 hdg (hK _ _ _ _ _ _ _ ⟨fun h9 => (by rw [g3] at h9; cases h9), hi.2⟩ h2)
    · exact absurd hw id
  · split at hw
    · rename_i k r x ci' rs hg
      obtain ⟨h1, h2⟩ := gk_bif hw
      simp only [Bool.and_eq_true, Nat.blt_eq] at h1
      obtain ⟨g1, g2, g3, g4⟩ := h1
      have := Nat.eq_of_beq_eq_true g1
      subst this
      have := Nat.eq_of_beq_eq_true g2
      subst this
      exact gk_go_putr (a := none) g3 hf rfl hg g4 hdg (hK _ _ _ _ _ _ _ ⟨fun h9 => (by rw [g3] at h9; cases h9), hi.2⟩ h2)
    · exact absurd hw id
  · exact absurd hw id
end GKS
end
section
section GKS2
variable {M : Nat → gk_J} {E : gk_E} {d j : Nat} {cf : Bool} {mc ms : Nat} {Γe : gk_G} {Q : Option Value → gk_H → Prop} {P : gk_P} {O : gk_O} {K : Nat → gk_L → List Value → gk_G → gk_H → Nat → Nat → Prop}
variable {pc nxt tgt : Nat} {L : gk_L} {st : List Value} {Γ : gk_G} {h : gk_H} {nc ns : Nat}
theorem gk_bk_use {rk : Nat} {r : List Value} {Γ1 : gk_G} (hK : gk_KG M E d j cf mc ms Γe Q K) (hi1 : gk_inv cf mc ms Γe Γ1 nc ns) {v : Option Value} {h1 : gk_H} (hb : gk_bk K rk nxt L r Γ1 nc ns v h1) : gk_Go M E d j cf mc ms Γe Q nxt L (v.toList ++ r) Γ1 h1 nc ns := by
  match rk, hb with
  | 0, hb => obtain ⟨rfl, hk⟩ := hb; exact hK _ _ _ _ _ _ _ hi1 hk
  | 1, hb => obtain ⟨x, rfl, hk⟩ := hb; exact hK _ _ _ _ _ _ _ hi1 hk
  | n + 2, hb => obtain ⟨x, rfl, hk⟩ := hb; exact hK _ _ _ _ _ _ _ hi1 hk
set_option maxHeartbeats 1000000 in
/-- what a call's walk asks, for any kind of call -/
theorem gk_cl_sound (hK : gk_KG M E d j cf mc ms Γe Q K) (hi : gk_inv cf mc ms Γe Γ nc ns) {e : Nat × Nat × Nat × Nat × Nat × Nat × Nat} {av r : List Value} {G : Prop} (hw : gk_cl M E d cf mc ms O K e pc nxt av L r Γ h nc ns)
    (kk : ∀ (d' mc' ms' : Nat) (Γ1 : gk_G) (Q' : Option Value → gk_H → Prop), d' + 1 ≤ d → (r.map fun v => v.category).sum ≤ 8 → gk_Con M E d' e.2.1 av Γ Γ1 h mc' ms' Q' → Γ1.length = Γ.length + mc' → nc + mc' ≤ mc ∧ ns + ms' ≤ ms → (∀ (v : Option Value) (h1 : gk_H), Q' v h1 → gk_Go M E d j cf mc ms Γe Q nxt L (v.toList ++ r) Γ1 h1 (nc + mc') (ns + ms')) → G) : G := by
  unfold gk_cl at hw
  obtain ⟨h1, h2⟩ := gk_bif hw
  have hcat : (r.map fun v => v.category).sum ≤ 8 := Nat.le_of_ble_eq_true h1
  have plain : gk_call M E d e.2.1 av Γ Γ h 0 0 (gk_bk K e.2.2.2.2.1 nxt L r Γ nc ns) → (nc ≤ mc ∧ ns ≤ ms) → G := by
    intro hc hrm
    obtain ⟨d', hd, hcon⟩ := hc
    exact kk d' 0 0 Γ _ (by omega) hcat hcon rfl hrm (fun v h1 hq => gk_bk_use hK hi hq)
  cases cf with
  | false => exact plain h2 hi.2
  | true =>
    simp only at h2
    split at h2
    · exact plain h2 hi.2
    · obtain ⟨⟨a1, a2, a3⟩, d', hd, hcon⟩ := h2
      exact kk d' _ _ _ _ (by omega) hcat hcon a1 ⟨a2, a3⟩ (fun v h1 hq => gk_bk_use hK ⟨fun h9 => (by cases h9), a2, a3⟩ hq)
set_option maxHeartbeats 2000000 in
theorem gk_in_sound (hK : gk_KG M E d j cf mc ms Γe Q K) (hi : gk_inv cf mc ms Γe Γ nc ns) {i : Instr} {idx : Nat} {e : Nat × Nat × Nat × Nat × Nat × Nat × Nat} (hc : gk_cok1 M (M j).1.cls (idx, e)) (hw : gk_in M E d cf mc ms O K i e pc nxt L st Γ h nc ns) (hn : nxt = pc + 3) (hdg : decode (M j).2.1 pc = .ok (i, 3)) (hii : i = .invokevirtual idx ∨ i = .invokestatic idx ∨ i = .invokespecial idx) : gk_Go M E d j cf mc ms Γe Q pc L st Γ h nc ns := by
  subst hn
  obtain ⟨kd, j', ci, n, rk, mc1, ms1⟩ := e
  rcases hii with rfl | rfl | rfl
  · simp only [gk_in] at hw
    split at hw
    · rename_i av k r htk
      obtain ⟨bv, b1, b2, b3⟩ := gk_tk_eq htk
      rw [List.append_nil] at b1
      subst b1
      subst b3
      cases hk0 : Nat.beq kd 0 with
      | true =>
        rw [hk0] at hw
        have := Nat.eq_of_beq_eq_true hk0
        subst this
        simp only [cond_true] at hw
        split at hw
        · rename_i ci' rs hg
          obtain ⟨h1, h2⟩ := gk_bif hw
          have := Nat.eq_of_beq_eq_true h1
          subst this
          exact gk_cl_sound hK hi h2 (fun d' mc' ms' Γ1 Q' hd hcat hcon hlen hrm hgo => gk_go_callV (kd := 0) hc (Or.inl ⟨rfl, rs, hg⟩) b2 hd hcat hcon hlen hrm hdg hgo)
        · exact absurd hw id
      | false =>
        rw [hk0] at hw
        obtain ⟨h1, h2⟩ := gk_bif hw
        simp only [Bool.and_eq_true, Bool.or_eq_true] at h1
        have := Nat.eq_of_beq_eq_true h1.1
        subst this
        have hk : k = 1000001 ∨ k = 1000002 := h1.2.imp Nat.eq_of_beq_eq_true Nat.eq_of_beq_eq_true
        exact gk_cl_sound hK hi h2 (fun d' mc' ms' Γ1 Q' hd hcat hcon hlen hrm hgo => gk_go_callV (kd := 7) (ci := ci) hc (Or.inr ⟨rfl, hk⟩) b2 hd hcat hcon hlen hrm hdg hgo)
    · exact absurd hw id
  · simp only [gk_in] at hw
    cases hk0 : Nat.beq kd 4 with
    | true =>
      rw [hk0] at hw
      have := Nat.eq_of_beq_eq_true hk0
      subst this
      simp only [cond_true] at hw
      split at hw
      · obtain ⟨h1, h2⟩ := gk_bif hw
        have hcat := Nat.le_of_ble_eq_true h1
        split at h2
        · rename_i g0 g1
          obtain ⟨⟨a0, a1, a2, a3, a4, a5⟩, h3⟩ := h2
          exact gk_go_copyi hc a0 hcat g0 g1 a1 a2 a3 a4 a5 hdg (hK _ _ _ _ _ _ _ hi h3)
        · rename_i g0 g1
          obtain ⟨⟨a0, a1, a2, a3, a4, a5⟩, h3⟩ := h2
          exact gk_go_copyl hc a0 hcat g0 g1 a1 a2 a3 a4 a5 hdg (hK _ _ _ _ _ _ _ hi h3)
        · exact absurd h2 id
      · exact absurd hw id
    | false =>
      rw [hk0] at hw
      obtain ⟨h1, h2⟩ := gk_bif hw
      simp only [Bool.or_eq_true] at h1
      split at h2
      · rename_i av r htk
        obtain ⟨bv, b1, b2, b3⟩ := gk_tk_eq htk
        rw [List.append_nil] at b1
        subst b1
        subst b3
        rcases h1 with h9 | h9
        · have := Nat.eq_of_beq_eq_true h9
          subst this
          exact gk_cl_sound hK hi h2 (fun d' mc' ms' Γ1 Q' hd hcat hcon hlen hrm hgo => gk_go_callS (kd := 1) (ci := ci) hc (Or.inl rfl) b2 hd hcat hcon hlen hrm hdg hgo)
        · have := Nat.eq_of_beq_eq_true h9
          subst this
          exact gk_cl_sound hK hi h2 (fun d' mc' ms' Γ1 Q' hd hcat hcon hlen hrm hgo => gk_go_callS (kd := 5) (ci := ci) hc (Or.inr rfl) b2 hd hcat hcon hlen hrm hdg hgo)
      · exact absurd h2 id
  · simp only [gk_in] at hw
    cases hk0 : Nat.beq kd 3 with
    | true =>
      rw [hk0] at hw
      have := Nat.eq_of_beq_eq_true hk0
      subst this
      simp only [cond_true] at hw
      split at hw
      · obtain ⟨h1, h2, h3⟩ := gk_bif hw
        exact gk_go_obj hc h2 (Nat.le_of_ble_eq_true h1) hdg (hK _ _ _ _ _ _ _ hi h3)
      · exact absurd hw id
    | false =>
      rw [hk0] at hw
      obtain ⟨h1, h2⟩ := gk_bif hw
      simp only [Bool.or_eq_true] at h1
      split at h2
      · rename_i av k r htk
        obtain ⟨bv, b1, b2, b3⟩ := gk_tk_eq htk
        rw [List.append_nil] at b1
        subst b1
        subst b3
        rcases h1 with h9 | h9
        · have := Nat.eq_of_beq_eq_true h9
          subst this
          exact gk_cl_sound hK hi h2 (fun d' mc' ms' Γ1 Q' hd hcat hcon hlen hrm hgo => gk_go_callI (kd := 2) (ci := ci) hc (Or.inl rfl) b2 hd hcat hcon hlen hrm hdg hgo)
        · have := Nat.eq_of_beq_eq_true h9
          subst this
          exact gk_cl_sound hK hi h2 (fun d' mc' ms' Γ1 Q' hd hcat hcon hlen hrm hgo => gk_go_callI (kd := 6) (ci := ci) hc (Or.inr rfl) b2 hd hcat hcon hlen hrm hdg hgo)
      · exact absurd h2 id
theorem gk_end_sound (hi : gk_inv cf mc ms Γe Γ nc ns) {v : Option Value} (hw : gk_end cf mc ms Γe Q v Γ h nc ns) : Q v h ∧ Γ = Γe ∧ nc ≤ mc ∧ ns ≤ ms := by
  cases cf with
  | false => exact ⟨hw, hi.1 rfl, hi.2⟩
  | true => exact ⟨hw.2, hw.1⟩
set_option maxHeartbeats 1000000 in
theorem gk_rtn_sound (hi : gk_inv cf mc ms Γe Γ nc ns) {i : Instr} (hrt : (M j).2.2.2 = gk_rt O.1) (hw : gk_rtn cf mc ms Γe Q O i st Γ h nc ns) (hdg : decode (M j).2.1 pc = .ok (i, 1)) : gk_Go M E d j cf mc ms Γe Q pc L st Γ h nc ns := by
  unfold gk_rtn at hw
  split at hw
  · obtain ⟨h1, h2⟩ := gk_bif hw
    have h0 := Nat.eq_of_beq_eq_true h1
    rw [h0] at hrt
    obtain ⟨q1, q2, q3, q4⟩ := gk_end_sound hi h2
    exact gk_go_ret (v := none) q1 (by rw [hrt]; exact trivial) q2 q3 q4 rfl (by rw [hrt]; exact hdg)
  · obtain ⟨h1, h2⟩ := gk_bif hw
    have h0 := Nat.eq_of_beq_eq_true h1
    rw [h0] at hrt
    obtain ⟨q1, q2, q3, q4⟩ := gk_end_sound hi h2
    exact gk_go_ret (v := some (.long _)) q1 (by rw [hrt]; exact trivial) q2 q3 q4 rfl (by rw [hrt]; exact hdg)
  · rename_i x
    generalize O.1 = rk at hw hrt
    match rk, hw, hrt with
    | 1, hw, hrt =>
      obtain ⟨q1, q2, q3, q4⟩ := gk_end_sound hi hw
      exact gk_go_ret (v := some (.int x)) q1 (by rw [hrt]; exact trivial) q2 q3 q4 rfl (by rw [hrt]; exact hdg)
    | 3, hw, hrt =>
      obtain ⟨hx, hw⟩ := hw
      obtain ⟨q1, q2, q3, q4⟩ := gk_end_sound hi hw
      refine gk_go_ret (v := some (.int x)) q1 ?_ q2 q3 q4 rfl (by rw [hrt]; exact hdg)
      rw [hrt]
      show narrow .boolean (.int x) = .int x
      rcases hx with rfl | rfl <;> decide +kernel
    | 4, hw, hrt =>
      obtain ⟨hx, hw⟩ := hw
      obtain ⟨q1, q2, q3, q4⟩ := gk_end_sound hi hw
      exact gk_go_ret (v := some (.int x)) q1 (by rw [hrt]; exact hx) q2 q3 q4 rfl (by rw [hrt]; exact hdg)
    | 5, hw, hrt =>
      obtain ⟨hx, hw⟩ := hw
      obtain ⟨q1, q2, q3, q4⟩ := gk_end_sound hi hw
      exact gk_go_ret (v := some (.int x)) q1 (by rw [hrt]; exact hx) q2 q3 q4 rfl (by rw [hrt]; exact hdg)
  · exact absurd hw id
set_option maxHeartbeats 2000000 in
theorem gk_nw_sound (hK : gk_KG M E d j cf mc ms Γe Q K) (hP : ∀ e ∈ P.2.2.2.2, gk_nok (M j).1.cls e) {i : Instr} {len : Nat} (hw : gk_nw cf mc ms P K i nxt L st Γ h nc ns) (hn : nxt = pc + gk_ln i) (hdg : decode (M j).2.1 pc = .ok (i, gk_ln i)) : gk_Go M E d j cf mc ms Γe Q pc L st Γ h nc ns := by
  subst hn
  unfold gk_nw at hw
  split at hw
  · split at hw
    · rename_i ci hl
      obtain ⟨C, T, N, c1, c2⟩ := hP _ (gk_lk_mem hl)
      obtain ⟨d1, -⟩ := gk_defs c1
      obtain ⟨⟨a1, a2, a3⟩, hk⟩ := hw
      rw [d1] at a2 hk
      exact gk_go_new c1 c2 a1 a2 a3 hdg (hK _ _ _ _ _ _ _ ⟨fun h9 => (by cases h9), a1, a2⟩ hk)
    · exact absurd hw id
  · obtain ⟨⟨a0, a1, a2, a3, a4⟩, hk⟩ := hw
    exact gk_go_newa (t := 1) (Or.inl rfl) gk_arrs.1 a0 a1 a2 a3 a4 hdg (hK _ _ _ _ _ _ _ ⟨fun h9 => (by cases h9), a2, a3⟩ hk)
  · obtain ⟨⟨a0, a1, a2, a3, a4⟩, hk⟩ := hw
    exact gk_go_newa (t := 2) (Or.inr (Or.inl rfl)) gk_arrs.2.1 a0 a1 a2 a3 a4 hdg (hK _ _ _ _ _ _ _ ⟨fun h9 => (by cases h9), a2, a3⟩ hk)
  · obtain ⟨⟨a0, a1, a2, a3, a4⟩, hk⟩ := hw
    exact gk_go_newa (t := 3) (Or.inr (Or.inr rfl)) gk_arrs.2.2 a0 a1 a2 a3 a4 hdg (hK _ _ _ _ _ _ _ ⟨fun h9 => (by cases h9), a2, a3⟩ hk)
  · split at hw
    · rename_i hl
      obtain ⟨C, T, N, c1, c2⟩ := hP _ (gk_lk_mem hl)
      cases c1
      obtain ⟨⟨a0, a1, a2, a3, a4⟩, hk⟩ := hw
      exact gk_go_newq (c2 _ (by simp [RX9])) a0 a1 a2 a3 a4 hdg (hK _ _ _ _ _ _ _ ⟨fun h9 => (by cases h9), a2, a3⟩ hk)
    · exact absurd hw id
  · exact absurd hw id
end GKS2
end
section
section GKS3
variable {M : Nat → gk_J} {E : gk_E} {d j : Nat} {cf : Bool} {mc ms : Nat} {Γe : gk_G} {Q : Option Value → gk_H → Prop} {P : gk_P} {O : gk_O} {K : Nat → gk_L → List Value → gk_G → gk_H → Nat → Nat → Prop}
variable {pc nxt tgt : Nat} {L : gk_L} {st : List Value} {Γ : gk_G} {h : gk_H} {nc ns : Nat}
set_option maxHeartbeats 2000000 in
theorem gk_br_sound (hK : gk_KG M E d j cf mc ms Γe Q K) (hi : gk_inv cf mc ms Γe Γ nc ns) {i : Instr} (hw : gk_br K i nxt tgt L st Γ h nc ns) (hn : nxt = pc + 3) (hdg : decode (M j).2.1 pc = .ok (i, 3)) (ht : gk_tgok pc i tgt = true) : gk_Go M E d j cf mc ms Γe Q pc L st Γ h nc ns := by
  subst hn
  unfold gk_br at hw
  split at hw
  · exact gk_go_goto hdg (of_decide_eq_true ht) (hK _ _ _ _ _ _ _ hi hw)
  · intro p l e R s m args below meth c base ro cs D QF H locs ls X hret hrel hS hL hac
    exact lv_if_eq X.1 X.2.1 hdg (of_decide_eq_true ht) (fun c9 => hK _ _ _ _ _ _ _ hi (hw.1 c9) p l e R s m args below meth c base ro cs D QF H locs ls X hret hrel hS hL hac) (fun c9 => hK _ _ _ _ _ _ _ hi (hw.2 c9) p l e R s m args below meth c base ro cs D QF H locs ls X hret hrel hS hL hac)
  · intro p l e R s m args below meth c base ro cs D QF H locs ls X hret hrel hS hL hac
    exact lv_if_ne X.1 X.2.1 hdg (of_decide_eq_true ht) (fun c9 => hK _ _ _ _ _ _ _ hi (hw.1 c9) p l e R s m args below meth c base ro cs D QF H locs ls X hret hrel hS hL hac) (fun c9 => hK _ _ _ _ _ _ _ hi (hw.2 c9) p l e R s m args below meth c base ro cs D QF H locs ls X hret hrel hS hL hac)
  · intro p l e R s m args below meth c base ro cs D QF H locs ls X hret hrel hS hL hac
    exact lv_if_lt X.1 X.2.1 hdg (of_decide_eq_true ht) (fun c9 => hK _ _ _ _ _ _ _ hi (hw.1 c9) p l e R s m args below meth c base ro cs D QF H locs ls X hret hrel hS hL hac) (fun c9 => hK _ _ _ _ _ _ _ hi (hw.2 c9) p l e R s m args below meth c base ro cs D QF H locs ls X hret hrel hS hL hac)
  · intro p l e R s m args below meth c base ro cs D QF H locs ls X hret hrel hS hL hac
    exact lv_if_ge X.1 X.2.1 hdg (of_decide_eq_true ht) (fun c9 => hK _ _ _ _ _ _ _ hi (hw.1 c9) p l e R s m args below meth c base ro cs D QF H locs ls X hret hrel hS hL hac) (fun c9 => hK _ _ _ _ _ _ _ hi (hw.2 c9) p l e R s m args below meth c base ro cs D QF H locs ls X hret hrel hS hL hac)
  · intro p l e R s m args below meth c base ro cs D QF H locs ls X hret hrel hS hL hac
    exact lv_if_gt X.1 X.2.1 hdg (of_decide_eq_true ht) (fun c9 => hK _ _ _ _ _ _ _ hi (hw.1 c9) p l e R s m args below meth c base ro cs D QF H locs ls X hret hrel hS hL hac) (fun c9 => hK _ _ _ _ _ _ _ hi (hw.2 c9) p l e R s m args below meth c base ro cs D QF H locs ls X hret hrel hS hL hac)
  · intro p l e R s m args below meth c base ro cs D QF H locs ls X hret hrel hS hL hac
    exact lv_if_le X.1 X.2.1 hdg (of_decide_eq_true ht) (fun c9 => hK _ _ _ _ _ _ _ hi (hw.1 c9) p l e R s m args below meth c base ro cs D QF H locs ls X hret hrel hS hL hac) (fun c9 => hK _ _ _ _ _ _ _ hi (hw.2 c9) p l e R s m args below meth c base ro cs D QF H locs ls X hret hrel hS hL hac)
  · intro p l e R s m args below meth c base ro cs D QF H locs ls X hret hrel hS hL hac
    exact lv_icmp_eq X.1 X.2.1 hdg (of_decide_eq_true ht) (fun c9 => hK _ _ _ _ _ _ _ hi (hw.1 c9) p l e R s m args below meth c base ro cs D QF H locs ls X hret hrel hS hL hac) (fun c9 => hK _ _ _ _ _ _ _ hi (hw.2 c9) p l e R s m args below meth c base ro cs D QF H locs ls X hret hrel hS hL hac)
  · intro p l e R s m args below meth c base ro cs D QF H locs ls X hret hrel hS hL hac
    exact lv_icmp_ne X.1 X.2.1 hdg (of_decide_eq_true ht) (fun c9 => hK _ _ _ _ _ _ _ hi (hw.1 c9) p l e R s m args below meth c base ro cs D QF H locs ls X hret hrel hS hL hac) (fun c9 => hK _ _ _ _ _ _ _ hi (hw.2 c9) p l e R s m args below meth c base ro cs D QF H locs ls X hret hrel hS hL hac)
  · intro p l e R s m args below meth c base ro cs D QF H locs ls X hret hrel hS hL hac
    exact lv_icmp_lt X.1 X.2.1 hdg (of_decide_eq_true ht) (fun c9 => hK _ _ _ _ _ _ _ hi (hw.1 c9) p l e R s m args below meth c base ro cs D QF H locs ls X hret hrel hS hL hac) (fun c9 => hK _ _ _ _ _ _ _ hi (hw.2 c9) p l e R s m args below meth c base ro cs D QF H locs ls X hret hrel hS hL hac)
  · intro p l e R s m args below meth c base ro cs D QF H locs ls X hret hrel hS hL hac
    exact lv_icmp_ge X.1 X.2.1 hdg (of_decide_eq_true ht) (fun c9 => hK _ _ _ _ _ _ _ hi (hw.1 c9) p l e R s m args below meth c base ro cs D QF H locs ls X hret hrel hS hL hac) (fun c9 => hK _ _ _ _ _ _ _ hi (hw.2 c9) p l e R s m args below meth c base ro cs D QF H locs ls X hret hrel hS hL hac)
  · intro p l e R s m args below meth c base ro cs D QF H locs ls X hret hrel hS hL hac
    exact lv_icmp_gt X.1 X.2.1 hdg (of_decide_eq_true ht) (fun c9 => hK _ _ _ _ _ _ _ hi (hw.1 c9) p l e R s m args below meth c base ro cs D QF H locs ls X hret hrel hS hL hac) (fun c9 => hK _ _ _ _ _ _ _ hi (hw.2 c9) p l e R s m args below meth c base ro cs D QF H locs ls X hret hrel hS hL hac)
  · intro p l e R s m args below meth c base ro cs D QF H locs ls X hret hrel hS hL hac
    exact lv_icmp_le X.1 X.2.1 hdg (of_decide_eq_true ht) (fun c9 => hK _ _ _ _ _ _ _ hi (hw.1 c9) p l e R s m args below meth c base ro cs D QF H locs ls X hret hrel hS hL hac) (fun c9 => hK _ _ _ _ _ _ _ hi (hw.2 c9) p l e R s m args below meth c base ro cs D QF H locs ls X hret hrel hS hL hac)
  · exact gk_go_ifnull (v := none) hdg (of_decide_eq_true ht) (hK _ _ _ _ _ _ _ hi hw)
  · exact gk_go_ifnull (v := some _) hdg (of_decide_eq_true ht) (hK _ _ _ _ _ _ _ hi hw)
  · exact gk_go_ifnonnull (v := none) hdg (of_decide_eq_true ht) (hK _ _ _ _ _ _ _ hi hw)
  · exact gk_go_ifnonnull (v := some _) hdg (of_decide_eq_true ht) (hK _ _ _ _ _ _ _ hi hw)
  · exact absurd hw id
theorem gk_eok_plain {bytes : ByteArray} {i : Instr} (h : (decide (decode bytes pc = .ok (i, gk_ln i)) && (Nat.beq nxt (pc + gk_ln i) && gk_tgok pc i tgt)) = true) : decode bytes pc = .ok (i, gk_ln i) ∧ nxt = pc + gk_ln i ∧ gk_tgok pc i tgt = true := by
  simp only [Bool.and_eq_true, decide_eq_true_eq] at h
  exact ⟨h.1, Nat.eq_of_beq_eq_true h.2.1, h.2.2⟩
theorem gk_sw_imp {x : Int32} {td : Nat} {A B : Nat → Prop} (hAB : ∀ t, A t → B t) : ∀ {sw : List (Int32 × Nat)}, gk_sw x td A sw → gk_sw x td B sw := by
  intro sw
  induction sw with
  | nil => intro h; exact hAB _ h
  | cons q r ih => intro h; exact ⟨fun e => hAB _ (h.1 e), fun e => ih (h.2 e)⟩
set_option maxHeartbeats 4000000 in
/-- ONE INSTRUCTION -/
theorem gk_one_sound {nm : Bool} {tb : gk_T} (ok : gk_ok M j tb P O) (hK : gk_KG M E d j cf mc ms Γe Q K) (hi : gk_inv cf mc ms Γe Γ nc ns) {i : Instr} (hin : (pc, i, nxt, tgt) ∈ tb) (hw : gk_one nm M E d cf mc ms Γe Q P O K pc i nxt tgt L st Γ h nc ns) : gk_Go M E d j cf mc ms Γe Q pc L st Γ h nc ns := by
  obtain ⟨o1, ⟨p1, p2, p3, p4, p5⟩, o3, o4⟩ := ok
  have he := o1 _ hin
  have hx := o3 _ hin
  have plain : (∀ a b c e, i ≠ .tableswitch a b c e) → (∀ a b, i ≠ .lookupswitch a b) → decode (M j).2.1 pc = .ok (i, gk_ln i) ∧ nxt = pc + gk_ln i ∧ gk_tgok pc i tgt = true := by
    intro n1 n2
    unfold gk_eok at he
    split at he
    · rename_i hq; exact absurd hq (n1 _ _ _ _)
    · rename_i hq; exact absurd hq (n2 _ _)
    · exact gk_eok_plain he
  have alu : gk_one nm M E d cf mc ms Γe Q P O K pc i nxt tgt L st Γ h nc ns = (match gk_alu i st with | some st' => K nxt L st' Γ h nc ns | none => False) → gk_Go M E d j cf mc ms Γe Q pc L st Γ h nc ns := by
    intro e
    rw [e] at hw
    split at hw
    · rename_i st' ha
      obtain ⟨h1, h2, -⟩ := plain (fun a b c e q => by rw [q] at ha; simp [gk_alu] at ha) (fun a b q => by rw [q] at ha; simp [gk_alu] at ha)
      rw [h2] at hw
      exact gk_go_alu h1 ha (hK _ _ _ _ _ _ _ hi hw)
    · exact absurd hw id
  cases i <;> first | (exact alu rfl; done) | skip
  case iload n => obtain ⟨h1, h2, -⟩ := plain (by intros; simp) (by intros; simp); exact gk_ld_sound hK hi hw h2 h1 (Or.inl ⟨rfl, Or.inl ⟨rfl, rfl⟩⟩)
  case iload_n n => obtain ⟨h1, h2, -⟩ := plain (by intros; simp) (by intros; simp); exact gk_ld_sound hK hi hw h2 h1 (Or.inl ⟨rfl, Or.inr ⟨n, rfl, rfl, rfl⟩⟩)
  case lload n => obtain ⟨h1, h2, -⟩ := plain (by intros; simp) (by intros; simp); exact gk_ld_sound hK hi hw h2 h1 (Or.inr (Or.inl ⟨rfl, Or.inl ⟨rfl, rfl⟩⟩))
  case lload_n n => obtain ⟨h1, h2, -⟩ := plain (by intros; simp) (by intros; simp); exact gk_ld_sound hK hi hw h2 h1 (Or.inr (Or.inl ⟨rfl, Or.inr ⟨n, rfl, rfl, rfl⟩⟩))
  case aload n =>
    obtain ⟨h1, h2, -⟩ := plain (by intros; simp) (by intros; simp)
    simp only [gk_one] at hw
    split at hw
    · exact gk_ld_sound hK hi hw h2 h1 (Or.inr (Or.inr (Or.inr ⟨rfl, rfl, rfl⟩)))
    · exact gk_ld_sound hK hi hw h2 h1 (Or.inr (Or.inr (Or.inl ⟨rfl, Or.inl ⟨rfl, rfl⟩⟩)))
  case aload_n n => obtain ⟨h1, h2, -⟩ := plain (by intros; simp) (by intros; simp); exact gk_ld_sound hK hi hw h2 h1 (Or.inr (Or.inr (Or.inl ⟨rfl, Or.inr ⟨n, rfl, rfl, rfl⟩⟩)))
  case istore n => obtain ⟨h1, h2, -⟩ := plain (by intros; simp) (by intros; simp); exact gk_sto_sound hK hi hw h2 h1 (Or.inl ⟨rfl, Or.inl ⟨rfl, rfl⟩⟩)
  case istore_n n => obtain ⟨h1, h2, -⟩ := plain (by intros; simp) (by intros; simp); exact gk_sto_sound hK hi hw h2 h1 (Or.inl ⟨rfl, Or.inr ⟨n, rfl, rfl, rfl⟩⟩)
  case lstore n => obtain ⟨h1, h2, -⟩ := plain (by intros; simp) (by intros; simp); exact gk_sto_sound hK hi hw h2 h1 (Or.inr (Or.inl ⟨rfl, Or.inl ⟨rfl, rfl⟩⟩))
  case lstore_n n => obtain ⟨h1, h2, -⟩ := plain (by intros; simp) (by intros; simp); exact gk_sto_sound hK hi hw h2 h1 (Or.inr (Or.inl ⟨rfl, Or.inr ⟨n, rfl, rfl, rfl⟩⟩))
  case astore n => obtain ⟨h1, h2, -⟩ := plain (by intros; simp) (by intros; simp); exact gk_sto_sound hK hi hw h2 h1 (Or.inr (Or.inr ⟨rfl, Or.inl ⟨rfl, rfl⟩⟩))
  case astore_n n => obtain ⟨h1, h2, -⟩ := plain (by intros; simp) (by intros; simp); exact gk_sto_sound hK hi hw h2 h1 (Or.inr (Or.inr ⟨rfl, Or.inr ⟨n, rfl, rfl, rfl⟩⟩))
  case iinc n z =>
    obtain ⟨h1, h2, -⟩ := plain (by intros; simp) (by intros; simp)
    simp only [gk_one] at hw
    split at hw
    · rename_i hl; have hw := gk_nm_use hw; rw [h2] at hw; exact gk_go_iinc hl h1 (hK _ _ _ _ _ _ _ hi hw)
    · exact absurd hw id
  case idiv =>
    obtain ⟨h1, h2, -⟩ := plain (by intros; simp) (by intros; simp)
    simp only [gk_one] at hw
    split at hw
    · rw [h2] at hw
      intro p l e R s m args below meth c base ro cs D QF H locs ls X hret hrel hS hL hac
      exact lv_idiv X.1 X.2.1 h1 hw.1 (hK _ _ _ _ _ _ _ hi hw.2 p l e R s m args below meth c base ro cs D QF H locs ls X hret hrel hS hL hac)
    · exact absurd hw id
  case irem =>
    obtain ⟨h1, h2, -⟩ := plain (by intros; simp) (by intros; simp)
    simp only [gk_one] at hw
    split at hw
    · rw [h2] at hw
      intro p l e R s m args below meth c base ro cs D QF H locs ls X hret hrel hS hL hac
      exact lv_irem X.1 X.2.1 h1 hw.1 (hK _ _ _ _ _ _ _ hi hw.2 p l e R s m args below meth c base ro cs D QF H locs ls X hret hrel hS hL hac)
    · exact absurd hw id
  case iaload => obtain ⟨h1, h2, -⟩ := plain (by intros; simp) (by intros; simp); exact gk_rd_sound (kd := 1) hK hi hw h2 h1
  case caload => obtain ⟨h1, h2, -⟩ := plain (by intros; simp) (by intros; simp); exact gk_rd_sound (kd := 2) hK hi hw h2 h1
  case laload => obtain ⟨h1, h2, -⟩ := plain (by intros; simp) (by intros; simp); exact gk_rd_sound (kd := 3) hK hi hw h2 h1
  case aaload => obtain ⟨h1, h2, -⟩ := plain (by intros; simp) (by intros; simp); exact gk_rd_sound (kd := 4) hK hi hw h2 h1
  case baload => obtain ⟨h1, h2, -⟩ := plain (by intros; simp) (by intros; simp); exact gk_rd_sound (kd := 5) hK hi hw h2 h1
  case iastore => obtain ⟨h1, h2, -⟩ := plain (by intros; simp) (by intros; simp); exact gk_wr_sound (kd := 1) hK hi hw h2 h1
  case castore => obtain ⟨h1, h2, -⟩ := plain (by intros; simp) (by intros; simp); exact gk_wr_sound (kd := 2) hK hi hw h2 h1
  case lastore => obtain ⟨h1, h2, -⟩ := plain (by intros; simp) (by intros; simp); exact gk_wr_sound (kd := 3) hK hi hw h2 h1
  case aastore => obtain ⟨h1, h2, -⟩ := plain (by intros; simp) (by intros; simp); exact gk_wr_sound (kd := 4) hK hi hw h2 h1
  case arraylength => obtain ⟨h1, h2, -⟩ := plain (by intros; simp) (by intros; simp); exact gk_len1_sound hK hi hw h2 h1
  case getfield idx =>
    obtain ⟨h1, h2, -⟩ := plain (by intros; simp) (by intros; simp)
    simp only [gk_one] at hw
    split at hw
    · rename_i e hl; exact gk_gf_sound hK hi (p1 _ (gk_lk_mem hl)) hw h2 h1
    · exact absurd hw id
  case putfield idx =>
    obtain ⟨h1, h2, -⟩ := plain (by intros; simp) (by intros; simp)
    simp only [gk_one] at hw
    split at hw
    · rename_i e hl; exact gk_pf_sound hK hi (p1 _ (gk_lk_mem hl)) hw h2 h1
    · exact absurd hw id
  case getstatic idx =>
    obtain ⟨h1, h2, -⟩ := plain (by intros; simp) (by intros; simp)
    simp only [gk_one] at hw
    rw [h2] at hw
    cases tgt with
    | zero => exact gk_go_static hx h1 (hK _ _ _ _ _ _ _ hi hw)
    | succ t => exact gk_go_static2 hx h1 (hK _ _ _ _ _ _ _ hi hw)
  case ldc idx =>
    obtain ⟨h1, h2, -⟩ := plain (by intros; simp) (by intros; simp)
    simp only [gk_one] at hw
    split at hw
    · rename_i x hl; rw [h2] at hw; exact gk_go_ldc (p3 _ (gk_lk_mem hl)) h1 (hK _ _ _ _ _ _ _ hi hw)
    · rename_i hl
      have hown := hx hl
      rw [h2] at hw
      cases hb : Nat.beq idx 57 with
      | true =>
        rw [hb] at hw
        have := Nat.eq_of_beq_eq_true hb
        exact gk_go_ldcs (i := 0) (Or.inl ⟨this, rfl⟩) hown h1 (hK _ _ _ _ _ _ _ hi hw)
      | false =>
        rw [hb] at hw
        obtain ⟨h3, h4⟩ := gk_bif hw
        have := Nat.eq_of_beq_eq_true h3
        exact gk_go_ldcs (i := 1) (Or.inr ⟨this, rfl⟩) hown h1 (hK _ _ _ _ _ _ _ hi h4)
  case ldc_w idx =>
    obtain ⟨h1, h2, -⟩ := plain (by intros; simp) (by intros; simp)
    simp only [gk_one] at hw
    split at hw
    · rename_i x hl; rw [h2] at hw; exact gk_go_ldcw (p3 _ (gk_lk_mem hl)) h1 (hK _ _ _ _ _ _ _ hi hw)
    · exact absurd hw id
  case ldc2_w idx =>
    obtain ⟨h1, h2, -⟩ := plain (by intros; simp) (by intros; simp)
    simp only [gk_one] at hw
    split at hw
    · rename_i x hl; rw [h2] at hw; exact gk_go_ldc2 (p4 _ (gk_lk_mem hl)) h1 (hK _ _ _ _ _ _ _ hi hw)
    · exact absurd hw id
  case tableswitch a b c e =>
    have h1 := of_decide_eq_true he
    simp only [gk_one] at hw
    split at hw
    · rename_i x r q hl
      exact gk_go_table h1 (hx _ hl) (gk_sw_imp (fun t ht => hK _ _ _ _ _ _ _ hi ht) hw)
    · exact absurd hw id
  case lookupswitch a b =>
    have h1 := of_decide_eq_true he
    simp only [gk_one] at hw
    split at hw
    · rename_i x r q hl
      exact gk_go_lookup h1 (hx _ hl) (gk_sw_imp (fun t ht => hK _ _ _ _ _ _ _ hi ht) hw)
    · exact absurd hw id
  case goto o => obtain ⟨h1, h2, h3⟩ := plain (by intros; simp) (by intros; simp); exact gk_br_sound (i := .goto o) (nxt := nxt) (tgt := tgt) hK hi hw h2 h1 h3
  case ifCond c o => obtain ⟨h1, h2, h3⟩ := plain (by intros; simp) (by intros; simp); exact gk_br_sound hK hi hw h2 h1 h3
  case if_icmp c o => obtain ⟨h1, h2, h3⟩ := plain (by intros; simp) (by intros; simp); exact gk_br_sound hK hi hw h2 h1 h3
  case ifnull o => obtain ⟨h1, h2, h3⟩ := plain (by intros; simp) (by intros; simp); exact gk_br_sound hK hi hw h2 h1 h3
  case ifnonnull o => obtain ⟨h1, h2, h3⟩ := plain (by intros; simp) (by intros; simp); exact gk_br_sound hK hi hw h2 h1 h3
  case invokevirtual idx =>
    obtain ⟨h1, h2, -⟩ := plain (by intros; simp) (by intros; simp)
    simp only [gk_one] at hw
    split at hw
    · rename_i e hl; exact gk_in_sound hK hi (p2 _ (gk_lk_mem hl)) hw h2 h1 (Or.inl rfl)
    · exact absurd hw id
  case invokestatic idx =>
    obtain ⟨h1, h2, -⟩ := plain (by intros; simp) (by intros; simp)
    simp only [gk_one] at hw
    split at hw
    · rename_i e hl; exact gk_in_sound hK hi (p2 _ (gk_lk_mem hl)) hw h2 h1 (Or.inr (Or.inl rfl))
    · exact absurd hw id
  case invokespecial idx =>
    obtain ⟨h1, h2, -⟩ := plain (by intros; simp) (by intros; simp)
    simp only [gk_one] at hw
    split at hw
    · rename_i e hl; exact gk_in_sound hK hi (p2 _ (gk_lk_mem hl)) hw h2 h1 (Or.inr (Or.inr rfl))
    · exact absurd hw id
  case return_ => obtain ⟨h1, h2, -⟩ := plain (by intros; simp) (by intros; simp); exact gk_rtn_sound hi o4 hw h1
  case lreturn => obtain ⟨h1, h2, -⟩ := plain (by intros; simp) (by intros; simp); exact gk_rtn_sound hi o4 hw h1
  case ireturn => obtain ⟨h1, h2, -⟩ := plain (by intros; simp) (by intros; simp); exact gk_rtn_sound hi o4 hw h1
  case new idx => obtain ⟨h1, h2, -⟩ := plain (by intros; simp) (by intros; simp); exact gk_nw_sound (len := 0) hK p5 hw h2 h1
  case newarray t => obtain ⟨h1, h2, -⟩ := plain (by intros; simp) (by intros; simp); exact gk_nw_sound (len := 0) hK p5 hw h2 h1
  case anewarray idx => obtain ⟨h1, h2, -⟩ := plain (by intros; simp) (by intros; simp); exact gk_nw_sound (len := 0) hK p5 hw h2 h1
end GKS3
/-- the locals that are still read -/
def gk_mask : List Bool → gk_L → gk_L
  | b :: bs, v :: L => (bif b then v else none) :: gk_mask bs L
  | [], v :: L => none :: gk_mask [] L
  | _, [] => []
theorem gk_mask_len : ∀ (L : gk_L) (bs : List Bool), (gk_mask bs L).length = L.length := by
  intro L
  induction L with
  | nil => intro bs; cases bs <;> rfl
  | cons v L ih => intro bs; cases bs <;> simp [gk_mask, ih]
theorem gk_mask_get : ∀ (L : gk_L) (bs : List Bool) (i : Nat) (v : Value), (gk_mask bs L)[i]? = some (some v) → L[i]? = some (some v) := by
  intro L
  induction L with
  | nil => intro bs i v h; cases bs <;> cases h
  | cons w L ih =>
    intro bs i v h
    cases bs with
    | nil =>
      cases i with
      | zero => cases h
      | succ i => exact ih [] i v h
    | cons b bs =>
      cases i with
      | zero => cases b with
        | true => exact h
        | false => cases h
      | succ i => exact ih bs i v h
def gk_isw (i : Instr) (tgt : Nat) : Bool := match i with
  | .putfield _ | .iastore | .castore | .lastore => true
  | .invokestatic _ => Nat.beq tgt 1
  | _ => false
/-- THE WALK: n instructions at most; at a head it stops and asks the judgement itself, with the locals that are still read -/
def gk_wp (nm nh : Bool) (M : Nat → gk_J) (E : gk_E) (d j : Nat) (cf : Bool) (mc ms : Nat) (Γe : gk_G) (Q : Option Value → gk_H → Prop) (tb : gk_T) (P : gk_P) (O : gk_O) (hd : List (Nat × List Bool)) : Nat → Nat → gk_L → List Value → gk_G → gk_H → Nat → Nat → Prop
  | 0, pc, L, st, Γ, h, nc, ns => gk_Go M E d j cf mc ms Γe Q pc L st Γ h nc ns
  | n + 1, pc, L, st, Γ, h, nc, ns => match gk_lk tb pc with
    | none => False
    | some (i, nxt, tgt) => gk_one nm M E d cf mc ms Γe Q P O (fun pc' L' st' Γ' h0 nc' ns' => gk_nm (nh && gk_isw i tgt) h0 (fun h' => match gk_lk hd pc' with
      | some bs => gk_Go M E d j cf mc ms Γe Q pc' (gk_mask bs L') st' Γ' h' nc' ns'
      | none => gk_wp nm nh M E d j cf mc ms Γe Q tb P O hd n pc' L' st' Γ' h' nc' ns')) pc i nxt tgt L st Γ h nc ns
theorem gk_wp_sound {nm nh : Bool} {M : Nat → gk_J} {E : gk_E} {d j : Nat} {cf : Bool} {mc ms : Nat} {Γe : gk_G} {Q : Option Value → gk_H → Prop} {tb : gk_T} {P : gk_P} {O : gk_O} {hd : List (Nat × List Bool)} (ok : gk_ok M j tb P O) : ∀ (n pc : Nat) (L : gk_L) (st : List Value) (Γ : gk_G) (h : gk_H) (nc ns : Nat), gk_inv cf mc ms Γe Γ nc ns → gk_wp nm nh M E d j cf mc ms Γe Q tb P O hd n pc L st Γ h nc ns → gk_Go M E d j cf mc ms Γe Q pc L st Γ h nc ns := by
  intro n
  induction n with
  | zero => intro pc L st Γ h nc ns _ hw; exact hw
  | succ n ih =>
    intro pc L st Γ h nc ns hi hw
    rw [gk_wp] at hw
    split at hw
    · exact absurd hw id
    · rename_i i nxt tgt hl
      refine gk_one_sound ok ?_ hi (gk_lk_mem hl) hw
      intro pc' L' st' Γ' h' nc' ns' hi' hk
      have hk := gk_nm_use hk
      split at hk
      · exact gk_go_mono (gk_mask_len _ _) (gk_mask_get _ _) hk
      · exact ih _ _ _ _ _ _ _ hi' hk
end
section
/-! the methods, by number (written by a program: wip/whole/tools/gen_tab.py) -/
def gk_tbk (k : Nat) : List Cond := match k with
  | 0 => k2_sels lw_privs
  | 1 => tables_1_1
  | 2 => tables_1_2
  | 3 => tables_1_3
  | 4 => tables_1_4
  | 5 => tables_1_5
  | 6 => tables_1_6
  | 7 => tables_1_7
  | _ => tables_1_8
theorem gk_tbk_in {k : Nat} {w : Cond} (h : w ∈ gk_tbk k) : w ∈ lw_tbl := by
  unfold lw_tbl
  unfold gk_tbk at h
  split at h
  · exact List.mem_append_left _ h
  all_goals (refine List.mem_append_right _ ?_; unfold tables_1; simp only [List.mem_append]; first | exact Or.inl h | exact Or.inr (Or.inl h) | exact Or.inr (Or.inr (Or.inl h)) | exact Or.inr (Or.inr (Or.inr (Or.inl h))) | exact Or.inr (Or.inr (Or.inr (Or.inr (Or.inl h)))) | exact Or.inr (Or.inr (Or.inr (Or.inr (Or.inr (Or.inl h))))) | exact Or.inr (Or.inr (Or.inr (Or.inr (Or.inr (Or.inr (Or.inl h)))))) | exact Or.inr (Or.inr (Or.inr (Or.inr (Or.inr (Or.inr (Or.inr h)))))))
theorem gk_mem {w : Cond} (k i : Nat) (h : (gk_tbk k)[i]? = some w) (g : goodWord w = true) : w ∈ gk_TT := gk_TT_of (gk_tbk_in (List.mem_of_getElem? h)) g
theorem gk_m2 {a b : Cond} (ha : a ∈ gk_TT) (hb : b ∈ gk_TT) : ∀ w ∈ ([a, b] : List Cond), w ∈ gk_TT := List.forall_mem_cons.mpr ⟨ha, List.forall_mem_cons.mpr ⟨hb, fun _ h => absurd h List.not_mem_nil⟩⟩
theorem gk_m3 {a b c : Cond} (ha : a ∈ gk_TT) (hb : b ∈ gk_TT) (hc : c ∈ gk_TT) : ∀ w ∈ ([a, b, c] : List Cond), w ∈ gk_TT := List.forall_mem_cons.mpr ⟨ha, gk_m2 hb hc⟩
theorem gk_m4 {a b c e : Cond} (ha : a ∈ gk_TT) (hb : b ∈ gk_TT) (hc : c ∈ gk_TT) (he : e ∈ gk_TT) : ∀ w ∈ ([a, b, c, e] : List Cond), w ∈ gk_TT := List.forall_mem_cons.mpr ⟨ha, gk_m3 hb hc he⟩
theorem gk_fn {α : Type} {P : α → Prop} : ∀ e ∈ ([] : List α), P e := fun _ h => absurd h List.not_mem_nil
theorem gk_ap {α : Type} {P : α → Prop} {a b : List α} (ha : ∀ e ∈ a, P e) (hb : ∀ e ∈ b, P e) : ∀ e ∈ a ++ b, P e := fun e h => (List.mem_append.mp h).elim (ha e) (hb e)
theorem gk_fc {α : Type} {P : α → Prop} {a : α} {l : List α} (h : P a) (t : ∀ e ∈ l, P e) : ∀ e ∈ a :: l, P e := List.forall_mem_cons.mpr ⟨h, t⟩
def gk_Ms : List gk_J := [(⟨"DryPlaces$Ground", "isDry", "(JI)Z"⟩, prog_2_method_2_code, 3, some .boolean),
  (⟨"DryPlaces$Ground", "rowOf", "(JI)I"⟩, prog_2_method_3_code, 3, some .int),
  (⟨"DryPlaces$Ground", "withRow", "(JII)J"⟩, prog_2_method_4_code, 4, some .long),
  (⟨"DryPlaces$Ground", "up", "(J)J"⟩, prog_2_method_5_code, 2, some .long),
  (⟨"DryPlaces$Ground", "down", "(J)J"⟩, prog_2_method_6_code, 2, some .long),
  (⟨"DryPlaces$Ground", "left", "(J)J"⟩, prog_2_method_7_code, 2, some .long),
  (⟨"DryPlaces$Ground", "right", "(J)J"⟩, prog_2_method_8_code, 2, some .long),
  (⟨"DryPlaces$Ground", "beside", "(J)J"⟩, prog_2_method_9_code, 2, some .long),
  (⟨"DryPlaces$Ground", "firstOf", "(J)I"⟩, prog_2_method_10_code, 2, some .int),
  (⟨"DryPlaces$Ground", "wetBeside", "(JI)I"⟩, prog_2_method_11_code, 3, some .int),
  (⟨"DryPlaces$Ground", "edges", "(J)I"⟩, prog_2_method_12_code, 2, some .int),
  (⟨"DryPlaces$Ground", "partOf", "(JJ)J"⟩, prog_2_method_13_code, 9, some .long),
  (⟨"DryPlaces$Ground", "parts", "(J)I"⟩, prog_2_method_14_code, 6, some .int),
  (⟨"DryPlaces$Ground", "holes", "(J)I"⟩, prog_2_method_15_code, 4, some .int),
  (⟨"DryPlaces$Ground", "shrunk", "(JI)J"⟩, prog_2_method_16_code, 6, some .long),
  (⟨"DryPlaces$Ground", "depth", "(J)I"⟩, prog_2_method_17_code, 6, some .int),
  (⟨"DryPlaces$Ground", "turnedCell", "(II)I"⟩, prog_2_method_18_code, 6, some .int),
  (⟨"DryPlaces$Ground", "turnedBy", "(JI)J"⟩, prog_2_method_19_code, 6, some .long),
  (⟨"DryPlaces$Ground", "cornered", "(J)J"⟩, prog_2_method_20_code, 5, some .long),
  (⟨"DryPlaces$Ground", "squareCorners", "(JI)J"⟩, prog_2_method_21_code, 6, some .long),
  (⟨"DryPlaces$Ground", "squareSide", "(J)I"⟩, prog_2_method_22_code, 4, some .int),
  (⟨"DryPlaces$Ground", "squaresFrom", "(JI)J"⟩, prog_2_method_23_code, 6, some .long),
  (⟨"DryPlaces$Ground", "pushed", "(JII)J"⟩, prog_2_method_24_code, 6, some .long),
  (⟨"DryPlaces$Ground", "overlap", "(JJII)I"⟩, prog_2_method_25_code, 6, some .int),
  (⟨"DryPlaces$Ground", "couples", "(JJI)I"⟩, prog_2_method_26_code, 7, some .int),
  (⟨"DryPlaces$Ground", "bestPush", "(JJ)I"⟩, prog_2_method_27_code, 8, some .int),
  (⟨"DryPlaces$Ground", "fewestSteps", "(JII)I"⟩, prog_2_method_28_code, 7, some .int),
  (⟨"DryPlaces$Ground", "fewestTurnings", "(JII)I"⟩, prog_2_method_29_code, 7, some .int),
  (⟨"DryPlaces$Ground", "straightFrom", "(JJ)J"⟩, prog_2_method_30_code, 13, some .long),
  (⟨"DryPlaces$Ground", "sumOf", "(JI)I"⟩, prog_2_method_31_code, 5, some .int),
  (⟨"DryPlaces$Ground", "hasSameSums", "(JJ)Z"⟩, prog_2_method_32_code, 5, some .boolean),
  (⟨"DryPlaces$Ground", "firstSwitch", "(J)I"⟩, prog_2_method_33_code, 5, some .int),
  (⟨"DryPlaces$Ground", "switchColumns", "(II)I"⟩, prog_2_method_34_code, 6, some .int),
  (⟨"DryPlaces$Ground", "isLie", "(JII)Z"⟩, prog_2_method_35_code, 6, some .boolean),
  (⟨"DryPlaces$Ground", "standings", "(J)I"⟩, prog_2_method_36_code, 4, some .int),
  (⟨"DryPlaces$Ground", "rightHeels", "(I)J"⟩, prog_2_method_37_code, 6, some .long),
  (⟨"DryPlaces$Keeper", "<init>", "(LDryPlaces$World;LDryPlaces$Texts;LDryPlaces$Teller;[I)V"⟩, prog_3_method_1_code, 5, none),
  (⟨"DryPlaces$Keeper", "canDo", "(III)Z"⟩, prog_3_method_2_code, 4, some .boolean),
  (⟨"DryPlaces$Keeper", "carryOut", "(III)V"⟩, prog_3_method_3_code, 4, none),
  (⟨"DryPlaces$Keeper", "purchase", "(II)V"⟩, prog_3_method_4_code, 3, none),
  (⟨"DryPlaces$Keeper", "partWith", "(II)V"⟩, prog_3_method_5_code, 3, none),
  (⟨"DryPlaces$Keeper", "note", "(III)V"⟩, prog_3_method_6_code, 5, none),
  (⟨"DryPlaces$Keeper", "passDay", "()I"⟩, prog_3_method_7_code, 3, some .int),
  (⟨"DryPlaces$Keeper", "keepDiary", "()V"⟩, prog_3_method_8_code, 6, none),
  (⟨"DryPlaces$Keeper", "creepIn", "(I)I"⟩, prog_3_method_9_code, 9, some .int),
  (⟨"DryPlaces$Keeper", "isHit", "(I)Z"⟩, prog_3_method_10_code, 2, some .boolean),
  (⟨"DryPlaces$Keeper", "receive", "(I)V"⟩, prog_3_method_11_code, 3, none),
  (⟨"DryPlaces$Law", "<init>", "()V"⟩, prog_4_method_1_code, 1, none),
  (⟨"DryPlaces$Law", "clear", "()V"⟩, prog_4_method_2_code, 1, none),
  (⟨"DryPlaces$Law", "copy", "(LDryPlaces$Law;)V"⟩, prog_4_method_3_code, 2, none),
  (⟨"DryPlaces$Law", "begin", "(I)V"⟩, prog_4_method_4_code, 2, none),
  (⟨"DryPlaces$Law", "beginWhen", "()V"⟩, prog_4_method_5_code, 1, none),
  (⟨"DryPlaces$Law", "finish", "()V"⟩, prog_4_method_6_code, 1, none),
  (⟨"DryPlaces$Law", "add", "(II)V"⟩, prog_4_method_7_code, 3, none),
  (⟨"DryPlaces$Parser", "<init>", "(LDryPlaces$Tape;)V"⟩, prog_5_method_1_code, 2, none),
  (⟨"DryPlaces$Parser", "parse", "(II)Z"⟩, prog_5_method_2_code, 5, some .boolean),
  (⟨"DryPlaces$Parser", "canBegin", "(I)Z"⟩, prog_5_method_3_code, 2, some .boolean),
  (⟨"DryPlaces$Parser", "refuse", "(I)Z"⟩, prog_5_method_4_code, 2, some .boolean),
  (⟨"DryPlaces$Parser", "step", "()V"⟩, prog_5_method_5_code, 1, none),
  (⟨"DryPlaces$Parser", "take", "(I)Z"⟩, prog_5_method_6_code, 2, some .boolean),
  (⟨"DryPlaces$Parser", "takeNumber", "(III)I"⟩, prog_5_method_7_code, 5, some .int),
  (⟨"DryPlaces$Parser", "takePlace", "(I)I"⟩, prog_5_method_8_code, 2, some .int),
  (⟨"DryPlaces$Parser", "takeRoom", "(I)I"⟩, prog_5_method_9_code, 2, some .int),
  (⟨"DryPlaces$Parser", "readPassage", "()Z"⟩, prog_5_method_10_code, 4, some .boolean),
  (⟨"DryPlaces$Parser", "readVoucher", "()Z"⟩, prog_5_method_11_code, 3, some .boolean),
  (⟨"DryPlaces$Parser", "readEntry", "()Z"⟩, prog_5_method_12_code, 5, some .boolean),
  (⟨"DryPlaces$Parser", "actOfWord", "()I"⟩, prog_5_method_13_code, 1, some .int),
  (⟨"DryPlaces$Parser", "takeDetail", "(I)I"⟩, prog_5_method_14_code, 2, some .int),
  (⟨"DryPlaces$Parser", "readLaw", "()Z"⟩, prog_5_method_15_code, 1, some .boolean),
  (⟨"DryPlaces$Parser", "readCondition", "(I)Z"⟩, prog_5_method_16_code, 5, some .boolean),
  (⟨"DryPlaces$Parser", "readOne", "(I)Z"⟩, prog_5_method_17_code, 4, some .boolean),
  (⟨"DryPlaces$Parser", "comparison", "()I"⟩, prog_5_method_18_code, 1, some .int),
  (⟨"DryPlaces$Parser", "readSum", "()Z"⟩, prog_5_method_19_code, 5, some .boolean),
  (⟨"DryPlaces$Parser", "addWaiting", "(I)V"⟩, prog_5_method_20_code, 2, none),
  (⟨"DryPlaces$Parser", "isReckoning", "()Z"⟩, prog_5_method_21_code, 1, some .boolean),
  (⟨"DryPlaces$Parser", "readUnit", "()Z"⟩, prog_5_method_22_code, 1, some .boolean),
  (⟨"DryPlaces$Past", "<init>", "()V"⟩, prog_6_method_1_code, 2, none),
  (⟨"DryPlaces$Past", "keep", "(LDryPlaces$World;)V"⟩, prog_6_method_2_code, 2, none),
  (⟨"DryPlaces$Past", "goBack", "(LDryPlaces$World;)Z"⟩, prog_6_method_3_code, 2, some .boolean),
  (⟨"DryPlaces$Past", "forget", "()V"⟩, prog_6_method_4_code, 1, none),
  (⟨"DryPlaces$Tape", "<init>", "()V"⟩, prog_7_method_1_code, 1, none),
  (⟨"DryPlaces$Tape", "hasSpaceForFive", "()Z"⟩, prog_7_method_2_code, 1, some .boolean),
  (⟨"DryPlaces$Tape", "append", "(I)V"⟩, prog_7_method_3_code, 3, none),
  (⟨"DryPlaces$Tape", "cutUp", "()V"⟩, prog_7_method_4_code, 2, none),
  (⟨"DryPlaces$Tape", "skipBlanks", "()V"⟩, prog_7_method_5_code, 1, none),
  (⟨"DryPlaces$Tape", "readWord", "(I)V"⟩, prog_7_method_6_code, 6, none),
  (⟨"DryPlaces$Tape", "isWordAt", "(III)Z"⟩, prog_7_method_7_code, 5, some .boolean),
  (⟨"DryPlaces$Tape", "readNumber", "(I)V"⟩, prog_7_method_8_code, 3, none),
  (⟨"DryPlaces$Tape", "isLetter", "(I)Z"⟩, prog_7_method_9_code, 2, some .boolean),
  (⟨"DryPlaces$Tape", "isDigit", "(I)Z"⟩, prog_7_method_10_code, 2, some .boolean),
  (⟨"DryPlaces$Teller", "<init>", "(LDryPlaces$Law;)V"⟩, prog_8_method_1_code, 2, none),
  (⟨"DryPlaces$Teller", "worthOf", "(LDryPlaces$World;I)I"⟩, prog_8_method_2_code, 3, some .int),
  (⟨"DryPlaces$Teller", "comersTo", "(LDryPlaces$World;I)I"⟩, prog_8_method_3_code, 3, some .int),
  (⟨"DryPlaces$Teller", "chanceIn", "(LDryPlaces$World;II)I"⟩, prog_8_method_4_code, 4, some .int),
  (⟨"DryPlaces$Teller", "held", "(II)I"⟩, prog_8_method_5_code, 2, some .int),
  (⟨"DryPlaces$Teller", "face", "(LDryPlaces$World;II)V"⟩, prog_8_method_6_code, 5, none),
  (⟨"DryPlaces$Teller", "ask", "(II)I"⟩, prog_8_method_7_code, 5, some .int),
  (⟨"DryPlaces$Teller", "run", "(II)I"⟩, prog_8_method_8_code, 7, some .int),
  (⟨"DryPlaces$Teller", "changed", "(III)I"⟩, prog_8_method_9_code, 3, some .int),
  (⟨"DryPlaces$Teller", "joined", "(III)I"⟩, prog_8_method_10_code, 3, some .int),
  (⟨"DryPlaces$Texts", "<init>", "()V"⟩, prog_9_method_1_code, 1, none),
  (⟨"DryPlaces$Texts", "count", "(I)I"⟩, prog_9_method_2_code, 2, some .int),
  (⟨"DryPlaces$Texts", "clearOne", "(I)V"⟩, prog_9_method_3_code, 2, none),
  (⟨"DryPlaces$Texts", "copyOne", "(ILDryPlaces$Texts;)V"⟩, prog_9_method_4_code, 3, none),
  (⟨"DryPlaces$Texts", "copyAll", "(LDryPlaces$Texts;)V"⟩, prog_9_method_5_code, 3, none),
  (⟨"DryPlaces$Texts", "addPassage", "(III)V"⟩, prog_9_method_6_code, 5, none),
  (⟨"DryPlaces$Texts", "addVoucher", "(II)V"⟩, prog_9_method_7_code, 3, none),
  (⟨"DryPlaces$Texts", "addEntry", "(IIII)V"⟩, prog_9_method_8_code, 6, none),
  (⟨"DryPlaces$Tour", "<init>", "()V"⟩, prog_10_method_1_code, 1, none),
  (⟨"DryPlaces$Tour", "lastRoom", "([II)I"⟩, prog_10_method_2_code, 5, some .int),
  (⟨"DryPlaces$Tour", "lengthTo", "(I)I"⟩, prog_10_method_3_code, 2, some .int),
  (⟨"DryPlaces$Tour", "measure", "([I)V"⟩, prog_10_method_4_code, 6, none),
  (⟨"DryPlaces$Tour", "goOn", "(II)V"⟩, prog_10_method_5_code, 6, none),
  (⟨"DryPlaces$World", "<init>", "()V"⟩, prog_11_method_1_code, 1, none),
  (⟨"DryPlaces$World", "copy", "(LDryPlaces$World;)V"⟩, prog_11_method_2_code, 2, none),
  (⟨"DryPlaces$World", "add", "(I)I"⟩, prog_11_method_3_code, 2, some .int),
  (⟨"DryPlaces$World", "has", "(I)Z"⟩, prog_11_method_4_code, 2, some .boolean),
  (⟨"DryPlaces$World", "isOwned", "(I)Z"⟩, prog_11_method_5_code, 2, some .boolean),
  (⟨"DryPlaces$World", "isHosed", "(I)Z"⟩, prog_11_method_6_code, 2, some .boolean),
  (⟨"DryPlaces$World", "isShown", "(I)Z"⟩, prog_11_method_7_code, 2, some .boolean),
  (⟨"DryPlaces$World", "earn", "(I)V"⟩, prog_11_method_8_code, 2, none),
  (⟨"DryPlaces$World", "drawOfThousand", "()I"⟩, prog_11_method_9_code, 1, some .int),
  (⟨"DryPlaces$World", "dryOf", "(I)I"⟩, prog_11_method_10_code, 4, some .int),
  (⟨"DryPlaces$World", "dryOfOwned", "()I"⟩, prog_11_method_11_code, 1, some .int),
  (⟨"DryPlaces", "<init>", "()V"⟩, prog_1_method_1_code, 1, none),
  (⟨"DryPlaces", "state", "(I)I"⟩, prog_1_method_2_code, 3, some .int),
  (⟨"DryPlaces", "place", "(I)I"⟩, prog_1_method_3_code, 2, some .int),
  (⟨"DryPlaces", "row", "(III)Z"⟩, prog_1_method_4_code, 4, some .boolean),
  (⟨"DryPlaces", "purse", "(I)Z"⟩, prog_1_method_5_code, 2, some .boolean),
  (⟨"DryPlaces", "act", "(III)Z"⟩, prog_1_method_6_code, 4, some .boolean),
  (⟨"DryPlaces", "days", "(I)I"⟩, prog_1_method_7_code, 4, some .int),
  (⟨"DryPlaces", "feed", "(IIIII)I"⟩, prog_1_method_8_code, 6, some .int),
  (⟨"DryPlaces", "end", "(I)Z"⟩, prog_1_method_9_code, 2, some .boolean),
  (⟨"DryPlaces", "text", "(I)I"⟩, prog_1_method_10_code, 3, some .int),
  (⟨"DryPlaces", "fault", "(I)I"⟩, prog_1_method_11_code, 2, some .int),
  (⟨"DryPlaces", "of", "(II)I"⟩, prog_1_method_12_code, 3, some .int),
  (⟨"DryPlaces", "creeps", "(II)I"⟩, prog_1_method_13_code, 3, some .int),
  (⟨"DryPlaces", "room", "(II)I"⟩, prog_1_method_14_code, 4, some .int),
  (⟨"DryPlaces", "book", "(II)I"⟩, prog_1_method_15_code, 3, some .int),
  (⟨"DryPlaces", "goes", "(II)I"⟩, prog_1_method_16_code, 4, some .int),
  (⟨"DryPlaces", "shape", "(II)I"⟩, prog_1_method_17_code, 5, some .int),
  (⟨"DryPlaces", "turned", "(II)I"⟩, prog_1_method_18_code, 6, some .int),
  (⟨"DryPlaces", "square", "(II)I"⟩, prog_1_method_19_code, 7, some .int),
  (⟨"DryPlaces", "fit", "(III)I"⟩, prog_1_method_20_code, 5, some .int),
  (⟨"DryPlaces", "walk", "(IIII)I"⟩, prog_1_method_21_code, 7, some .int),
  (⟨"DryPlaces", "sums", "(II)I"⟩, prog_1_method_22_code, 5, some .int),
  (⟨"DryPlaces", "buys", "(II)I"⟩, prog_1_method_23_code, 6, some .int),
  (⟨"DryPlaces", "tour", "(II)I"⟩, prog_1_method_24_code, 4, some .int),
  (⟨"DryPlaces", "vouched", "(I)I"⟩, prog_1_method_25_code, 4, some .int),
  (⟨"DryPlaces", "lie", "(III)I"⟩, prog_1_method_26_code, 4, some .int),
  (⟨"DryPlaces", "feet", "(I)I"⟩, prog_1_method_27_code, 2, some .int),
  (⟨"DryPlaces", "game", "(I)I"⟩, prog_1_method_28_code, 5, some .int),
  (⟨"DryPlaces", "undo", "()Z"⟩, prog_1_method_29_code, 1, some .boolean),
  (⟨"DryPlaces", "image", "(Z)Z"⟩, prog_1_method_30_code, 2, some .boolean),
  (⟨"DryPlaces", "look", "(I)I"⟩, prog_1_method_31_code, 2, some .int),
  (⟨"DryPlaces", "isWithin", "(III)Z"⟩, prog_1_method_32_code, 3, some .boolean),
  (⟨"DryPlaces", "isCell", "(I)Z"⟩, prog_1_method_33_code, 1, some .boolean),
  (⟨"DryPlaces", "isRoom", "(I)Z"⟩, prog_1_method_34_code, 1, some .boolean),
  (⟨"DryPlaces", "priceOf", "(I)I"⟩, prog_1_method_35_code, 4, some .int),
  (⟨"DryPlaces", "vouchersOfAll", "(I)I"⟩, prog_1_method_36_code, 4, some .int),
  (⟨"DryPlaces", "heapOf", "(I)I"⟩, prog_1_method_37_code, 2, some .int),
  (⟨"DryPlaces", "winningTake", "(II)I"⟩, prog_1_method_38_code, 4, some .int),
  (⟨"DryPlacesModel", "<init>", "()V"⟩, prog_13_method_1_code, 1, none),
  (⟨"DryPlacesModel", "isIn", "(III)Z"⟩, prog_13_method_3_code, 4, some .boolean),
  (⟨"DryPlacesModel", "held", "(III)I"⟩, prog_13_method_4_code, 4, some .int),
  (⟨"DryPlacesModel", "greater", "(II)I"⟩, prog_13_method_5_code, 3, some .int),
  (⟨"DryPlacesModel", "lesser", "(II)I"⟩, prog_13_method_6_code, 3, some .int),
  (⟨"DryPlacesModel", "apart", "(II)I"⟩, prog_13_method_7_code, 3, some .int),
  (⟨"DryPlacesModel", "onesOf", "(I)I"⟩, prog_13_method_8_code, 4, some .int),
  (⟨"DryPlacesModel", "has", "(II)Z"⟩, prog_13_method_9_code, 3, some .boolean),
  (⟨"DryPlacesModel", "keepsAhead", "()V"⟩, prog_13_method_10_code, 2, none),
  (⟨"DryPlacesModel", "undo", "()Z"⟩, prog_13_method_11_code, 2, some .boolean),
  (⟨"DryPlacesModel", "thinks", "()V"⟩, prog_13_method_12_code, 2, none),
  (⟨"DryPlacesModel", "endsThought", "()V"⟩, prog_13_method_13_code, 2, none),
  (⟨"DryPlacesModel", "state", "(I)I"⟩, prog_13_method_14_code, 3, some .int),
  (⟨"DryPlacesModel", "draw", "(I)I"⟩, prog_13_method_15_code, 2, some .int),
  (⟨"DryPlacesModel", "isPlace", "(I)Z"⟩, prog_13_method_16_code, 2, some .boolean),
  (⟨"DryPlacesModel", "isCell", "(I)Z"⟩, prog_13_method_17_code, 2, some .boolean),
  (⟨"DryPlacesModel", "rowAt", "(II)I"⟩, prog_13_method_18_code, 3, some .int),
  (⟨"DryPlacesModel", "isDry", "(III)Z"⟩, prog_13_method_19_code, 4, some .boolean),
  (⟨"DryPlacesModel", "isDryCell", "(II)Z"⟩, prog_13_method_20_code, 3, some .boolean),
  (⟨"DryPlacesModel", "wetBeside", "(II)I"⟩, prog_13_method_21_code, 5, some .int),
  (⟨"DryPlacesModel", "dryOf", "(I)I"⟩, prog_13_method_22_code, 4, some .int),
  (⟨"DryPlacesModel", "edgesOf", "(I)I"⟩, prog_13_method_23_code, 4, some .int),
  (⟨"DryPlacesModel", "place", "(I)I"⟩, prog_13_method_24_code, 3, some .int),
  (⟨"DryPlacesModel", "row", "(III)Z"⟩, prog_13_method_25_code, 4, some .boolean),
  (⟨"DryPlacesModel", "purse", "(I)Z"⟩, prog_13_method_26_code, 2, some .boolean),
  (⟨"DryPlacesModel", "types", "(I)V"⟩, prog_13_method_27_code, 3, none),
  (⟨"DryPlacesModel", "feed", "(IIIII)I"⟩, prog_13_method_28_code, 6, some .int),
  (⟨"DryPlacesModel", "end", "(I)Z"⟩, prog_13_method_29_code, 2, some .boolean),
  (⟨"DryPlacesModel", "raw", "(I)I"⟩, prog_13_method_30_code, 2, some .int),
  (⟨"DryPlacesModel", "isLetter", "(I)Z"⟩, prog_13_method_31_code, 2, some .boolean),
  (⟨"DryPlacesModel", "isDigit", "(I)Z"⟩, prog_13_method_32_code, 2, some .boolean),
  (⟨"DryPlacesModel", "isMarkSign", "(I)Z"⟩, prog_13_method_33_code, 2, some .boolean),
  (⟨"DryPlacesModel", "wordAt", "(II)I"⟩, prog_13_method_34_code, 6, some .int),
  (⟨"DryPlacesModel", "reads", "()V"⟩, prog_13_method_35_code, 2, none),
  (⟨"DryPlacesModel", "errs", "(I)I"⟩, prog_13_method_36_code, 2, some .int),
  (⟨"DryPlacesModel", "isWord", "(I)Z"⟩, prog_13_method_37_code, 2, some .boolean),
  (⟨"DryPlacesModel", "isSign", "(I)Z"⟩, prog_13_method_38_code, 2, some .boolean),
  (⟨"DryPlacesModel", "emits", "(II)V"⟩, prog_13_method_39_code, 3, none),
  (⟨"DryPlacesModel", "canAsk", "(I)Z"⟩, prog_13_method_40_code, 2, some .boolean),
  (⟨"DryPlacesModel", "readUnit", "()I"⟩, prog_13_method_41_code, 2, some .int),
  (⟨"DryPlacesModel", "readProduct", "()I"⟩, prog_13_method_42_code, 2, some .int),
  (⟨"DryPlacesModel", "readSum", "()I"⟩, prog_13_method_43_code, 2, some .int),
  (⟨"DryPlacesModel", "readCompared", "()I"⟩, prog_13_method_44_code, 2, some .int),
  (⟨"DryPlacesModel", "waits", "(I)V"⟩, prog_13_method_45_code, 2, none),
  (⟨"DryPlacesModel", "settles", "(I)V"⟩, prog_13_method_46_code, 2, none),
  (⟨"DryPlacesModel", "readAny", "()I"⟩, prog_13_method_47_code, 4, some .int),
  (⟨"DryPlacesModel", "isLineWord", "()Z"⟩, prog_13_method_48_code, 1, some .boolean),
  (⟨"DryPlacesModel", "readLaw", "()I"⟩, prog_13_method_49_code, 3, some .int),
  (⟨"DryPlacesModel", "takesLaw", "(I)V"⟩, prog_13_method_50_code, 3, none),
  (⟨"DryPlacesModel", "readNumber", "(II)I"⟩, prog_13_method_51_code, 4, some .int),
  (⟨"DryPlacesModel", "readMark", "(I)I"⟩, prog_13_method_52_code, 2, some .int),
  (⟨"DryPlacesModel", "readTold", "(III)I"⟩, prog_13_method_53_code, 4, some .int),
  (⟨"DryPlacesModel", "readOther", "(III)I"⟩, prog_13_method_54_code, 4, some .int),
  (⟨"DryPlacesModel", "takesPassage", "(II)V"⟩, prog_13_method_55_code, 3, none),
  (⟨"DryPlacesModel", "readPassage", "()I"⟩, prog_13_method_56_code, 4, some .int),
  (⟨"DryPlacesModel", "readPassages", "()I"⟩, prog_13_method_57_code, 2, some .int),
  (⟨"DryPlacesModel", "kindOfDeed", "()I"⟩, prog_13_method_58_code, 1, some .int),
  (⟨"DryPlacesModel", "readDeedMore", "(I)I"⟩, prog_13_method_59_code, 2, some .int),
  (⟨"DryPlacesModel", "readDeed", "(I)I"⟩, prog_13_method_60_code, 3, some .int),
  (⟨"DryPlacesModel", "readDiary", "()I"⟩, prog_13_method_61_code, 2, some .int),
  (⟨"DryPlacesModel", "readVouch", "()I"⟩, prog_13_method_62_code, 3, some .int),
  (⟨"DryPlacesModel", "readVouches", "()I"⟩, prog_13_method_63_code, 2, some .int),
  (⟨"DryPlacesModel", "readsText", "(I)I"⟩, prog_13_method_64_code, 2, some .int),
  (⟨"DryPlacesModel", "takesOther", "(II)V"⟩, prog_13_method_65_code, 4, none),
  (⟨"DryPlacesModel", "text", "(I)I"⟩, prog_13_method_66_code, 3, some .int),
  (⟨"DryPlacesModel", "fault", "(I)I"⟩, prog_13_method_67_code, 2, some .int),
  (⟨"DryPlacesModel", "twoOf", "(III)I"⟩, prog_13_method_68_code, 4, some .int),
  (⟨"DryPlacesModel", "runs", "(III)I"⟩, prog_13_method_69_code, 6, some .int),
  (⟨"DryPlacesModel", "lineOf", "(I)I"⟩, prog_13_method_70_code, 3, some .int),
  (⟨"DryPlacesModel", "lightOf", "(I)I"⟩, prog_13_method_71_code, 2, some .int),
  (⟨"DryPlacesModel", "asks", "(II)V"⟩, prog_13_method_72_code, 3, none),
  (⟨"DryPlacesModel", "lawTells", "(III)I"⟩, prog_13_method_73_code, 5, some .int),
  (⟨"DryPlacesModel", "creepsOf", "(II)I"⟩, prog_13_method_74_code, 3, some .int),
  (⟨"DryPlacesModel", "worthOf", "(I)I"⟩, prog_13_method_75_code, 2, some .int),
  (⟨"DryPlacesModel", "comesOf", "(I)I"⟩, prog_13_method_76_code, 2, some .int),
  (⟨"DryPlacesModel", "notes", "(III)V"⟩, prog_13_method_77_code, 5, none),
  (⟨"DryPlacesModel", "getsPaid", "(I)V"⟩, prog_13_method_78_code, 2, none),
  (⟨"DryPlacesModel", "isTold", "(III)Z"⟩, prog_13_method_79_code, 4, some .boolean),
  (⟨"DryPlacesModel", "canAct", "(III)Z"⟩, prog_13_method_80_code, 4, some .boolean),
  (⟨"DryPlacesModel", "isBought", "(I)V"⟩, prog_13_method_81_code, 3, none),
  (⟨"DryPlacesModel", "sells", "(I)V"⟩, prog_13_method_82_code, 3, none),
  (⟨"DryPlacesModel", "hoses", "(II)V"⟩, prog_13_method_83_code, 3, none),
  (⟨"DryPlacesModel", "wets", "(II)V"⟩, prog_13_method_84_code, 3, none),
  (⟨"DryPlacesModel", "acts", "(III)V"⟩, prog_13_method_85_code, 4, none),
  (⟨"DryPlacesModel", "act", "(III)Z"⟩, prog_13_method_86_code, 4, some .boolean),
  (⟨"DryPlacesModel", "creepsOn", "(I)I"⟩, prog_13_method_87_code, 5, some .int),
  (⟨"DryPlacesModel", "isShown", "(I)Z"⟩, prog_13_method_88_code, 2, some .boolean),
  (⟨"DryPlacesModel", "goesBy", "()I"⟩, prog_13_method_89_code, 4, some .int),
  (⟨"DryPlacesModel", "days", "(I)I"⟩, prog_13_method_90_code, 4, some .int),
  (⟨"DryPlacesModel", "of", "(II)I"⟩, prog_13_method_91_code, 3, some .int),
  (⟨"DryPlacesModel", "creeps", "(II)I"⟩, prog_13_method_92_code, 3, some .int),
  (⟨"DryPlacesModel", "room", "(II)I"⟩, prog_13_method_93_code, 4, some .int),
  (⟨"DryPlacesModel", "book", "(II)I"⟩, prog_13_method_94_code, 3, some .int),
  (⟨"DryPlacesModel", "ownedSet", "()I"⟩, prog_13_method_95_code, 3, some .int),
  (⟨"DryPlacesModel", "goes", "(II)I"⟩, prog_13_method_96_code, 5, some .int),
  (⟨"DryPlacesModel", "isBeside", "(II)Z"⟩, prog_13_method_97_code, 3, some .boolean),
  (⟨"DryPlacesModel", "findsParts", "(IZ)V"⟩, prog_13_method_98_code, 6, none),
  (⟨"DryPlacesModel", "isAtEdge", "(I)Z"⟩, prog_13_method_99_code, 2, some .boolean),
  (⟨"DryPlacesModel", "comesOut", "(I)Z"⟩, prog_13_method_100_code, 3, some .boolean),
  (⟨"DryPlacesModel", "islandsOf", "(I)I"⟩, prog_13_method_101_code, 4, some .int),
  (⟨"DryPlacesModel", "holesOf", "(I)I"⟩, prog_13_method_102_code, 4, some .int),
  (⟨"DryPlacesModel", "takesOwn", "(I)V"⟩, prog_13_method_103_code, 3, none),
  (⟨"DryPlacesModel", "isOwnLeft", "()Z"⟩, prog_13_method_104_code, 2, some .boolean),
  (⟨"DryPlacesModel", "shrinks", "()V"⟩, prog_13_method_105_code, 2, none),
  (⟨"DryPlacesModel", "depthOf", "(I)I"⟩, prog_13_method_106_code, 3, some .int),
  (⟨"DryPlacesModel", "shape", "(II)I"⟩, prog_13_method_107_code, 3, some .int),
  (⟨"DryPlacesModel", "mirrors", "()V"⟩, prog_13_method_108_code, 4, none),
  (⟨"DryPlacesModel", "turnsRight", "()V"⟩, prog_13_method_109_code, 4, none),
  (⟨"DryPlacesModel", "pushes", "()V"⟩, prog_13_method_110_code, 4, none),
  (⟨"DryPlacesModel", "isAim", "()Z"⟩, prog_13_method_111_code, 2, some .boolean),
  (⟨"DryPlacesModel", "turned", "(II)I"⟩, prog_13_method_112_code, 5, some .int),
  (⟨"DryPlacesModel", "isSquare", "(III)Z"⟩, prog_13_method_113_code, 6, some .boolean),
  (⟨"DryPlacesModel", "firstSquare", "(II)I"⟩, prog_13_method_114_code, 4, some .int),
  (⟨"DryPlacesModel", "restOf", "(II)I"⟩, prog_13_method_115_code, 6, some .int),
  (⟨"DryPlacesModel", "isRound", "(III)Z"⟩, prog_13_method_116_code, 6, some .boolean),
  (⟨"DryPlacesModel", "firstRound", "(II)I"⟩, prog_13_method_117_code, 4, some .int),
  (⟨"DryPlacesModel", "square", "(II)I"⟩, prog_13_method_118_code, 5, some .int),
  (⟨"DryPlacesModel", "pushedRow", "(IIII)I"⟩, prog_13_method_119_code, 5, some .int),
  (⟨"DryPlacesModel", "couplesBy", "(IIII)I"⟩, prog_13_method_120_code, 9, some .int),
  (⟨"DryPlacesModel", "fit", "(III)I"⟩, prog_13_method_121_code, 8, some .int),
  (⟨"DryPlacesModel", "stepsBy", "(III)I"⟩, prog_13_method_122_code, 7, some .int),
  (⟨"DryPlacesModel", "beside", "(II)I"⟩, prog_13_method_123_code, 5, some .int),
  (⟨"DryPlacesModel", "comesTo", "(II)Z"⟩, prog_13_method_124_code, 3, some .boolean),
  (⟨"DryPlacesModel", "turnsBy", "(III)I"⟩, prog_13_method_125_code, 7, some .int),
  (⟨"DryPlacesModel", "walk", "(IIII)I"⟩, prog_13_method_126_code, 6, some .int),
  (⟨"DryPlacesModel", "sumOf", "(II)I"⟩, prog_13_method_127_code, 5, some .int),
  (⟨"DryPlacesModel", "areLike", "(II)Z"⟩, prog_13_method_128_code, 4, some .boolean),
  (⟨"DryPlacesModel", "switchOf", "(I)I"⟩, prog_13_method_129_code, 7, some .int),
  (⟨"DryPlacesModel", "sums", "(II)I"⟩, prog_13_method_130_code, 3, some .int),
  (⟨"DryPlacesModel", "sumOver", "(IZ)I"⟩, prog_13_method_131_code, 5, some .int),
  (⟨"DryPlacesModel", "buys", "(II)I"⟩, prog_13_method_132_code, 6, some .int),
  (⟨"DryPlacesModel", "findsWays", "()V"⟩, prog_13_method_133_code, 4, none),
  (⟨"DryPlacesModel", "leastTo", "(III)I"⟩, prog_13_method_134_code, 7, some .int),
  (⟨"DryPlacesModel", "tour", "(II)I"⟩, prog_13_method_135_code, 5, some .int),
  (⟨"DryPlacesModel", "vouchersOf", "(I)I"⟩, prog_13_method_136_code, 4, some .int),
  (⟨"DryPlacesModel", "vouched", "(I)I"⟩, prog_13_method_137_code, 4, some .int),
  (⟨"DryPlacesModel", "isLie", "(II)Z"⟩, prog_13_method_138_code, 3, some .boolean),
  (⟨"DryPlacesModel", "lie", "(III)I"⟩, prog_13_method_139_code, 4, some .int),
  (⟨"DryPlacesModel", "feet", "(I)I"⟩, prog_13_method_140_code, 5, some .int),
  (⟨"DryPlacesModel", "game", "(I)I"⟩, prog_13_method_141_code, 8, some .int),
  (⟨"DryPlacesModel", "keeps", "(I)I"⟩, prog_13_method_142_code, 2, some .int),
  (⟨"DryPlacesModel", "keepsLaw", "()V"⟩, prog_13_method_143_code, 2, none),
  (⟨"DryPlacesModel", "keepsTold", "()V"⟩, prog_13_method_144_code, 2, none),
  (⟨"DryPlacesModel", "image", "(Z)Z"⟩, prog_13_method_145_code, 3, some .boolean),
  (⟨"DryPlacesModel", "look", "(I)I"⟩, prog_13_method_146_code, 2, some .int),
  (⟨"java/lang/Long", "bitCount", "(J)I"⟩, prog_15_method_50_code, 2, some .int),
  (⟨"java/lang/Math", "abs", "(I)I"⟩, prog_16_method_59_code, 1, some .int),
  (⟨"java/lang/Math", "max", "(II)I"⟩, prog_16_method_65_code, 2, some .int),
  (⟨"java/lang/Math", "min", "(II)I"⟩, prog_16_method_69_code, 2, some .int),
  (⟨"java/lang/String", "length", "()I"⟩, prog_17_method_54_code, 1, some .int),
  (⟨"java/lang/String", "charAt", "(I)C"⟩, prog_17_method_56_code, 2, some .char),
  (⟨"java/lang/String", "indexOf", "(I)I"⟩, prog_17_method_79_code, 2, some .int),
  (⟨"java/lang/String", "indexOf", "(II)I"⟩, prog_17_method_80_code, 3, some .int),
  (⟨"java/lang/String", "coder", "()B"⟩, prog_17_method_152_code, 1, some .byte),
  (⟨"java/lang/String", "isLatin1", "()Z"⟩, prog_17_method_154_code, 1, some .boolean),
  (⟨"java/lang/String", "checkIndex", "(II)V"⟩, prog_17_method_155_code, 2, none),
  (⟨"java/lang/StringLatin1", "charAt", "([BI)C"⟩, prog_18_method_2_code, 2, some .char),
  (⟨"java/lang/StringLatin1", "canEncode", "(I)Z"⟩, prog_18_method_4_code, 1, some .boolean),
  (⟨"java/lang/StringLatin1", "indexOf", "([BIII)I"⟩, prog_18_method_22_code, 4, some .int),
  (⟨"java/lang/StringLatin1", "indexOfChar", "([BIII)I"⟩, prog_18_method_23_code, 6, some .int),
  (⟨"java/util/Arrays", "fill", "([II)V"⟩, prog_21_method_103_code, 4, none),
  (⟨"jdk/internal/util/Preconditions", "checkIndex", "(IILjava/util/function/BiFunction;)I"⟩, prog_22_method_11_code, 3, some .int),
  (⟨"DryPlacesLaw", "law", "([I)Z"⟩, code, 4, some .boolean)]
def gk_M (j : Nat) : gk_J := gk_Ms.getD j (⟨"", "", ""⟩, code, 0, none)
abbrev jgr_isDry : Nat := 0
abbrev jgr_rowOf : Nat := 1
abbrev jgr_withRow : Nat := 2
abbrev jgr_up : Nat := 3
abbrev jgr_down : Nat := 4
abbrev jgr_left : Nat := 5
abbrev jgr_right : Nat := 6
abbrev jgr_beside : Nat := 7
abbrev jgr_firstOf : Nat := 8
abbrev jgr_wetBeside : Nat := 9
abbrev jgr_edges : Nat := 10
abbrev jgr_partOf : Nat := 11
abbrev jgr_parts : Nat := 12
abbrev jgr_holes : Nat := 13
abbrev jgr_shrunk : Nat := 14
abbrev jgr_depth : Nat := 15
abbrev jgr_turnedCell : Nat := 16
abbrev jgr_turnedBy : Nat := 17
abbrev jgr_cornered : Nat := 18
abbrev jgr_squareCorners : Nat := 19
abbrev jgr_squareSide : Nat := 20
abbrev jgr_squaresFrom : Nat := 21
abbrev jgr_pushed : Nat := 22
abbrev jgr_overlap : Nat := 23
abbrev jgr_couples : Nat := 24
abbrev jgr_bestPush : Nat := 25
abbrev jgr_fewestSteps : Nat := 26
abbrev jgr_fewestTurnings : Nat := 27
abbrev jgr_straightFrom : Nat := 28
abbrev jgr_sumOf : Nat := 29
abbrev jgr_hasSameSums : Nat := 30
abbrev jgr_firstSwitch : Nat := 31
abbrev jgr_switchColumns : Nat := 32
abbrev jgr_isLie : Nat := 33
abbrev jgr_standings : Nat := 34
abbrev jgr_rightHeels : Nat := 35
abbrev jke_init : Nat := 36
abbrev jke_canDo : Nat := 37
abbrev jke_carryOut : Nat := 38
abbrev jke_purchase : Nat := 39
abbrev jke_partWith : Nat := 40
abbrev jke_note : Nat := 41
abbrev jke_passDay : Nat := 42
abbrev jke_keepDiary : Nat := 43
abbrev jke_creepIn : Nat := 44
abbrev jke_isHit : Nat := 45
abbrev jke_receive : Nat := 46
abbrev jla_init : Nat := 47
abbrev jla_clear : Nat := 48
abbrev jla_copy : Nat := 49
abbrev jla_begin : Nat := 50
abbrev jla_beginWhen : Nat := 51
abbrev jla_finish : Nat := 52
abbrev jla_add : Nat := 53
abbrev jpa_init : Nat := 54
abbrev jpa_parse : Nat := 55
abbrev jpa_canBegin : Nat := 56
abbrev jpa_refuse : Nat := 57
abbrev jpa_step : Nat := 58
abbrev jpa_take : Nat := 59
abbrev jpa_takeNumber : Nat := 60
abbrev jpa_takePlace : Nat := 61
abbrev jpa_takeRoom : Nat := 62
abbrev jpa_readPassage : Nat := 63
abbrev jpa_readVoucher : Nat := 64
abbrev jpa_readEntry : Nat := 65
abbrev jpa_actOfWord : Nat := 66
abbrev jpa_takeDetail : Nat := 67
abbrev jpa_readLaw : Nat := 68
abbrev jpa_readCondition : Nat := 69
abbrev jpa_readOne : Nat := 70
abbrev jpa_comparison : Nat := 71
abbrev jpa_readSum : Nat := 72
abbrev jpa_addWaiting : Nat := 73
abbrev jpa_isReckoning : Nat := 74
abbrev jpa_readUnit : Nat := 75
abbrev jps_init : Nat := 76
abbrev jps_keep : Nat := 77
abbrev jps_goBack : Nat := 78
abbrev jps_forget : Nat := 79
abbrev jta_init : Nat := 80
abbrev jta_hasSpaceForFive : Nat := 81
abbrev jta_append : Nat := 82
abbrev jta_cutUp : Nat := 83
abbrev jta_skipBlanks : Nat := 84
abbrev jta_readWord : Nat := 85
abbrev jta_isWordAt : Nat := 86
abbrev jta_readNumber : Nat := 87
abbrev jta_isLetter : Nat := 88
abbrev jta_isDigit : Nat := 89
abbrev jte_init : Nat := 90
abbrev jte_worthOf : Nat := 91
abbrev jte_comersTo : Nat := 92
abbrev jte_chanceIn : Nat := 93
abbrev jte_held : Nat := 94
abbrev jte_face : Nat := 95
abbrev jte_ask : Nat := 96
abbrev jte_run : Nat := 97
abbrev jte_changed : Nat := 98
abbrev jte_joined : Nat := 99
abbrev jtx_init : Nat := 100
abbrev jtx_count : Nat := 101
abbrev jtx_clearOne : Nat := 102
abbrev jtx_copyOne : Nat := 103
abbrev jtx_copyAll : Nat := 104
abbrev jtx_addPassage : Nat := 105
abbrev jtx_addVoucher : Nat := 106
abbrev jtx_addEntry : Nat := 107
abbrev jtr_init : Nat := 108
abbrev jtr_lastRoom : Nat := 109
abbrev jtr_lengthTo : Nat := 110
abbrev jtr_measure : Nat := 111
abbrev jtr_goOn : Nat := 112
abbrev jwo_init : Nat := 113
abbrev jwo_copy : Nat := 114
abbrev jwo_add : Nat := 115
abbrev jwo_has : Nat := 116
abbrev jwo_isOwned : Nat := 117
abbrev jwo_isHosed : Nat := 118
abbrev jwo_isShown : Nat := 119
abbrev jwo_earn : Nat := 120
abbrev jwo_drawOfThousand : Nat := 121
abbrev jwo_dryOf : Nat := 122
abbrev jwo_dryOfOwned : Nat := 123
abbrev jdp_init : Nat := 124
abbrev jdp_state : Nat := 125
abbrev jdp_place : Nat := 126
abbrev jdp_row : Nat := 127
abbrev jdp_purse : Nat := 128
abbrev jdp_act : Nat := 129
abbrev jdp_days : Nat := 130
abbrev jdp_feed : Nat := 131
abbrev jdp_end : Nat := 132
abbrev jdp_text : Nat := 133
abbrev jdp_fault : Nat := 134
abbrev jdp_of : Nat := 135
abbrev jdp_creeps : Nat := 136
abbrev jdp_room : Nat := 137
abbrev jdp_book : Nat := 138
abbrev jdp_goes : Nat := 139
abbrev jdp_shape : Nat := 140
abbrev jdp_turned : Nat := 141
abbrev jdp_square : Nat := 142
abbrev jdp_fit : Nat := 143
abbrev jdp_walk : Nat := 144
abbrev jdp_sums : Nat := 145
abbrev jdp_buys : Nat := 146
abbrev jdp_tour : Nat := 147
abbrev jdp_vouched : Nat := 148
abbrev jdp_lie : Nat := 149
abbrev jdp_feet : Nat := 150
abbrev jdp_game : Nat := 151
abbrev jdp_undo : Nat := 152
abbrev jdp_image : Nat := 153
abbrev jdp_look : Nat := 154
abbrev jdp_isWithin : Nat := 155
abbrev jdp_isCell : Nat := 156
abbrev jdp_isRoom : Nat := 157
abbrev jdp_priceOf : Nat := 158
abbrev jdp_vouchersOfAll : Nat := 159
abbrev jdp_heapOf : Nat := 160
abbrev jdp_winningTake : Nat := 161
abbrev jmo_init : Nat := 162
abbrev jmo_isIn : Nat := 163
abbrev jmo_held : Nat := 164
abbrev jmo_greater : Nat := 165
abbrev jmo_lesser : Nat := 166
abbrev jmo_apart : Nat := 167
abbrev jmo_onesOf : Nat := 168
abbrev jmo_has : Nat := 169
abbrev jmo_keepsAhead : Nat := 170
abbrev jmo_undo : Nat := 171
abbrev jmo_thinks : Nat := 172
abbrev jmo_endsThought : Nat := 173
abbrev jmo_state : Nat := 174
abbrev jmo_draw : Nat := 175
abbrev jmo_isPlace : Nat := 176
abbrev jmo_isCell : Nat := 177
abbrev jmo_rowAt : Nat := 178
abbrev jmo_isDry : Nat := 179
abbrev jmo_isDryCell : Nat := 180
abbrev jmo_wetBeside : Nat := 181
abbrev jmo_dryOf : Nat := 182
abbrev jmo_edgesOf : Nat := 183
abbrev jmo_place : Nat := 184
abbrev jmo_row : Nat := 185
abbrev jmo_purse : Nat := 186
abbrev jmo_types : Nat := 187
abbrev jmo_feed : Nat := 188
abbrev jmo_end : Nat := 189
abbrev jmo_raw : Nat := 190
abbrev jmo_isLetter : Nat := 191
abbrev jmo_isDigit : Nat := 192
abbrev jmo_isMarkSign : Nat := 193
abbrev jmo_wordAt : Nat := 194
abbrev jmo_reads : Nat := 195
abbrev jmo_errs : Nat := 196
abbrev jmo_isWord : Nat := 197
abbrev jmo_isSign : Nat := 198
abbrev jmo_emits : Nat := 199
abbrev jmo_canAsk : Nat := 200
abbrev jmo_readUnit : Nat := 201
abbrev jmo_readProduct : Nat := 202
abbrev jmo_readSum : Nat := 203
abbrev jmo_readCompared : Nat := 204
abbrev jmo_waits : Nat := 205
abbrev jmo_settles : Nat := 206
abbrev jmo_readAny : Nat := 207
abbrev jmo_isLineWord : Nat := 208
abbrev jmo_readLaw : Nat := 209
abbrev jmo_takesLaw : Nat := 210
abbrev jmo_readNumber : Nat := 211
abbrev jmo_readMark : Nat := 212
abbrev jmo_readTold : Nat := 213
abbrev jmo_readOther : Nat := 214
abbrev jmo_takesPassage : Nat := 215
abbrev jmo_readPassage : Nat := 216
abbrev jmo_readPassages : Nat := 217
abbrev jmo_kindOfDeed : Nat := 218
abbrev jmo_readDeedMore : Nat := 219
abbrev jmo_readDeed : Nat := 220
abbrev jmo_readDiary : Nat := 221
abbrev jmo_readVouch : Nat := 222
abbrev jmo_readVouches : Nat := 223
abbrev jmo_readsText : Nat := 224
abbrev jmo_takesOther : Nat := 225
abbrev jmo_text : Nat := 226
abbrev jmo_fault : Nat := 227
abbrev jmo_twoOf : Nat := 228
abbrev jmo_runs : Nat := 229
abbrev jmo_lineOf : Nat := 230
abbrev jmo_lightOf : Nat := 231
abbrev jmo_asks : Nat := 232
abbrev jmo_lawTells : Nat := 233
abbrev jmo_creepsOf : Nat := 234
abbrev jmo_worthOf : Nat := 235
abbrev jmo_comesOf : Nat := 236
abbrev jmo_notes : Nat := 237
abbrev jmo_getsPaid : Nat := 238
abbrev jmo_isTold : Nat := 239
abbrev jmo_canAct : Nat := 240
abbrev jmo_isBought : Nat := 241
abbrev jmo_sells : Nat := 242
abbrev jmo_hoses : Nat := 243
abbrev jmo_wets : Nat := 244
abbrev jmo_acts : Nat := 245
abbrev jmo_act : Nat := 246
abbrev jmo_creepsOn : Nat := 247
abbrev jmo_isShown : Nat := 248
abbrev jmo_goesBy : Nat := 249
abbrev jmo_days : Nat := 250
abbrev jmo_of : Nat := 251
abbrev jmo_creeps : Nat := 252
abbrev jmo_room : Nat := 253
abbrev jmo_book : Nat := 254
abbrev jmo_ownedSet : Nat := 255
abbrev jmo_goes : Nat := 256
abbrev jmo_isBeside : Nat := 257
abbrev jmo_findsParts : Nat := 258
abbrev jmo_isAtEdge : Nat := 259
abbrev jmo_comesOut : Nat := 260
abbrev jmo_islandsOf : Nat := 261
abbrev jmo_holesOf : Nat := 262
abbrev jmo_takesOwn : Nat := 263
abbrev jmo_isOwnLeft : Nat := 264
abbrev jmo_shrinks : Nat := 265
abbrev jmo_depthOf : Nat := 266
abbrev jmo_shape : Nat := 267
abbrev jmo_mirrors : Nat := 268
abbrev jmo_turnsRight : Nat := 269
abbrev jmo_pushes : Nat := 270
abbrev jmo_isAim : Nat := 271
abbrev jmo_turned : Nat := 272
abbrev jmo_isSquare : Nat := 273
abbrev jmo_firstSquare : Nat := 274
abbrev jmo_restOf : Nat := 275
abbrev jmo_isRound : Nat := 276
abbrev jmo_firstRound : Nat := 277
abbrev jmo_square : Nat := 278
abbrev jmo_pushedRow : Nat := 279
abbrev jmo_couplesBy : Nat := 280
abbrev jmo_fit : Nat := 281
abbrev jmo_stepsBy : Nat := 282
abbrev jmo_beside : Nat := 283
abbrev jmo_comesTo : Nat := 284
abbrev jmo_turnsBy : Nat := 285
abbrev jmo_walk : Nat := 286
abbrev jmo_sumOf : Nat := 287
abbrev jmo_areLike : Nat := 288
abbrev jmo_switchOf : Nat := 289
abbrev jmo_sums : Nat := 290
abbrev jmo_sumOver : Nat := 291
abbrev jmo_buys : Nat := 292
abbrev jmo_findsWays : Nat := 293
abbrev jmo_leastTo : Nat := 294
abbrev jmo_tour : Nat := 295
abbrev jmo_vouchersOf : Nat := 296
abbrev jmo_vouched : Nat := 297
abbrev jmo_isLie : Nat := 298
abbrev jmo_lie : Nat := 299
abbrev jmo_feet : Nat := 300
abbrev jmo_game : Nat := 301
abbrev jmo_keeps : Nat := 302
abbrev jmo_keepsLaw : Nat := 303
abbrev jmo_keepsTold : Nat := 304
abbrev jmo_image : Nat := 305
abbrev jmo_look : Nat := 306
abbrev jjl_bitCount : Nat := 307
abbrev jjm_abs : Nat := 308
abbrev jjm_max : Nat := 309
abbrev jjm_min : Nat := 310
abbrev jjs_length : Nat := 311
abbrev jjs_charAt : Nat := 312
abbrev jjs_indexOf : Nat := 313
abbrev jjs_indexOf2 : Nat := 314
abbrev jjs_coder : Nat := 315
abbrev jjs_isLatin1 : Nat := 316
abbrev jjs_checkIndex : Nat := 317
abbrev jjt_charAt : Nat := 318
abbrev jjt_canEncode : Nat := 319
abbrev jjt_indexOf : Nat := 320
abbrev jjt_indexOfChar : Nat := 321
abbrev jja_fill : Nat := 322
abbrev jjp_checkIndex : Nat := 323
abbrev jlw_law : Nat := 324
end
section
/-! what the tables say of each method (written by a program) -/
set_option maxRecDepth 100000 in
theorem jk_gr_isDry : gk_jok (gk_M 0) 2 := ⟨gk_mem 2 238 rfl rfl, gk_mem 1 13 rfl rfl, ⟨by decide +kernel, by decide +kernel, by decide +kernel⟩, by decide +kernel⟩
set_option maxRecDepth 100000 in
theorem st_gr_isDry : Cond.static (gk_M 0).1 ∈ gk_TT := gk_mem 2 237 rfl rfl
set_option maxRecDepth 100000 in
theorem jk_gr_rowOf : gk_jok (gk_M 1) 2 := ⟨gk_mem 4 151 rfl rfl, gk_mem 1 13 rfl rfl, ⟨by decide +kernel, by decide +kernel, by decide +kernel⟩, by decide +kernel⟩
set_option maxRecDepth 100000 in
theorem st_gr_rowOf : Cond.static (gk_M 1).1 ∈ gk_TT := gk_mem 4 150 rfl rfl
set_option maxRecDepth 100000 in
theorem jk_gr_withRow : gk_jok (gk_M 2) 3 := ⟨gk_mem 2 148 rfl rfl, gk_mem 1 13 rfl rfl, ⟨by decide +kernel, by decide +kernel, by decide +kernel⟩, by decide +kernel⟩
set_option maxRecDepth 100000 in
theorem st_gr_withRow : Cond.static (gk_M 2).1 ∈ gk_TT := gk_mem 2 147 rfl rfl
set_option maxRecDepth 100000 in
theorem jk_gr_up : gk_jok (gk_M 3) 1 := ⟨gk_mem 2 192 rfl rfl, gk_mem 1 13 rfl rfl, ⟨by decide +kernel, by decide +kernel, by decide +kernel⟩, by decide +kernel⟩
set_option maxRecDepth 100000 in
theorem st_gr_up : Cond.static (gk_M 3).1 ∈ gk_TT := gk_mem 2 191 rfl rfl
set_option maxRecDepth 100000 in
theorem jk_gr_down : gk_jok (gk_M 4) 1 := ⟨gk_mem 2 196 rfl rfl, gk_mem 1 13 rfl rfl, ⟨by decide +kernel, by decide +kernel, by decide +kernel⟩, by decide +kernel⟩
set_option maxRecDepth 100000 in
theorem st_gr_down : Cond.static (gk_M 4).1 ∈ gk_TT := gk_mem 2 195 rfl rfl
set_option maxRecDepth 100000 in
theorem jk_gr_left : gk_jok (gk_M 5) 1 := ⟨gk_mem 2 199 rfl rfl, gk_mem 1 13 rfl rfl, ⟨by decide +kernel, by decide +kernel, by decide +kernel⟩, by decide +kernel⟩
set_option maxRecDepth 100000 in
theorem st_gr_left : Cond.static (gk_M 5).1 ∈ gk_TT := gk_mem 2 198 rfl rfl
set_option maxRecDepth 100000 in
theorem jk_gr_right : gk_jok (gk_M 6) 1 := ⟨gk_mem 2 203 rfl rfl, gk_mem 1 13 rfl rfl, ⟨by decide +kernel, by decide +kernel, by decide +kernel⟩, by decide +kernel⟩
set_option maxRecDepth 100000 in
theorem st_gr_right : Cond.static (gk_M 6).1 ∈ gk_TT := gk_mem 2 202 rfl rfl
set_option maxRecDepth 100000 in
theorem jk_gr_beside : gk_jok (gk_M 7) 1 := ⟨gk_mem 3 73 rfl rfl, gk_mem 1 13 rfl rfl, ⟨by decide +kernel, by decide +kernel, by decide +kernel⟩, by decide +kernel⟩
set_option maxRecDepth 100000 in
theorem st_gr_beside : Cond.static (gk_M 7).1 ∈ gk_TT := gk_mem 3 72 rfl rfl
set_option maxRecDepth 100000 in
theorem jk_gr_firstOf : gk_jok (gk_M 8) 1 := ⟨gk_mem 4 236 rfl rfl, gk_mem 1 13 rfl rfl, ⟨by decide +kernel, by decide +kernel, by decide +kernel⟩, by decide +kernel⟩
set_option maxRecDepth 100000 in
theorem st_gr_firstOf : Cond.static (gk_M 8).1 ∈ gk_TT := gk_mem 4 235 rfl rfl
set_option maxRecDepth 100000 in
theorem jk_gr_wetBeside : gk_jok (gk_M 9) 2 := ⟨gk_mem 3 70 rfl rfl, gk_mem 1 13 rfl rfl, ⟨by decide +kernel, by decide +kernel, by decide +kernel⟩, by decide +kernel⟩
set_option maxRecDepth 100000 in
theorem st_gr_wetBeside : Cond.static (gk_M 9).1 ∈ gk_TT := gk_mem 3 69 rfl rfl
set_option maxRecDepth 100000 in
theorem jk_gr_edges : gk_jok (gk_M 10) 1 := ⟨gk_mem 2 189 rfl rfl, gk_mem 1 13 rfl rfl, ⟨by decide +kernel, by decide +kernel, by decide +kernel⟩, by decide +kernel⟩
set_option maxRecDepth 100000 in
theorem st_gr_edges : Cond.static (gk_M 10).1 ∈ gk_TT := gk_mem 2 188 rfl rfl
set_option maxRecDepth 100000 in
theorem jk_gr_partOf : gk_jok (gk_M 11) 2 := ⟨gk_mem 4 198 rfl rfl, gk_mem 1 13 rfl rfl, ⟨by decide +kernel, by decide +kernel, by decide +kernel⟩, by decide +kernel⟩
set_option maxRecDepth 100000 in
theorem st_gr_partOf : Cond.static (gk_M 11).1 ∈ gk_TT := gk_mem 4 197 rfl rfl
set_option maxRecDepth 100000 in
theorem jk_gr_parts : gk_jok (gk_M 12) 1 := ⟨gk_mem 4 195 rfl rfl, gk_mem 1 13 rfl rfl, ⟨by decide +kernel, by decide +kernel, by decide +kernel⟩, by decide +kernel⟩
set_option maxRecDepth 100000 in
theorem st_gr_parts : Cond.static (gk_M 12).1 ∈ gk_TT := gk_mem 4 194 rfl rfl
set_option maxRecDepth 100000 in
theorem jk_gr_holes : gk_jok (gk_M 13) 1 := ⟨gk_mem 4 201 rfl rfl, gk_mem 1 13 rfl rfl, ⟨by decide +kernel, by decide +kernel, by decide +kernel⟩, by decide +kernel⟩
set_option maxRecDepth 100000 in
theorem st_gr_holes : Cond.static (gk_M 13).1 ∈ gk_TT := gk_mem 4 200 rfl rfl
set_option maxRecDepth 100000 in
theorem jk_gr_shrunk : gk_jok (gk_M 14) 2 := ⟨gk_mem 3 63 rfl rfl, gk_mem 1 13 rfl rfl, ⟨by decide +kernel, by decide +kernel, by decide +kernel⟩, by decide +kernel⟩
set_option maxRecDepth 100000 in
theorem st_gr_shrunk : Cond.static (gk_M 14).1 ∈ gk_TT := gk_mem 3 62 rfl rfl
set_option maxRecDepth 100000 in
theorem jk_gr_depth : gk_jok (gk_M 15) 1 := ⟨gk_mem 4 206 rfl rfl, gk_mem 1 13 rfl rfl, ⟨by decide +kernel, by decide +kernel, by decide +kernel⟩, by decide +kernel⟩
set_option maxRecDepth 100000 in
theorem st_gr_depth : Cond.static (gk_M 15).1 ∈ gk_TT := gk_mem 4 205 rfl rfl
set_option maxRecDepth 100000 in
theorem jk_gr_turnedCell : gk_jok (gk_M 16) 2 := ⟨gk_mem 4 222 rfl rfl, gk_mem 1 13 rfl rfl, ⟨by decide +kernel, by decide +kernel, by decide +kernel⟩, by decide +kernel⟩
set_option maxRecDepth 100000 in
theorem st_gr_turnedCell : Cond.static (gk_M 16).1 ∈ gk_TT := gk_mem 4 221 rfl rfl
set_option maxRecDepth 100000 in
theorem jk_gr_turnedBy : gk_jok (gk_M 17) 2 := ⟨gk_mem 4 218 rfl rfl, gk_mem 1 13 rfl rfl, ⟨by decide +kernel, by decide +kernel, by decide +kernel⟩, by decide +kernel⟩
set_option maxRecDepth 100000 in
theorem st_gr_turnedBy : Cond.static (gk_M 17).1 ∈ gk_TT := gk_mem 4 217 rfl rfl
set_option maxRecDepth 100000 in
theorem jk_gr_cornered : gk_jok (gk_M 18) 1 := ⟨gk_mem 4 214 rfl rfl, gk_mem 1 13 rfl rfl, ⟨by decide +kernel, by decide +kernel, by decide +kernel⟩, by decide +kernel⟩
set_option maxRecDepth 100000 in
theorem st_gr_cornered : Cond.static (gk_M 18).1 ∈ gk_TT := gk_mem 4 213 rfl rfl
set_option maxRecDepth 100000 in
theorem jk_gr_squareCorners : gk_jok (gk_M 19) 2 := ⟨gk_mem 4 232 rfl rfl, gk_mem 1 13 rfl rfl, ⟨by decide +kernel, by decide +kernel, by decide +kernel⟩, by decide +kernel⟩
set_option maxRecDepth 100000 in
theorem st_gr_squareCorners : Cond.static (gk_M 19).1 ∈ gk_TT := gk_mem 4 231 rfl rfl
set_option maxRecDepth 100000 in
theorem jk_gr_squareSide : gk_jok (gk_M 20) 1 := ⟨gk_mem 4 229 rfl rfl, gk_mem 1 13 rfl rfl, ⟨by decide +kernel, by decide +kernel, by decide +kernel⟩, by decide +kernel⟩
set_option maxRecDepth 100000 in
theorem st_gr_squareSide : Cond.static (gk_M 20).1 ∈ gk_TT := gk_mem 4 228 rfl rfl
set_option maxRecDepth 100000 in
theorem jk_gr_squaresFrom : gk_jok (gk_M 21) 2 := ⟨gk_mem 4 239 rfl rfl, gk_mem 1 13 rfl rfl, ⟨by decide +kernel, by decide +kernel, by decide +kernel⟩, by decide +kernel⟩
set_option maxRecDepth 100000 in
theorem st_gr_squaresFrom : Cond.static (gk_M 21).1 ∈ gk_TT := gk_mem 4 238 rfl rfl
set_option maxRecDepth 100000 in
theorem jk_gr_pushed : gk_jok (gk_M 22) 3 := ⟨gk_mem 5 17 rfl rfl, gk_mem 1 13 rfl rfl, ⟨by decide +kernel, by decide +kernel, by decide +kernel⟩, by decide +kernel⟩
set_option maxRecDepth 100000 in
theorem st_gr_pushed : Cond.static (gk_M 22).1 ∈ gk_TT := gk_mem 5 16 rfl rfl
set_option maxRecDepth 100000 in
theorem jk_gr_overlap : gk_jok (gk_M 23) 4 := ⟨gk_mem 5 14 rfl rfl, gk_mem 1 13 rfl rfl, ⟨by decide +kernel, by decide +kernel, by decide +kernel⟩, by decide +kernel⟩
set_option maxRecDepth 100000 in
theorem st_gr_overlap : Cond.static (gk_M 23).1 ∈ gk_TT := gk_mem 5 13 rfl rfl
set_option maxRecDepth 100000 in
theorem jk_gr_couples : gk_jok (gk_M 24) 3 := ⟨gk_mem 5 11 rfl rfl, gk_mem 1 13 rfl rfl, ⟨by decide +kernel, by decide +kernel, by decide +kernel⟩, by decide +kernel⟩
set_option maxRecDepth 100000 in
theorem st_gr_couples : Cond.static (gk_M 24).1 ∈ gk_TT := gk_mem 5 10 rfl rfl
set_option maxRecDepth 100000 in
theorem jk_gr_bestPush : gk_jok (gk_M 25) 2 := ⟨gk_mem 5 8 rfl rfl, gk_mem 1 13 rfl rfl, ⟨by decide +kernel, by decide +kernel, by decide +kernel⟩, by decide +kernel⟩
set_option maxRecDepth 100000 in
theorem st_gr_bestPush : Cond.static (gk_M 25).1 ∈ gk_TT := gk_mem 5 7 rfl rfl
set_option maxRecDepth 100000 in
theorem jk_gr_fewestSteps : gk_jok (gk_M 26) 3 := ⟨gk_mem 5 26 rfl rfl, gk_mem 1 13 rfl rfl, ⟨by decide +kernel, by decide +kernel, by decide +kernel⟩, by decide +kernel⟩
set_option maxRecDepth 100000 in
theorem st_gr_fewestSteps : Cond.static (gk_M 26).1 ∈ gk_TT := gk_mem 5 25 rfl rfl
set_option maxRecDepth 100000 in
theorem jk_gr_fewestTurnings : gk_jok (gk_M 27) 3 := ⟨gk_mem 5 29 rfl rfl, gk_mem 1 13 rfl rfl, ⟨by decide +kernel, by decide +kernel, by decide +kernel⟩, by decide +kernel⟩
set_option maxRecDepth 100000 in
theorem st_gr_fewestTurnings : Cond.static (gk_M 27).1 ∈ gk_TT := gk_mem 5 28 rfl rfl
set_option maxRecDepth 100000 in
theorem jk_gr_straightFrom : gk_jok (gk_M 28) 2 := ⟨gk_mem 5 32 rfl rfl, gk_mem 1 13 rfl rfl, ⟨by decide +kernel, by decide +kernel, by decide +kernel⟩, by decide +kernel⟩
set_option maxRecDepth 100000 in
theorem st_gr_straightFrom : Cond.static (gk_M 28).1 ∈ gk_TT := gk_mem 5 31 rfl rfl
set_option maxRecDepth 100000 in
theorem jk_gr_sumOf : gk_jok (gk_M 29) 2 := ⟨gk_mem 5 39 rfl rfl, gk_mem 1 13 rfl rfl, ⟨by decide +kernel, by decide +kernel, by decide +kernel⟩, by decide +kernel⟩
set_option maxRecDepth 100000 in
theorem st_gr_sumOf : Cond.static (gk_M 29).1 ∈ gk_TT := gk_mem 5 38 rfl rfl
set_option maxRecDepth 100000 in
theorem jk_gr_hasSameSums : gk_jok (gk_M 30) 2 := ⟨gk_mem 5 49 rfl rfl, gk_mem 1 13 rfl rfl, ⟨by decide +kernel, by decide +kernel, by decide +kernel⟩, by decide +kernel⟩
set_option maxRecDepth 100000 in
theorem st_gr_hasSameSums : Cond.static (gk_M 30).1 ∈ gk_TT := gk_mem 5 48 rfl rfl
set_option maxRecDepth 100000 in
theorem jk_gr_firstSwitch : gk_jok (gk_M 31) 1 := ⟨gk_mem 5 42 rfl rfl, gk_mem 1 13 rfl rfl, ⟨by decide +kernel, by decide +kernel, by decide +kernel⟩, by decide +kernel⟩
set_option maxRecDepth 100000 in
theorem st_gr_firstSwitch : Cond.static (gk_M 31).1 ∈ gk_TT := gk_mem 5 41 rfl rfl
set_option maxRecDepth 100000 in
theorem jk_gr_switchColumns : gk_jok (gk_M 32) 2 := ⟨gk_mem 5 46 rfl rfl, gk_mem 1 13 rfl rfl, ⟨by decide +kernel, by decide +kernel, by decide +kernel⟩, by decide +kernel⟩
set_option maxRecDepth 100000 in
theorem st_gr_switchColumns : Cond.static (gk_M 32).1 ∈ gk_TT := gk_mem 5 45 rfl rfl
set_option maxRecDepth 100000 in
theorem jk_gr_isLie : gk_jok (gk_M 33) 3 := ⟨gk_mem 5 98 rfl rfl, gk_mem 1 13 rfl rfl, ⟨by decide +kernel, by decide +kernel, by decide +kernel⟩, by decide +kernel⟩
set_option maxRecDepth 100000 in
theorem st_gr_isLie : Cond.static (gk_M 33).1 ∈ gk_TT := gk_mem 5 97 rfl rfl
set_option maxRecDepth 100000 in
theorem jk_gr_standings : gk_jok (gk_M 34) 1 := ⟨gk_mem 5 108 rfl rfl, gk_mem 1 13 rfl rfl, ⟨by decide +kernel, by decide +kernel, by decide +kernel⟩, by decide +kernel⟩
set_option maxRecDepth 100000 in
theorem st_gr_standings : Cond.static (gk_M 34).1 ∈ gk_TT := gk_mem 5 107 rfl rfl
set_option maxRecDepth 100000 in
theorem jk_gr_rightHeels : gk_jok (gk_M 35) 1 := ⟨gk_mem 5 111 rfl rfl, gk_mem 1 13 rfl rfl, ⟨by decide +kernel, by decide +kernel, by decide +kernel⟩, by decide +kernel⟩
set_option maxRecDepth 100000 in
theorem st_gr_rightHeels : Cond.static (gk_M 35).1 ∈ gk_TT := gk_mem 5 110 rfl rfl
set_option maxRecDepth 100000 in
theorem jk_ke_init : gk_jok (gk_M 36) 4 := ⟨gk_mem 2 39 rfl rfl, gk_mem 1 10 rfl rfl, ⟨by decide +kernel, by decide +kernel, by decide +kernel⟩, by decide +kernel⟩
set_option maxRecDepth 100000 in
theorem im_ke_init : Cond.instanceMethod (gk_M 36).1 ∈ gk_TT := gk_mem 2 38 rfl rfl
set_option maxRecDepth 100000 in
theorem jk_ke_canDo : gk_jok (gk_M 37) 3 := ⟨gk_mem 2 163 rfl rfl, gk_mem 1 10 rfl rfl, ⟨by decide +kernel, by decide +kernel, by decide +kernel⟩, by decide +kernel⟩
set_option maxRecDepth 100000 in
theorem im_ke_canDo : Cond.instanceMethod (gk_M 37).1 ∈ gk_TT := gk_mem 2 161 rfl rfl
set_option maxRecDepth 100000 in
theorem sl_ke_canDo : Cond.selects (gk_M 37).1.cls (gk_M 37).1 (gk_M 37).1 ∈ gk_TT := gk_mem 2 162 rfl rfl
set_option maxRecDepth 100000 in
theorem jk_ke_carryOut : gk_jok (gk_M 38) 3 := ⟨gk_mem 3 13 rfl rfl, gk_mem 1 10 rfl rfl, ⟨by decide +kernel, by decide +kernel, by decide +kernel⟩, by decide +kernel⟩
set_option maxRecDepth 100000 in
theorem im_ke_carryOut : Cond.instanceMethod (gk_M 38).1 ∈ gk_TT := gk_mem 3 11 rfl rfl
set_option maxRecDepth 100000 in
theorem sl_ke_carryOut : Cond.selects (gk_M 38).1.cls (gk_M 38).1 (gk_M 38).1 ∈ gk_TT := gk_mem 3 12 rfl rfl
set_option maxRecDepth 100000 in
theorem jk_ke_purchase : gk_jok (gk_M 39) 2 := ⟨gk_mem 3 17 rfl rfl, gk_mem 1 10 rfl rfl, ⟨by decide +kernel, by decide +kernel, by decide +kernel⟩, by decide +kernel⟩
set_option maxRecDepth 100000 in
theorem im_ke_purchase : Cond.instanceMethod (gk_M 39).1 ∈ gk_TT := gk_mem 3 16 rfl rfl
set_option maxRecDepth 100000 in
theorem sl_ke_purchase : Cond.selects (gk_M 39).1.cls (gk_M 39).1 (gk_M 39).1 ∈ gk_TT := gk_mem 0 3 rfl rfl
set_option maxRecDepth 100000 in
theorem jk_ke_partWith : gk_jok (gk_M 40) 2 := ⟨gk_mem 3 25 rfl rfl, gk_mem 1 10 rfl rfl, ⟨by decide +kernel, by decide +kernel, by decide +kernel⟩, by decide +kernel⟩
set_option maxRecDepth 100000 in
theorem im_ke_partWith : Cond.instanceMethod (gk_M 40).1 ∈ gk_TT := gk_mem 3 24 rfl rfl
set_option maxRecDepth 100000 in
theorem sl_ke_partWith : Cond.selects (gk_M 40).1.cls (gk_M 40).1 (gk_M 40).1 ∈ gk_TT := gk_mem 0 5 rfl rfl
set_option maxRecDepth 100000 in
theorem jk_ke_note : gk_jok (gk_M 41) 3 := ⟨gk_mem 3 21 rfl rfl, gk_mem 1 10 rfl rfl, ⟨by decide +kernel, by decide +kernel, by decide +kernel⟩, by decide +kernel⟩
set_option maxRecDepth 100000 in
theorem im_ke_note : Cond.instanceMethod (gk_M 41).1 ∈ gk_TT := gk_mem 3 20 rfl rfl
set_option maxRecDepth 100000 in
theorem sl_ke_note : Cond.selects (gk_M 41).1.cls (gk_M 41).1 (gk_M 41).1 ∈ gk_TT := gk_mem 0 4 rfl rfl
set_option maxRecDepth 100000 in
theorem jk_ke_passDay : gk_jok (gk_M 42) 0 := ⟨gk_mem 3 41 rfl rfl, gk_mem 1 10 rfl rfl, ⟨by decide +kernel, by decide +kernel, by decide +kernel⟩, by decide +kernel⟩
set_option maxRecDepth 100000 in
theorem im_ke_passDay : Cond.instanceMethod (gk_M 42).1 ∈ gk_TT := gk_mem 3 39 rfl rfl
set_option maxRecDepth 100000 in
theorem sl_ke_passDay : Cond.selects (gk_M 42).1.cls (gk_M 42).1 (gk_M 42).1 ∈ gk_TT := gk_mem 3 40 rfl rfl
set_option maxRecDepth 100000 in
theorem jk_ke_keepDiary : gk_jok (gk_M 43) 0 := ⟨gk_mem 3 45 rfl rfl, gk_mem 1 10 rfl rfl, ⟨by decide +kernel, by decide +kernel, by decide +kernel⟩, by decide +kernel⟩
set_option maxRecDepth 100000 in
theorem im_ke_keepDiary : Cond.instanceMethod (gk_M 43).1 ∈ gk_TT := gk_mem 3 44 rfl rfl
set_option maxRecDepth 100000 in
theorem sl_ke_keepDiary : Cond.selects (gk_M 43).1.cls (gk_M 43).1 (gk_M 43).1 ∈ gk_TT := gk_mem 0 6 rfl rfl
set_option maxRecDepth 100000 in
theorem jk_ke_creepIn : gk_jok (gk_M 44) 1 := ⟨gk_mem 3 60 rfl rfl, gk_mem 1 10 rfl rfl, ⟨by decide +kernel, by decide +kernel, by decide +kernel⟩, by decide +kernel⟩
set_option maxRecDepth 100000 in
theorem im_ke_creepIn : Cond.instanceMethod (gk_M 44).1 ∈ gk_TT := gk_mem 3 59 rfl rfl
set_option maxRecDepth 100000 in
theorem sl_ke_creepIn : Cond.selects (gk_M 44).1.cls (gk_M 44).1 (gk_M 44).1 ∈ gk_TT := gk_mem 0 7 rfl rfl
set_option maxRecDepth 100000 in
theorem jk_ke_isHit : gk_jok (gk_M 45) 1 := ⟨gk_mem 3 77 rfl rfl, gk_mem 1 10 rfl rfl, ⟨by decide +kernel, by decide +kernel, by decide +kernel⟩, by decide +kernel⟩
set_option maxRecDepth 100000 in
theorem im_ke_isHit : Cond.instanceMethod (gk_M 45).1 ∈ gk_TT := gk_mem 3 76 rfl rfl
set_option maxRecDepth 100000 in
theorem sl_ke_isHit : Cond.selects (gk_M 45).1.cls (gk_M 45).1 (gk_M 45).1 ∈ gk_TT := gk_mem 0 8 rfl rfl
set_option maxRecDepth 100000 in
theorem jk_ke_receive : gk_jok (gk_M 46) 1 := ⟨gk_mem 3 88 rfl rfl, gk_mem 1 10 rfl rfl, ⟨by decide +kernel, by decide +kernel, by decide +kernel⟩, by decide +kernel⟩
set_option maxRecDepth 100000 in
theorem im_ke_receive : Cond.instanceMethod (gk_M 46).1 ∈ gk_TT := gk_mem 3 87 rfl rfl
set_option maxRecDepth 100000 in
theorem sl_ke_receive : Cond.selects (gk_M 46).1.cls (gk_M 46).1 (gk_M 46).1 ∈ gk_TT := gk_mem 0 9 rfl rfl
set_option maxRecDepth 100000 in
theorem jk_la_init : gk_jok (gk_M 47) 0 := ⟨gk_mem 1 120 rfl rfl, gk_mem 1 5 rfl rfl, ⟨by decide +kernel, by decide +kernel, by decide +kernel⟩, by decide +kernel⟩
set_option maxRecDepth 100000 in
theorem im_la_init : Cond.instanceMethod (gk_M 47).1 ∈ gk_TT := gk_mem 1 119 rfl rfl
set_option maxRecDepth 100000 in
theorem jk_la_clear : gk_jok (gk_M 48) 0 := ⟨gk_mem 3 124 rfl rfl, gk_mem 1 5 rfl rfl, ⟨by decide +kernel, by decide +kernel, by decide +kernel⟩, by decide +kernel⟩
set_option maxRecDepth 100000 in
theorem im_la_clear : Cond.instanceMethod (gk_M 48).1 ∈ gk_TT := gk_mem 3 122 rfl rfl
set_option maxRecDepth 100000 in
theorem sl_la_clear : Cond.selects (gk_M 48).1.cls (gk_M 48).1 (gk_M 48).1 ∈ gk_TT := gk_mem 3 123 rfl rfl
set_option maxRecDepth 100000 in
theorem jk_la_copy : gk_jok (gk_M 49) 1 := ⟨gk_mem 4 136 rfl rfl, gk_mem 1 5 rfl rfl, ⟨by decide +kernel, by decide +kernel, by decide +kernel⟩, by decide +kernel⟩
set_option maxRecDepth 100000 in
theorem im_la_copy : Cond.instanceMethod (gk_M 49).1 ∈ gk_TT := gk_mem 4 134 rfl rfl
set_option maxRecDepth 100000 in
theorem sl_la_copy : Cond.selects (gk_M 49).1.cls (gk_M 49).1 (gk_M 49).1 ∈ gk_TT := gk_mem 4 135 rfl rfl
set_option maxRecDepth 100000 in
theorem jk_la_begin : gk_jok (gk_M 50) 1 := ⟨gk_mem 4 35 rfl rfl, gk_mem 1 5 rfl rfl, ⟨by decide +kernel, by decide +kernel, by decide +kernel⟩, by decide +kernel⟩
set_option maxRecDepth 100000 in
theorem im_la_begin : Cond.instanceMethod (gk_M 50).1 ∈ gk_TT := gk_mem 4 33 rfl rfl
set_option maxRecDepth 100000 in
theorem sl_la_begin : Cond.selects (gk_M 50).1.cls (gk_M 50).1 (gk_M 50).1 ∈ gk_TT := gk_mem 4 34 rfl rfl
set_option maxRecDepth 100000 in
theorem jk_la_beginWhen : gk_jok (gk_M 51) 0 := ⟨gk_mem 4 68 rfl rfl, gk_mem 1 5 rfl rfl, ⟨by decide +kernel, by decide +kernel, by decide +kernel⟩, by decide +kernel⟩
set_option maxRecDepth 100000 in
theorem im_la_beginWhen : Cond.instanceMethod (gk_M 51).1 ∈ gk_TT := gk_mem 4 66 rfl rfl
set_option maxRecDepth 100000 in
theorem sl_la_beginWhen : Cond.selects (gk_M 51).1.cls (gk_M 51).1 (gk_M 51).1 ∈ gk_TT := gk_mem 4 67 rfl rfl
set_option maxRecDepth 100000 in
theorem jk_la_finish : gk_jok (gk_M 52) 0 := ⟨gk_mem 4 88 rfl rfl, gk_mem 1 5 rfl rfl, ⟨by decide +kernel, by decide +kernel, by decide +kernel⟩, by decide +kernel⟩
set_option maxRecDepth 100000 in
theorem im_la_finish : Cond.instanceMethod (gk_M 52).1 ∈ gk_TT := gk_mem 4 86 rfl rfl
set_option maxRecDepth 100000 in
theorem sl_la_finish : Cond.selects (gk_M 52).1.cls (gk_M 52).1 (gk_M 52).1 ∈ gk_TT := gk_mem 4 87 rfl rfl
set_option maxRecDepth 100000 in
theorem jk_la_add : gk_jok (gk_M 53) 2 := ⟨gk_mem 4 51 rfl rfl, gk_mem 1 5 rfl rfl, ⟨by decide +kernel, by decide +kernel, by decide +kernel⟩, by decide +kernel⟩
set_option maxRecDepth 100000 in
theorem im_la_add : Cond.instanceMethod (gk_M 53).1 ∈ gk_TT := gk_mem 4 49 rfl rfl
set_option maxRecDepth 100000 in
theorem sl_la_add : Cond.selects (gk_M 53).1.cls (gk_M 53).1 (gk_M 53).1 ∈ gk_TT := gk_mem 4 50 rfl rfl
set_option maxRecDepth 100000 in
theorem jk_pa_init : gk_jok (gk_M 54) 1 := ⟨gk_mem 1 230 rfl rfl, gk_mem 1 8 rfl rfl, ⟨by decide +kernel, by decide +kernel, by decide +kernel⟩, by decide +kernel⟩
set_option maxRecDepth 100000 in
theorem im_pa_init : Cond.instanceMethod (gk_M 54).1 ∈ gk_TT := gk_mem 1 229 rfl rfl
set_option maxRecDepth 100000 in
theorem jk_pa_parse : gk_jok (gk_M 55) 2 := ⟨gk_mem 3 116 rfl rfl, gk_mem 1 8 rfl rfl, ⟨by decide +kernel, by decide +kernel, by decide +kernel⟩, by decide +kernel⟩
set_option maxRecDepth 100000 in
theorem im_pa_parse : Cond.instanceMethod (gk_M 55).1 ∈ gk_TT := gk_mem 3 114 rfl rfl
set_option maxRecDepth 100000 in
theorem sl_pa_parse : Cond.selects (gk_M 55).1.cls (gk_M 55).1 (gk_M 55).1 ∈ gk_TT := gk_mem 3 115 rfl rfl
set_option maxRecDepth 100000 in
theorem jk_pa_canBegin : gk_jok (gk_M 56) 1 := ⟨gk_mem 4 22 rfl rfl, gk_mem 1 8 rfl rfl, ⟨by decide +kernel, by decide +kernel, by decide +kernel⟩, by decide +kernel⟩
set_option maxRecDepth 100000 in
theorem im_pa_canBegin : Cond.instanceMethod (gk_M 56).1 ∈ gk_TT := gk_mem 4 21 rfl rfl
set_option maxRecDepth 100000 in
theorem sl_pa_canBegin : Cond.selects (gk_M 56).1.cls (gk_M 56).1 (gk_M 56).1 ∈ gk_TT := gk_mem 0 16 rfl rfl
set_option maxRecDepth 100000 in
theorem jk_pa_refuse : gk_jok (gk_M 57) 1 := ⟨gk_mem 4 26 rfl rfl, gk_mem 1 8 rfl rfl, ⟨by decide +kernel, by decide +kernel, by decide +kernel⟩, by decide +kernel⟩
set_option maxRecDepth 100000 in
theorem im_pa_refuse : Cond.instanceMethod (gk_M 57).1 ∈ gk_TT := gk_mem 4 25 rfl rfl
set_option maxRecDepth 100000 in
theorem sl_pa_refuse : Cond.selects (gk_M 57).1.cls (gk_M 57).1 (gk_M 57).1 ∈ gk_TT := gk_mem 0 17 rfl rfl
set_option maxRecDepth 100000 in
theorem jk_pa_step : gk_jok (gk_M 58) 0 := ⟨gk_mem 4 39 rfl rfl, gk_mem 1 8 rfl rfl, ⟨by decide +kernel, by decide +kernel, by decide +kernel⟩, by decide +kernel⟩
set_option maxRecDepth 100000 in
theorem im_pa_step : Cond.instanceMethod (gk_M 58).1 ∈ gk_TT := gk_mem 4 38 rfl rfl
set_option maxRecDepth 100000 in
theorem sl_pa_step : Cond.selects (gk_M 58).1.cls (gk_M 58).1 (gk_M 58).1 ∈ gk_TT := gk_mem 0 19 rfl rfl
set_option maxRecDepth 100000 in
theorem jk_pa_take : gk_jok (gk_M 59) 1 := ⟨gk_mem 4 80 rfl rfl, gk_mem 1 8 rfl rfl, ⟨by decide +kernel, by decide +kernel, by decide +kernel⟩, by decide +kernel⟩
set_option maxRecDepth 100000 in
theorem im_pa_take : Cond.instanceMethod (gk_M 59).1 ∈ gk_TT := gk_mem 4 79 rfl rfl
set_option maxRecDepth 100000 in
theorem sl_pa_take : Cond.selects (gk_M 59).1.cls (gk_M 59).1 (gk_M 59).1 ∈ gk_TT := gk_mem 0 27 rfl rfl
set_option maxRecDepth 100000 in
theorem jk_pa_takeNumber : gk_jok (gk_M 60) 3 := ⟨gk_mem 4 59 rfl rfl, gk_mem 1 8 rfl rfl, ⟨by decide +kernel, by decide +kernel, by decide +kernel⟩, by decide +kernel⟩
set_option maxRecDepth 100000 in
theorem im_pa_takeNumber : Cond.instanceMethod (gk_M 60).1 ∈ gk_TT := gk_mem 4 58 rfl rfl
set_option maxRecDepth 100000 in
theorem sl_pa_takeNumber : Cond.selects (gk_M 60).1.cls (gk_M 60).1 (gk_M 60).1 ∈ gk_TT := gk_mem 0 23 rfl rfl
set_option maxRecDepth 100000 in
theorem jk_pa_takePlace : gk_jok (gk_M 61) 1 := ⟨gk_mem 4 112 rfl rfl, gk_mem 1 8 rfl rfl, ⟨by decide +kernel, by decide +kernel, by decide +kernel⟩, by decide +kernel⟩
set_option maxRecDepth 100000 in
theorem im_pa_takePlace : Cond.instanceMethod (gk_M 61).1 ∈ gk_TT := gk_mem 4 111 rfl rfl
set_option maxRecDepth 100000 in
theorem sl_pa_takePlace : Cond.selects (gk_M 61).1.cls (gk_M 61).1 (gk_M 61).1 ∈ gk_TT := gk_mem 0 33 rfl rfl
set_option maxRecDepth 100000 in
theorem jk_pa_takeRoom : gk_jok (gk_M 62) 1 := ⟨gk_mem 4 96 rfl rfl, gk_mem 1 8 rfl rfl, ⟨by decide +kernel, by decide +kernel, by decide +kernel⟩, by decide +kernel⟩
set_option maxRecDepth 100000 in
theorem im_pa_takeRoom : Cond.instanceMethod (gk_M 62).1 ∈ gk_TT := gk_mem 4 95 rfl rfl
set_option maxRecDepth 100000 in
theorem sl_pa_takeRoom : Cond.selects (gk_M 62).1.cls (gk_M 62).1 (gk_M 62).1 ∈ gk_TT := gk_mem 0 30 rfl rfl
set_option maxRecDepth 100000 in
theorem jk_pa_readPassage : gk_jok (gk_M 63) 0 := ⟨gk_mem 4 92 rfl rfl, gk_mem 1 8 rfl rfl, ⟨by decide +kernel, by decide +kernel, by decide +kernel⟩, by decide +kernel⟩
set_option maxRecDepth 100000 in
theorem im_pa_readPassage : Cond.instanceMethod (gk_M 63).1 ∈ gk_TT := gk_mem 4 91 rfl rfl
set_option maxRecDepth 100000 in
theorem sl_pa_readPassage : Cond.selects (gk_M 63).1.cls (gk_M 63).1 (gk_M 63).1 ∈ gk_TT := gk_mem 0 29 rfl rfl
set_option maxRecDepth 100000 in
theorem jk_pa_readVoucher : gk_jok (gk_M 64) 0 := ⟨gk_mem 4 124 rfl rfl, gk_mem 1 8 rfl rfl, ⟨by decide +kernel, by decide +kernel, by decide +kernel⟩, by decide +kernel⟩
set_option maxRecDepth 100000 in
theorem im_pa_readVoucher : Cond.instanceMethod (gk_M 64).1 ∈ gk_TT := gk_mem 4 123 rfl rfl
set_option maxRecDepth 100000 in
theorem sl_pa_readVoucher : Cond.selects (gk_M 64).1.cls (gk_M 64).1 (gk_M 64).1 ∈ gk_TT := gk_mem 0 35 rfl rfl
set_option maxRecDepth 100000 in
theorem jk_pa_readEntry : gk_jok (gk_M 65) 0 := ⟨gk_mem 4 104 rfl rfl, gk_mem 1 8 rfl rfl, ⟨by decide +kernel, by decide +kernel, by decide +kernel⟩, by decide +kernel⟩
set_option maxRecDepth 100000 in
theorem im_pa_readEntry : Cond.instanceMethod (gk_M 65).1 ∈ gk_TT := gk_mem 4 103 rfl rfl
set_option maxRecDepth 100000 in
theorem sl_pa_readEntry : Cond.selects (gk_M 65).1.cls (gk_M 65).1 (gk_M 65).1 ∈ gk_TT := gk_mem 0 31 rfl rfl
set_option maxRecDepth 100000 in
theorem jk_pa_actOfWord : gk_jok (gk_M 66) 0 := ⟨gk_mem 4 108 rfl rfl, gk_mem 1 8 rfl rfl, ⟨by decide +kernel, by decide +kernel, by decide +kernel⟩, by decide +kernel⟩
set_option maxRecDepth 100000 in
theorem im_pa_actOfWord : Cond.instanceMethod (gk_M 66).1 ∈ gk_TT := gk_mem 4 107 rfl rfl
set_option maxRecDepth 100000 in
theorem sl_pa_actOfWord : Cond.selects (gk_M 66).1.cls (gk_M 66).1 (gk_M 66).1 ∈ gk_TT := gk_mem 0 32 rfl rfl
set_option maxRecDepth 100000 in
theorem jk_pa_takeDetail : gk_jok (gk_M 67) 1 := ⟨gk_mem 4 116 rfl rfl, gk_mem 1 8 rfl rfl, ⟨by decide +kernel, by decide +kernel, by decide +kernel⟩, by decide +kernel⟩
set_option maxRecDepth 100000 in
theorem im_pa_takeDetail : Cond.instanceMethod (gk_M 67).1 ∈ gk_TT := gk_mem 4 115 rfl rfl
set_option maxRecDepth 100000 in
theorem sl_pa_takeDetail : Cond.selects (gk_M 67).1.cls (gk_M 67).1 (gk_M 67).1 ∈ gk_TT := gk_mem 0 34 rfl rfl
set_option maxRecDepth 100000 in
theorem jk_pa_readLaw : gk_jok (gk_M 68) 0 := ⟨gk_mem 4 31 rfl rfl, gk_mem 1 8 rfl rfl, ⟨by decide +kernel, by decide +kernel, by decide +kernel⟩, by decide +kernel⟩
set_option maxRecDepth 100000 in
theorem im_pa_readLaw : Cond.instanceMethod (gk_M 68).1 ∈ gk_TT := gk_mem 4 30 rfl rfl
set_option maxRecDepth 100000 in
theorem sl_pa_readLaw : Cond.selects (gk_M 68).1.cls (gk_M 68).1 (gk_M 68).1 ∈ gk_TT := gk_mem 0 18 rfl rfl
set_option maxRecDepth 100000 in
theorem jk_pa_readCondition : gk_jok (gk_M 69) 1 := ⟨gk_mem 4 72 rfl rfl, gk_mem 1 8 rfl rfl, ⟨by decide +kernel, by decide +kernel, by decide +kernel⟩, by decide +kernel⟩
set_option maxRecDepth 100000 in
theorem im_pa_readCondition : Cond.instanceMethod (gk_M 69).1 ∈ gk_TT := gk_mem 4 71 rfl rfl
set_option maxRecDepth 100000 in
theorem sl_pa_readCondition : Cond.selects (gk_M 69).1.cls (gk_M 69).1 (gk_M 69).1 ∈ gk_TT := gk_mem 0 25 rfl rfl
set_option maxRecDepth 100000 in
theorem jk_pa_readOne : gk_jok (gk_M 70) 1 := ⟨gk_mem 4 76 rfl rfl, gk_mem 1 8 rfl rfl, ⟨by decide +kernel, by decide +kernel, by decide +kernel⟩, by decide +kernel⟩
set_option maxRecDepth 100000 in
theorem im_pa_readOne : Cond.instanceMethod (gk_M 70).1 ∈ gk_TT := gk_mem 4 75 rfl rfl
set_option maxRecDepth 100000 in
theorem sl_pa_readOne : Cond.selects (gk_M 70).1.cls (gk_M 70).1 (gk_M 70).1 ∈ gk_TT := gk_mem 0 26 rfl rfl
set_option maxRecDepth 100000 in
theorem jk_pa_comparison : gk_jok (gk_M 71) 0 := ⟨gk_mem 4 84 rfl rfl, gk_mem 1 8 rfl rfl, ⟨by decide +kernel, by decide +kernel, by decide +kernel⟩, by decide +kernel⟩
set_option maxRecDepth 100000 in
theorem im_pa_comparison : Cond.instanceMethod (gk_M 71).1 ∈ gk_TT := gk_mem 4 83 rfl rfl
set_option maxRecDepth 100000 in
theorem sl_pa_comparison : Cond.selects (gk_M 71).1.cls (gk_M 71).1 (gk_M 71).1 ∈ gk_TT := gk_mem 0 28 rfl rfl
set_option maxRecDepth 100000 in
theorem jk_pa_readSum : gk_jok (gk_M 72) 0 := ⟨gk_mem 4 43 rfl rfl, gk_mem 1 8 rfl rfl, ⟨by decide +kernel, by decide +kernel, by decide +kernel⟩, by decide +kernel⟩
set_option maxRecDepth 100000 in
theorem im_pa_readSum : Cond.instanceMethod (gk_M 72).1 ∈ gk_TT := gk_mem 4 42 rfl rfl
set_option maxRecDepth 100000 in
theorem sl_pa_readSum : Cond.selects (gk_M 72).1.cls (gk_M 72).1 (gk_M 72).1 ∈ gk_TT := gk_mem 0 20 rfl rfl
set_option maxRecDepth 100000 in
theorem jk_pa_addWaiting : gk_jok (gk_M 73) 1 := ⟨gk_mem 4 64 rfl rfl, gk_mem 1 8 rfl rfl, ⟨by decide +kernel, by decide +kernel, by decide +kernel⟩, by decide +kernel⟩
set_option maxRecDepth 100000 in
theorem im_pa_addWaiting : Cond.instanceMethod (gk_M 73).1 ∈ gk_TT := gk_mem 4 63 rfl rfl
set_option maxRecDepth 100000 in
theorem sl_pa_addWaiting : Cond.selects (gk_M 73).1.cls (gk_M 73).1 (gk_M 73).1 ∈ gk_TT := gk_mem 0 24 rfl rfl
set_option maxRecDepth 100000 in
theorem jk_pa_isReckoning : gk_jok (gk_M 74) 0 := ⟨gk_mem 4 55 rfl rfl, gk_mem 1 8 rfl rfl, ⟨by decide +kernel, by decide +kernel, by decide +kernel⟩, by decide +kernel⟩
set_option maxRecDepth 100000 in
theorem im_pa_isReckoning : Cond.instanceMethod (gk_M 74).1 ∈ gk_TT := gk_mem 4 54 rfl rfl
set_option maxRecDepth 100000 in
theorem sl_pa_isReckoning : Cond.selects (gk_M 74).1.cls (gk_M 74).1 (gk_M 74).1 ∈ gk_TT := gk_mem 0 22 rfl rfl
set_option maxRecDepth 100000 in
theorem jk_pa_readUnit : gk_jok (gk_M 75) 0 := ⟨gk_mem 4 47 rfl rfl, gk_mem 1 8 rfl rfl, ⟨by decide +kernel, by decide +kernel, by decide +kernel⟩, by decide +kernel⟩
set_option maxRecDepth 100000 in
theorem im_pa_readUnit : Cond.instanceMethod (gk_M 75).1 ∈ gk_TT := gk_mem 4 46 rfl rfl
set_option maxRecDepth 100000 in
theorem sl_pa_readUnit : Cond.selects (gk_M 75).1.cls (gk_M 75).1 (gk_M 75).1 ∈ gk_TT := gk_mem 0 21 rfl rfl
set_option maxRecDepth 100000 in
theorem jk_ps_init : gk_jok (gk_M 76) 0 := ⟨gk_mem 1 180 rfl rfl, gk_mem 1 6 rfl rfl, ⟨by decide +kernel, by decide +kernel, by decide +kernel⟩, by decide +kernel⟩
set_option maxRecDepth 100000 in
theorem im_ps_init : Cond.instanceMethod (gk_M 76).1 ∈ gk_TT := gk_mem 1 179 rfl rfl
set_option maxRecDepth 100000 in
theorem jk_ps_keep : gk_jok (gk_M 77) 1 := ⟨gk_mem 3 2 rfl rfl, gk_mem 1 6 rfl rfl, ⟨by decide +kernel, by decide +kernel, by decide +kernel⟩, by decide +kernel⟩
set_option maxRecDepth 100000 in
theorem im_ps_keep : Cond.instanceMethod (gk_M 77).1 ∈ gk_TT := gk_mem 3 0 rfl rfl
set_option maxRecDepth 100000 in
theorem sl_ps_keep : Cond.selects (gk_M 77).1.cls (gk_M 77).1 (gk_M 77).1 ∈ gk_TT := gk_mem 3 1 rfl rfl
set_option maxRecDepth 100000 in
theorem jk_ps_goBack : gk_jok (gk_M 78) 1 := ⟨gk_mem 5 130 rfl rfl, gk_mem 1 6 rfl rfl, ⟨by decide +kernel, by decide +kernel, by decide +kernel⟩, by decide +kernel⟩
set_option maxRecDepth 100000 in
theorem im_ps_goBack : Cond.instanceMethod (gk_M 78).1 ∈ gk_TT := gk_mem 5 128 rfl rfl
set_option maxRecDepth 100000 in
theorem sl_ps_goBack : Cond.selects (gk_M 78).1.cls (gk_M 78).1 (gk_M 78).1 ∈ gk_TT := gk_mem 5 129 rfl rfl
set_option maxRecDepth 100000 in
theorem jk_ps_forget : gk_jok (gk_M 79) 0 := ⟨gk_mem 2 126 rfl rfl, gk_mem 1 6 rfl rfl, ⟨by decide +kernel, by decide +kernel, by decide +kernel⟩, by decide +kernel⟩
set_option maxRecDepth 100000 in
theorem im_ps_forget : Cond.instanceMethod (gk_M 79).1 ∈ gk_TT := gk_mem 2 124 rfl rfl
set_option maxRecDepth 100000 in
theorem sl_ps_forget : Cond.selects (gk_M 79).1.cls (gk_M 79).1 (gk_M 79).1 ∈ gk_TT := gk_mem 2 125 rfl rfl
set_option maxRecDepth 100000 in
theorem jk_ta_init : gk_jok (gk_M 80) 0 := ⟨gk_mem 1 200 rfl rfl, gk_mem 1 7 rfl rfl, ⟨by decide +kernel, by decide +kernel, by decide +kernel⟩, by decide +kernel⟩
set_option maxRecDepth 100000 in
theorem im_ta_init : Cond.instanceMethod (gk_M 80).1 ∈ gk_TT := gk_mem 1 199 rfl rfl
set_option maxRecDepth 100000 in
theorem jk_ta_hasSpaceForFive : gk_jok (gk_M 81) 0 := ⟨gk_mem 3 100 rfl rfl, gk_mem 1 7 rfl rfl, ⟨by decide +kernel, by decide +kernel, by decide +kernel⟩, by decide +kernel⟩
set_option maxRecDepth 100000 in
theorem im_ta_hasSpaceForFive : Cond.instanceMethod (gk_M 81).1 ∈ gk_TT := gk_mem 3 98 rfl rfl
set_option maxRecDepth 100000 in
theorem sl_ta_hasSpaceForFive : Cond.selects (gk_M 81).1.cls (gk_M 81).1 (gk_M 81).1 ∈ gk_TT := gk_mem 3 99 rfl rfl
set_option maxRecDepth 100000 in
theorem jk_ta_append : gk_jok (gk_M 82) 1 := ⟨gk_mem 3 104 rfl rfl, gk_mem 1 7 rfl rfl, ⟨by decide +kernel, by decide +kernel, by decide +kernel⟩, by decide +kernel⟩
set_option maxRecDepth 100000 in
theorem im_ta_append : Cond.instanceMethod (gk_M 82).1 ∈ gk_TT := gk_mem 3 102 rfl rfl
set_option maxRecDepth 100000 in
theorem sl_ta_append : Cond.selects (gk_M 82).1.cls (gk_M 82).1 (gk_M 82).1 ∈ gk_TT := gk_mem 3 103 rfl rfl
set_option maxRecDepth 100000 in
theorem jk_ta_cutUp : gk_jok (gk_M 83) 0 := ⟨gk_mem 3 129 rfl rfl, gk_mem 1 7 rfl rfl, ⟨by decide +kernel, by decide +kernel, by decide +kernel⟩, by decide +kernel⟩
set_option maxRecDepth 100000 in
theorem im_ta_cutUp : Cond.instanceMethod (gk_M 83).1 ∈ gk_TT := gk_mem 3 127 rfl rfl
set_option maxRecDepth 100000 in
theorem sl_ta_cutUp : Cond.selects (gk_M 83).1.cls (gk_M 83).1 (gk_M 83).1 ∈ gk_TT := gk_mem 3 128 rfl rfl
set_option maxRecDepth 100000 in
theorem jk_ta_skipBlanks : gk_jok (gk_M 84) 0 := ⟨gk_mem 3 133 rfl rfl, gk_mem 1 7 rfl rfl, ⟨by decide +kernel, by decide +kernel, by decide +kernel⟩, by decide +kernel⟩
set_option maxRecDepth 100000 in
theorem im_ta_skipBlanks : Cond.instanceMethod (gk_M 84).1 ∈ gk_TT := gk_mem 3 132 rfl rfl
set_option maxRecDepth 100000 in
theorem sl_ta_skipBlanks : Cond.selects (gk_M 84).1.cls (gk_M 84).1 (gk_M 84).1 ∈ gk_TT := gk_mem 0 10 rfl rfl
set_option maxRecDepth 100000 in
theorem jk_ta_readWord : gk_jok (gk_M 85) 1 := ⟨gk_mem 3 141 rfl rfl, gk_mem 1 7 rfl rfl, ⟨by decide +kernel, by decide +kernel, by decide +kernel⟩, by decide +kernel⟩
set_option maxRecDepth 100000 in
theorem im_ta_readWord : Cond.instanceMethod (gk_M 85).1 ∈ gk_TT := gk_mem 3 140 rfl rfl
set_option maxRecDepth 100000 in
theorem sl_ta_readWord : Cond.selects (gk_M 85).1.cls (gk_M 85).1 (gk_M 85).1 ∈ gk_TT := gk_mem 0 12 rfl rfl
set_option maxRecDepth 100000 in
theorem jk_ta_isWordAt : gk_jok (gk_M 86) 3 := ⟨gk_mem 3 194 rfl rfl, gk_mem 1 7 rfl rfl, ⟨by decide +kernel, by decide +kernel, by decide +kernel⟩, by decide +kernel⟩
set_option maxRecDepth 100000 in
theorem im_ta_isWordAt : Cond.instanceMethod (gk_M 86).1 ∈ gk_TT := gk_mem 3 193 rfl rfl
set_option maxRecDepth 100000 in
theorem sl_ta_isWordAt : Cond.selects (gk_M 86).1.cls (gk_M 86).1 (gk_M 86).1 ∈ gk_TT := gk_mem 0 13 rfl rfl
set_option maxRecDepth 100000 in
theorem jk_ta_readNumber : gk_jok (gk_M 87) 1 := ⟨gk_mem 3 202 rfl rfl, gk_mem 1 7 rfl rfl, ⟨by decide +kernel, by decide +kernel, by decide +kernel⟩, by decide +kernel⟩
set_option maxRecDepth 100000 in
theorem im_ta_readNumber : Cond.instanceMethod (gk_M 87).1 ∈ gk_TT := gk_mem 3 201 rfl rfl
set_option maxRecDepth 100000 in
theorem sl_ta_readNumber : Cond.selects (gk_M 87).1.cls (gk_M 87).1 (gk_M 87).1 ∈ gk_TT := gk_mem 0 15 rfl rfl
set_option maxRecDepth 100000 in
theorem jk_ta_isLetter : gk_jok (gk_M 88) 1 := ⟨gk_mem 3 137 rfl rfl, gk_mem 1 7 rfl rfl, ⟨by decide +kernel, by decide +kernel, by decide +kernel⟩, by decide +kernel⟩
set_option maxRecDepth 100000 in
theorem im_ta_isLetter : Cond.instanceMethod (gk_M 88).1 ∈ gk_TT := gk_mem 3 136 rfl rfl
set_option maxRecDepth 100000 in
theorem sl_ta_isLetter : Cond.selects (gk_M 88).1.cls (gk_M 88).1 (gk_M 88).1 ∈ gk_TT := gk_mem 0 11 rfl rfl
set_option maxRecDepth 100000 in
theorem jk_ta_isDigit : gk_jok (gk_M 89) 1 := ⟨gk_mem 3 198 rfl rfl, gk_mem 1 7 rfl rfl, ⟨by decide +kernel, by decide +kernel, by decide +kernel⟩, by decide +kernel⟩
set_option maxRecDepth 100000 in
theorem im_ta_isDigit : Cond.instanceMethod (gk_M 89).1 ∈ gk_TT := gk_mem 3 197 rfl rfl
set_option maxRecDepth 100000 in
theorem sl_ta_isDigit : Cond.selects (gk_M 89).1.cls (gk_M 89).1 (gk_M 89).1 ∈ gk_TT := gk_mem 0 14 rfl rfl
set_option maxRecDepth 100000 in
theorem jk_te_init : gk_jok (gk_M 90) 1 := ⟨gk_mem 2 23 rfl rfl, gk_mem 1 9 rfl rfl, ⟨by decide +kernel, by decide +kernel, by decide +kernel⟩, by decide +kernel⟩
set_option maxRecDepth 100000 in
theorem im_te_init : Cond.instanceMethod (gk_M 90).1 ∈ gk_TT := gk_mem 2 22 rfl rfl
set_option maxRecDepth 100000 in
theorem jk_te_worthOf : gk_jok (gk_M 91) 2 := ⟨gk_mem 2 176 rfl rfl, gk_mem 1 9 rfl rfl, ⟨by decide +kernel, by decide +kernel, by decide +kernel⟩, by decide +kernel⟩
set_option maxRecDepth 100000 in
theorem im_te_worthOf : Cond.instanceMethod (gk_M 91).1 ∈ gk_TT := gk_mem 2 174 rfl rfl
set_option maxRecDepth 100000 in
theorem sl_te_worthOf : Cond.selects (gk_M 91).1.cls (gk_M 91).1 (gk_M 91).1 ∈ gk_TT := gk_mem 2 175 rfl rfl
set_option maxRecDepth 100000 in
theorem jk_te_comersTo : gk_jok (gk_M 92) 2 := ⟨gk_mem 3 92 rfl rfl, gk_mem 1 9 rfl rfl, ⟨by decide +kernel, by decide +kernel, by decide +kernel⟩, by decide +kernel⟩
set_option maxRecDepth 100000 in
theorem im_te_comersTo : Cond.instanceMethod (gk_M 92).1 ∈ gk_TT := gk_mem 3 90 rfl rfl
set_option maxRecDepth 100000 in
theorem sl_te_comersTo : Cond.selects (gk_M 92).1.cls (gk_M 92).1 (gk_M 92).1 ∈ gk_TT := gk_mem 3 91 rfl rfl
set_option maxRecDepth 100000 in
theorem jk_te_chanceIn : gk_jok (gk_M 93) 3 := ⟨gk_mem 3 67 rfl rfl, gk_mem 1 9 rfl rfl, ⟨by decide +kernel, by decide +kernel, by decide +kernel⟩, by decide +kernel⟩
set_option maxRecDepth 100000 in
theorem im_te_chanceIn : Cond.instanceMethod (gk_M 93).1 ∈ gk_TT := gk_mem 3 65 rfl rfl
set_option maxRecDepth 100000 in
theorem sl_te_chanceIn : Cond.selects (gk_M 93).1.cls (gk_M 93).1 (gk_M 93).1 ∈ gk_TT := gk_mem 3 66 rfl rfl
set_option maxRecDepth 100000 in
theorem jk_te_held : gk_jok (gk_M 94) 2 := ⟨gk_mem 2 226 rfl rfl, gk_mem 1 9 rfl rfl, ⟨by decide +kernel, by decide +kernel, by decide +kernel⟩, by decide +kernel⟩
set_option maxRecDepth 100000 in
theorem st_te_held : Cond.static (gk_M 94).1 ∈ gk_TT := gk_mem 2 225 rfl rfl
set_option maxRecDepth 100000 in
theorem jk_te_face : gk_jok (gk_M 95) 3 := ⟨gk_mem 2 180 rfl rfl, gk_mem 1 9 rfl rfl, ⟨by decide +kernel, by decide +kernel, by decide +kernel⟩, by decide +kernel⟩
set_option maxRecDepth 100000 in
theorem im_te_face : Cond.instanceMethod (gk_M 95).1 ∈ gk_TT := gk_mem 2 179 rfl rfl
set_option maxRecDepth 100000 in
theorem sl_te_face : Cond.selects (gk_M 95).1.cls (gk_M 95).1 (gk_M 95).1 ∈ gk_TT := gk_mem 0 0 rfl rfl
set_option maxRecDepth 100000 in
theorem jk_te_ask : gk_jok (gk_M 96) 2 := ⟨gk_mem 2 213 rfl rfl, gk_mem 1 9 rfl rfl, ⟨by decide +kernel, by decide +kernel, by decide +kernel⟩, by decide +kernel⟩
set_option maxRecDepth 100000 in
theorem im_te_ask : Cond.instanceMethod (gk_M 96).1 ∈ gk_TT := gk_mem 2 212 rfl rfl
set_option maxRecDepth 100000 in
theorem sl_te_ask : Cond.selects (gk_M 96).1.cls (gk_M 96).1 (gk_M 96).1 ∈ gk_TT := gk_mem 0 1 rfl rfl
set_option maxRecDepth 100000 in
theorem jk_te_run : gk_jok (gk_M 97) 2 := ⟨gk_mem 2 217 rfl rfl, gk_mem 1 9 rfl rfl, ⟨by decide +kernel, by decide +kernel, by decide +kernel⟩, by decide +kernel⟩
set_option maxRecDepth 100000 in
theorem im_te_run : Cond.instanceMethod (gk_M 97).1 ∈ gk_TT := gk_mem 2 216 rfl rfl
set_option maxRecDepth 100000 in
theorem sl_te_run : Cond.selects (gk_M 97).1.cls (gk_M 97).1 (gk_M 97).1 ∈ gk_TT := gk_mem 0 2 rfl rfl
set_option maxRecDepth 100000 in
theorem jk_te_changed : gk_jok (gk_M 98) 3 := ⟨gk_mem 2 220 rfl rfl, gk_mem 1 9 rfl rfl, ⟨by decide +kernel, by decide +kernel, by decide +kernel⟩, by decide +kernel⟩
set_option maxRecDepth 100000 in
theorem st_te_changed : Cond.static (gk_M 98).1 ∈ gk_TT := gk_mem 2 219 rfl rfl
set_option maxRecDepth 100000 in
theorem jk_te_joined : gk_jok (gk_M 99) 3 := ⟨gk_mem 2 223 rfl rfl, gk_mem 1 9 rfl rfl, ⟨by decide +kernel, by decide +kernel, by decide +kernel⟩, by decide +kernel⟩
set_option maxRecDepth 100000 in
theorem st_te_joined : Cond.static (gk_M 99).1 ∈ gk_TT := gk_mem 2 222 rfl rfl
set_option maxRecDepth 100000 in
theorem jk_tx_init : gk_jok (gk_M 100) 0 := ⟨gk_mem 1 114 rfl rfl, gk_mem 1 4 rfl rfl, ⟨by decide +kernel, by decide +kernel, by decide +kernel⟩, by decide +kernel⟩
set_option maxRecDepth 100000 in
theorem im_tx_init : Cond.instanceMethod (gk_M 100).1 ∈ gk_TT := gk_mem 1 113 rfl rfl
set_option maxRecDepth 100000 in
theorem jk_tx_count : gk_jok (gk_M 101) 1 := ⟨gk_mem 3 49 rfl rfl, gk_mem 1 4 rfl rfl, ⟨by decide +kernel, by decide +kernel, by decide +kernel⟩, by decide +kernel⟩
set_option maxRecDepth 100000 in
theorem im_tx_count : Cond.instanceMethod (gk_M 101).1 ∈ gk_TT := gk_mem 3 47 rfl rfl
set_option maxRecDepth 100000 in
theorem sl_tx_count : Cond.selects (gk_M 101).1.cls (gk_M 101).1 (gk_M 101).1 ∈ gk_TT := gk_mem 3 48 rfl rfl
set_option maxRecDepth 100000 in
theorem jk_tx_clearOne : gk_jok (gk_M 102) 1 := ⟨gk_mem 3 120 rfl rfl, gk_mem 1 4 rfl rfl, ⟨by decide +kernel, by decide +kernel, by decide +kernel⟩, by decide +kernel⟩
set_option maxRecDepth 100000 in
theorem im_tx_clearOne : Cond.instanceMethod (gk_M 102).1 ∈ gk_TT := gk_mem 3 118 rfl rfl
set_option maxRecDepth 100000 in
theorem sl_tx_clearOne : Cond.selects (gk_M 102).1.cls (gk_M 102).1 (gk_M 102).1 ∈ gk_TT := gk_mem 3 119 rfl rfl
set_option maxRecDepth 100000 in
theorem jk_tx_copyOne : gk_jok (gk_M 103) 2 := ⟨gk_mem 4 132 rfl rfl, gk_mem 1 4 rfl rfl, ⟨by decide +kernel, by decide +kernel, by decide +kernel⟩, by decide +kernel⟩
set_option maxRecDepth 100000 in
theorem im_tx_copyOne : Cond.instanceMethod (gk_M 103).1 ∈ gk_TT := gk_mem 4 130 rfl rfl
set_option maxRecDepth 100000 in
theorem sl_tx_copyOne : Cond.selects (gk_M 103).1.cls (gk_M 103).1 (gk_M 103).1 ∈ gk_TT := gk_mem 4 131 rfl rfl
set_option maxRecDepth 100000 in
theorem jk_tx_copyAll : gk_jok (gk_M 104) 1 := ⟨gk_mem 5 138 rfl rfl, gk_mem 1 4 rfl rfl, ⟨by decide +kernel, by decide +kernel, by decide +kernel⟩, by decide +kernel⟩
set_option maxRecDepth 100000 in
theorem im_tx_copyAll : Cond.instanceMethod (gk_M 104).1 ∈ gk_TT := gk_mem 5 136 rfl rfl
set_option maxRecDepth 100000 in
theorem sl_tx_copyAll : Cond.selects (gk_M 104).1.cls (gk_M 104).1 (gk_M 104).1 ∈ gk_TT := gk_mem 5 137 rfl rfl
set_option maxRecDepth 100000 in
theorem jk_tx_addPassage : gk_jok (gk_M 105) 3 := ⟨gk_mem 4 100 rfl rfl, gk_mem 1 4 rfl rfl, ⟨by decide +kernel, by decide +kernel, by decide +kernel⟩, by decide +kernel⟩
set_option maxRecDepth 100000 in
theorem im_tx_addPassage : Cond.instanceMethod (gk_M 105).1 ∈ gk_TT := gk_mem 4 98 rfl rfl
set_option maxRecDepth 100000 in
theorem sl_tx_addPassage : Cond.selects (gk_M 105).1.cls (gk_M 105).1 (gk_M 105).1 ∈ gk_TT := gk_mem 4 99 rfl rfl
set_option maxRecDepth 100000 in
theorem jk_tx_addVoucher : gk_jok (gk_M 106) 2 := ⟨gk_mem 4 128 rfl rfl, gk_mem 1 4 rfl rfl, ⟨by decide +kernel, by decide +kernel, by decide +kernel⟩, by decide +kernel⟩
set_option maxRecDepth 100000 in
theorem im_tx_addVoucher : Cond.instanceMethod (gk_M 106).1 ∈ gk_TT := gk_mem 4 126 rfl rfl
set_option maxRecDepth 100000 in
theorem sl_tx_addVoucher : Cond.selects (gk_M 106).1.cls (gk_M 106).1 (gk_M 106).1 ∈ gk_TT := gk_mem 4 127 rfl rfl
set_option maxRecDepth 100000 in
theorem jk_tx_addEntry : gk_jok (gk_M 107) 4 := ⟨gk_mem 4 120 rfl rfl, gk_mem 1 4 rfl rfl, ⟨by decide +kernel, by decide +kernel, by decide +kernel⟩, by decide +kernel⟩
set_option maxRecDepth 100000 in
theorem im_tx_addEntry : Cond.instanceMethod (gk_M 107).1 ∈ gk_TT := gk_mem 4 118 rfl rfl
set_option maxRecDepth 100000 in
theorem sl_tx_addEntry : Cond.selects (gk_M 107).1.cls (gk_M 107).1 (gk_M 107).1 ∈ gk_TT := gk_mem 4 119 rfl rfl
set_option maxRecDepth 100000 in
theorem jk_tr_init : gk_jok (gk_M 108) 0 := ⟨gk_mem 2 61 rfl rfl, gk_mem 1 11 rfl rfl, ⟨by decide +kernel, by decide +kernel, by decide +kernel⟩, by decide +kernel⟩
set_option maxRecDepth 100000 in
theorem im_tr_init : Cond.instanceMethod (gk_M 108).1 ∈ gk_TT := gk_mem 2 60 rfl rfl
set_option maxRecDepth 100000 in
theorem jk_tr_lastRoom : gk_jok (gk_M 109) 2 := ⟨gk_mem 5 67 rfl rfl, gk_mem 1 11 rfl rfl, ⟨by decide +kernel, by decide +kernel, by decide +kernel⟩, by decide +kernel⟩
set_option maxRecDepth 100000 in
theorem im_tr_lastRoom : Cond.instanceMethod (gk_M 109).1 ∈ gk_TT := gk_mem 5 65 rfl rfl
set_option maxRecDepth 100000 in
theorem sl_tr_lastRoom : Cond.selects (gk_M 109).1.cls (gk_M 109).1 (gk_M 109).1 ∈ gk_TT := gk_mem 5 66 rfl rfl
set_option maxRecDepth 100000 in
theorem jk_tr_lengthTo : gk_jok (gk_M 110) 1 := ⟨gk_mem 5 82 rfl rfl, gk_mem 1 11 rfl rfl, ⟨by decide +kernel, by decide +kernel, by decide +kernel⟩, by decide +kernel⟩
set_option maxRecDepth 100000 in
theorem im_tr_lengthTo : Cond.instanceMethod (gk_M 110).1 ∈ gk_TT := gk_mem 5 80 rfl rfl
set_option maxRecDepth 100000 in
theorem sl_tr_lengthTo : Cond.selects (gk_M 110).1.cls (gk_M 110).1 (gk_M 110).1 ∈ gk_TT := gk_mem 5 81 rfl rfl
set_option maxRecDepth 100000 in
theorem jk_tr_measure : gk_jok (gk_M 111) 1 := ⟨gk_mem 5 71 rfl rfl, gk_mem 1 11 rfl rfl, ⟨by decide +kernel, by decide +kernel, by decide +kernel⟩, by decide +kernel⟩
set_option maxRecDepth 100000 in
theorem im_tr_measure : Cond.instanceMethod (gk_M 111).1 ∈ gk_TT := gk_mem 5 70 rfl rfl
set_option maxRecDepth 100000 in
theorem sl_tr_measure : Cond.selects (gk_M 111).1.cls (gk_M 111).1 (gk_M 111).1 ∈ gk_TT := gk_mem 0 37 rfl rfl
set_option maxRecDepth 100000 in
theorem jk_tr_goOn : gk_jok (gk_M 112) 2 := ⟨gk_mem 5 78 rfl rfl, gk_mem 1 11 rfl rfl, ⟨by decide +kernel, by decide +kernel, by decide +kernel⟩, by decide +kernel⟩
set_option maxRecDepth 100000 in
theorem im_tr_goOn : Cond.instanceMethod (gk_M 112).1 ∈ gk_TT := gk_mem 5 77 rfl rfl
set_option maxRecDepth 100000 in
theorem sl_tr_goOn : Cond.selects (gk_M 112).1.cls (gk_M 112).1 (gk_M 112).1 ∈ gk_TT := gk_mem 0 38 rfl rfl
set_option maxRecDepth 100000 in
theorem jk_wo_init : gk_jok (gk_M 113) 0 := ⟨gk_mem 1 34 rfl rfl, gk_mem 1 2 rfl rfl, ⟨by decide +kernel, by decide +kernel, by decide +kernel⟩, by decide +kernel⟩
set_option maxRecDepth 100000 in
theorem im_wo_init : Cond.instanceMethod (gk_M 113).1 ∈ gk_TT := gk_mem 1 33 rfl rfl
set_option maxRecDepth 100000 in
theorem jk_wo_copy : gk_jok (gk_M 114) 1 := ⟨gk_mem 3 6 rfl rfl, gk_mem 1 2 rfl rfl, ⟨by decide +kernel, by decide +kernel, by decide +kernel⟩, by decide +kernel⟩
set_option maxRecDepth 100000 in
theorem im_wo_copy : Cond.instanceMethod (gk_M 114).1 ∈ gk_TT := gk_mem 3 4 rfl rfl
set_option maxRecDepth 100000 in
theorem sl_wo_copy : Cond.selects (gk_M 114).1.cls (gk_M 114).1 (gk_M 114).1 ∈ gk_TT := gk_mem 3 5 rfl rfl
set_option maxRecDepth 100000 in
theorem jk_wo_add : gk_jok (gk_M 115) 1 := ⟨gk_mem 2 137 rfl rfl, gk_mem 1 2 rfl rfl, ⟨by decide +kernel, by decide +kernel, by decide +kernel⟩, by decide +kernel⟩
set_option maxRecDepth 100000 in
theorem im_wo_add : Cond.instanceMethod (gk_M 115).1 ∈ gk_TT := gk_mem 2 135 rfl rfl
set_option maxRecDepth 100000 in
theorem sl_wo_add : Cond.selects (gk_M 115).1.cls (gk_M 115).1 (gk_M 115).1 ∈ gk_TT := gk_mem 2 136 rfl rfl
set_option maxRecDepth 100000 in
theorem jk_wo_has : gk_jok (gk_M 116) 1 := ⟨gk_mem 2 145 rfl rfl, gk_mem 1 2 rfl rfl, ⟨by decide +kernel, by decide +kernel, by decide +kernel⟩, by decide +kernel⟩
set_option maxRecDepth 100000 in
theorem im_wo_has : Cond.instanceMethod (gk_M 116).1 ∈ gk_TT := gk_mem 2 143 rfl rfl
set_option maxRecDepth 100000 in
theorem sl_wo_has : Cond.selects (gk_M 116).1.cls (gk_M 116).1 (gk_M 116).1 ∈ gk_TT := gk_mem 2 144 rfl rfl
set_option maxRecDepth 100000 in
theorem jk_wo_isOwned : gk_jok (gk_M 117) 1 := ⟨gk_mem 2 172 rfl rfl, gk_mem 1 2 rfl rfl, ⟨by decide +kernel, by decide +kernel, by decide +kernel⟩, by decide +kernel⟩
set_option maxRecDepth 100000 in
theorem im_wo_isOwned : Cond.instanceMethod (gk_M 117).1 ∈ gk_TT := gk_mem 2 170 rfl rfl
set_option maxRecDepth 100000 in
theorem sl_wo_isOwned : Cond.selects (gk_M 117).1.cls (gk_M 117).1 (gk_M 117).1 ∈ gk_TT := gk_mem 2 171 rfl rfl
set_option maxRecDepth 100000 in
theorem jk_wo_isHosed : gk_jok (gk_M 118) 1 := ⟨gk_mem 2 209 rfl rfl, gk_mem 1 2 rfl rfl, ⟨by decide +kernel, by decide +kernel, by decide +kernel⟩, by decide +kernel⟩
set_option maxRecDepth 100000 in
theorem im_wo_isHosed : Cond.instanceMethod (gk_M 118).1 ∈ gk_TT := gk_mem 2 207 rfl rfl
set_option maxRecDepth 100000 in
theorem sl_wo_isHosed : Cond.selects (gk_M 118).1.cls (gk_M 118).1 (gk_M 118).1 ∈ gk_TT := gk_mem 2 208 rfl rfl
set_option maxRecDepth 100000 in
theorem jk_wo_isShown : gk_jok (gk_M 119) 1 := ⟨gk_mem 3 55 rfl rfl, gk_mem 1 2 rfl rfl, ⟨by decide +kernel, by decide +kernel, by decide +kernel⟩, by decide +kernel⟩
set_option maxRecDepth 100000 in
theorem im_wo_isShown : Cond.instanceMethod (gk_M 119).1 ∈ gk_TT := gk_mem 3 53 rfl rfl
set_option maxRecDepth 100000 in
theorem sl_wo_isShown : Cond.selects (gk_M 119).1.cls (gk_M 119).1 (gk_M 119).1 ∈ gk_TT := gk_mem 3 54 rfl rfl
set_option maxRecDepth 100000 in
theorem jk_wo_earn : gk_jok (gk_M 120) 1 := ⟨gk_mem 3 29 rfl rfl, gk_mem 1 2 rfl rfl, ⟨by decide +kernel, by decide +kernel, by decide +kernel⟩, by decide +kernel⟩
set_option maxRecDepth 100000 in
theorem im_wo_earn : Cond.instanceMethod (gk_M 120).1 ∈ gk_TT := gk_mem 3 27 rfl rfl
set_option maxRecDepth 100000 in
theorem sl_wo_earn : Cond.selects (gk_M 120).1.cls (gk_M 120).1 (gk_M 120).1 ∈ gk_TT := gk_mem 3 28 rfl rfl
set_option maxRecDepth 100000 in
theorem jk_wo_drawOfThousand : gk_jok (gk_M 121) 0 := ⟨gk_mem 3 81 rfl rfl, gk_mem 1 2 rfl rfl, ⟨by decide +kernel, by decide +kernel, by decide +kernel⟩, by decide +kernel⟩
set_option maxRecDepth 100000 in
theorem im_wo_drawOfThousand : Cond.instanceMethod (gk_M 121).1 ∈ gk_TT := gk_mem 3 79 rfl rfl
set_option maxRecDepth 100000 in
theorem sl_wo_drawOfThousand : Cond.selects (gk_M 121).1.cls (gk_M 121).1 (gk_M 121).1 ∈ gk_TT := gk_mem 3 80 rfl rfl
set_option maxRecDepth 100000 in
theorem jk_wo_dryOf : gk_jok (gk_M 122) 1 := ⟨gk_mem 4 185 rfl rfl, gk_mem 1 2 rfl rfl, ⟨by decide +kernel, by decide +kernel, by decide +kernel⟩, by decide +kernel⟩
set_option maxRecDepth 100000 in
theorem im_wo_dryOf : Cond.instanceMethod (gk_M 122).1 ∈ gk_TT := gk_mem 4 183 rfl rfl
set_option maxRecDepth 100000 in
theorem sl_wo_dryOf : Cond.selects (gk_M 122).1.cls (gk_M 122).1 (gk_M 122).1 ∈ gk_TT := gk_mem 4 184 rfl rfl
set_option maxRecDepth 100000 in
theorem jk_wo_dryOfOwned : gk_jok (gk_M 123) 0 := ⟨gk_mem 4 181 rfl rfl, gk_mem 1 2 rfl rfl, ⟨by decide +kernel, by decide +kernel, by decide +kernel⟩, by decide +kernel⟩
set_option maxRecDepth 100000 in
theorem im_wo_dryOfOwned : Cond.instanceMethod (gk_M 123).1 ∈ gk_TT := gk_mem 4 179 rfl rfl
set_option maxRecDepth 100000 in
theorem sl_wo_dryOfOwned : Cond.selects (gk_M 123).1.cls (gk_M 123).1 (gk_M 123).1 ∈ gk_TT := gk_mem 4 180 rfl rfl
set_option maxRecDepth 100000 in
theorem jk_dp_init : gk_jok (gk_M 124) 0 := ⟨gk_mem 1 26 rfl rfl, gk_mem 1 1 rfl rfl, ⟨by decide +kernel, by decide +kernel, by decide +kernel⟩, by decide +kernel⟩
set_option maxRecDepth 100000 in
theorem im_dp_init : Cond.instanceMethod (gk_M 124).1 ∈ gk_TT := gk_mem 1 25 rfl rfl
set_option maxRecDepth 100000 in
theorem jk_dp_state : gk_jok (gk_M 125) 1 := ⟨gk_mem 2 122 rfl rfl, gk_mem 1 1 rfl rfl, ⟨by decide +kernel, by decide +kernel, by decide +kernel⟩, by decide +kernel⟩
set_option maxRecDepth 100000 in
theorem im_dp_state : Cond.instanceMethod (gk_M 125).1 ∈ gk_TT := gk_mem 2 120 rfl rfl
set_option maxRecDepth 100000 in
theorem sl_dp_state : Cond.selects (gk_M 125).1.cls (gk_M 125).1 (gk_M 125).1 ∈ gk_TT := gk_mem 2 121 rfl rfl
set_option maxRecDepth 100000 in
theorem jk_dp_place : gk_jok (gk_M 126) 1 := ⟨gk_mem 2 130 rfl rfl, gk_mem 1 1 rfl rfl, ⟨by decide +kernel, by decide +kernel, by decide +kernel⟩, by decide +kernel⟩
set_option maxRecDepth 100000 in
theorem im_dp_place : Cond.instanceMethod (gk_M 126).1 ∈ gk_TT := gk_mem 2 128 rfl rfl
set_option maxRecDepth 100000 in
theorem sl_dp_place : Cond.selects (gk_M 126).1.cls (gk_M 126).1 (gk_M 126).1 ∈ gk_TT := gk_mem 2 129 rfl rfl
set_option maxRecDepth 100000 in
theorem jk_dp_row : gk_jok (gk_M 127) 3 := ⟨gk_mem 2 141 rfl rfl, gk_mem 1 1 rfl rfl, ⟨by decide +kernel, by decide +kernel, by decide +kernel⟩, by decide +kernel⟩
set_option maxRecDepth 100000 in
theorem im_dp_row : Cond.instanceMethod (gk_M 127).1 ∈ gk_TT := gk_mem 2 139 rfl rfl
set_option maxRecDepth 100000 in
theorem sl_dp_row : Cond.selects (gk_M 127).1.cls (gk_M 127).1 (gk_M 127).1 ∈ gk_TT := gk_mem 2 140 rfl rfl
set_option maxRecDepth 100000 in
theorem jk_dp_purse : gk_jok (gk_M 128) 1 := ⟨gk_mem 2 154 rfl rfl, gk_mem 1 1 rfl rfl, ⟨by decide +kernel, by decide +kernel, by decide +kernel⟩, by decide +kernel⟩
set_option maxRecDepth 100000 in
theorem im_dp_purse : Cond.instanceMethod (gk_M 128).1 ∈ gk_TT := gk_mem 2 152 rfl rfl
set_option maxRecDepth 100000 in
theorem sl_dp_purse : Cond.selects (gk_M 128).1.cls (gk_M 128).1 (gk_M 128).1 ∈ gk_TT := gk_mem 2 153 rfl rfl
set_option maxRecDepth 100000 in
theorem jk_dp_act : gk_jok (gk_M 129) 3 := ⟨gk_mem 2 159 rfl rfl, gk_mem 1 1 rfl rfl, ⟨by decide +kernel, by decide +kernel, by decide +kernel⟩, by decide +kernel⟩
set_option maxRecDepth 100000 in
theorem im_dp_act : Cond.instanceMethod (gk_M 129).1 ∈ gk_TT := gk_mem 2 157 rfl rfl
set_option maxRecDepth 100000 in
theorem sl_dp_act : Cond.selects (gk_M 129).1.cls (gk_M 129).1 (gk_M 129).1 ∈ gk_TT := gk_mem 2 158 rfl rfl
set_option maxRecDepth 100000 in
theorem jk_dp_days : gk_jok (gk_M 130) 1 := ⟨gk_mem 3 37 rfl rfl, gk_mem 1 1 rfl rfl, ⟨by decide +kernel, by decide +kernel, by decide +kernel⟩, by decide +kernel⟩
set_option maxRecDepth 100000 in
theorem im_dp_days : Cond.instanceMethod (gk_M 130).1 ∈ gk_TT := gk_mem 3 35 rfl rfl
set_option maxRecDepth 100000 in
theorem sl_dp_days : Cond.selects (gk_M 130).1.cls (gk_M 130).1 (gk_M 130).1 ∈ gk_TT := gk_mem 3 36 rfl rfl
set_option maxRecDepth 100000 in
theorem jk_dp_feed : gk_jok (gk_M 131) 5 := ⟨gk_mem 3 96 rfl rfl, gk_mem 1 1 rfl rfl, ⟨by decide +kernel, by decide +kernel, by decide +kernel⟩, by decide +kernel⟩
set_option maxRecDepth 100000 in
theorem im_dp_feed : Cond.instanceMethod (gk_M 131).1 ∈ gk_TT := gk_mem 3 94 rfl rfl
set_option maxRecDepth 100000 in
theorem sl_dp_feed : Cond.selects (gk_M 131).1.cls (gk_M 131).1 (gk_M 131).1 ∈ gk_TT := gk_mem 3 95 rfl rfl
set_option maxRecDepth 100000 in
theorem jk_dp_end : gk_jok (gk_M 132) 1 := ⟨gk_mem 3 108 rfl rfl, gk_mem 1 1 rfl rfl, ⟨by decide +kernel, by decide +kernel, by decide +kernel⟩, by decide +kernel⟩
set_option maxRecDepth 100000 in
theorem im_dp_end : Cond.instanceMethod (gk_M 132).1 ∈ gk_TT := gk_mem 3 106 rfl rfl
set_option maxRecDepth 100000 in
theorem sl_dp_end : Cond.selects (gk_M 132).1.cls (gk_M 132).1 (gk_M 132).1 ∈ gk_TT := gk_mem 3 107 rfl rfl
set_option maxRecDepth 100000 in
theorem jk_dp_text : gk_jok (gk_M 133) 1 := ⟨gk_mem 3 112 rfl rfl, gk_mem 1 1 rfl rfl, ⟨by decide +kernel, by decide +kernel, by decide +kernel⟩, by decide +kernel⟩
set_option maxRecDepth 100000 in
theorem im_dp_text : Cond.instanceMethod (gk_M 133).1 ∈ gk_TT := gk_mem 3 110 rfl rfl
set_option maxRecDepth 100000 in
theorem sl_dp_text : Cond.selects (gk_M 133).1.cls (gk_M 133).1 (gk_M 133).1 ∈ gk_TT := gk_mem 3 111 rfl rfl
set_option maxRecDepth 100000 in
theorem jk_dp_fault : gk_jok (gk_M 134) 1 := ⟨gk_mem 4 144 rfl rfl, gk_mem 1 1 rfl rfl, ⟨by decide +kernel, by decide +kernel, by decide +kernel⟩, by decide +kernel⟩
set_option maxRecDepth 100000 in
theorem im_dp_fault : Cond.instanceMethod (gk_M 134).1 ∈ gk_TT := gk_mem 4 142 rfl rfl
set_option maxRecDepth 100000 in
theorem sl_dp_fault : Cond.selects (gk_M 134).1.cls (gk_M 134).1 (gk_M 134).1 ∈ gk_TT := gk_mem 4 143 rfl rfl
set_option maxRecDepth 100000 in
theorem jk_dp_of : gk_jok (gk_M 135) 2 := ⟨gk_mem 4 148 rfl rfl, gk_mem 1 1 rfl rfl, ⟨by decide +kernel, by decide +kernel, by decide +kernel⟩, by decide +kernel⟩
set_option maxRecDepth 100000 in
theorem im_dp_of : Cond.instanceMethod (gk_M 135).1 ∈ gk_TT := gk_mem 4 146 rfl rfl
set_option maxRecDepth 100000 in
theorem sl_dp_of : Cond.selects (gk_M 135).1.cls (gk_M 135).1 (gk_M 135).1 ∈ gk_TT := gk_mem 4 147 rfl rfl
set_option maxRecDepth 100000 in
theorem jk_dp_creeps : gk_jok (gk_M 136) 2 := ⟨gk_mem 4 159 rfl rfl, gk_mem 1 1 rfl rfl, ⟨by decide +kernel, by decide +kernel, by decide +kernel⟩, by decide +kernel⟩
set_option maxRecDepth 100000 in
theorem im_dp_creeps : Cond.instanceMethod (gk_M 136).1 ∈ gk_TT := gk_mem 4 157 rfl rfl
set_option maxRecDepth 100000 in
theorem sl_dp_creeps : Cond.selects (gk_M 136).1.cls (gk_M 136).1 (gk_M 136).1 ∈ gk_TT := gk_mem 4 158 rfl rfl
set_option maxRecDepth 100000 in
theorem jk_dp_room : gk_jok (gk_M 137) 2 := ⟨gk_mem 4 167 rfl rfl, gk_mem 1 1 rfl rfl, ⟨by decide +kernel, by decide +kernel, by decide +kernel⟩, by decide +kernel⟩
set_option maxRecDepth 100000 in
theorem im_dp_room : Cond.instanceMethod (gk_M 137).1 ∈ gk_TT := gk_mem 4 165 rfl rfl
set_option maxRecDepth 100000 in
theorem sl_dp_room : Cond.selects (gk_M 137).1.cls (gk_M 137).1 (gk_M 137).1 ∈ gk_TT := gk_mem 4 166 rfl rfl
set_option maxRecDepth 100000 in
theorem jk_dp_book : gk_jok (gk_M 138) 2 := ⟨gk_mem 4 172 rfl rfl, gk_mem 1 1 rfl rfl, ⟨by decide +kernel, by decide +kernel, by decide +kernel⟩, by decide +kernel⟩
set_option maxRecDepth 100000 in
theorem im_dp_book : Cond.instanceMethod (gk_M 138).1 ∈ gk_TT := gk_mem 4 170 rfl rfl
set_option maxRecDepth 100000 in
theorem sl_dp_book : Cond.selects (gk_M 138).1.cls (gk_M 138).1 (gk_M 138).1 ∈ gk_TT := gk_mem 4 171 rfl rfl
set_option maxRecDepth 100000 in
theorem jk_dp_goes : gk_jok (gk_M 139) 2 := ⟨gk_mem 4 176 rfl rfl, gk_mem 1 1 rfl rfl, ⟨by decide +kernel, by decide +kernel, by decide +kernel⟩, by decide +kernel⟩
set_option maxRecDepth 100000 in
theorem im_dp_goes : Cond.instanceMethod (gk_M 139).1 ∈ gk_TT := gk_mem 4 174 rfl rfl
set_option maxRecDepth 100000 in
theorem sl_dp_goes : Cond.selects (gk_M 139).1.cls (gk_M 139).1 (gk_M 139).1 ∈ gk_TT := gk_mem 4 175 rfl rfl
set_option maxRecDepth 100000 in
theorem jk_dp_shape : gk_jok (gk_M 140) 2 := ⟨gk_mem 4 190 rfl rfl, gk_mem 1 1 rfl rfl, ⟨by decide +kernel, by decide +kernel, by decide +kernel⟩, by decide +kernel⟩
set_option maxRecDepth 100000 in
theorem im_dp_shape : Cond.instanceMethod (gk_M 140).1 ∈ gk_TT := gk_mem 4 188 rfl rfl
set_option maxRecDepth 100000 in
theorem sl_dp_shape : Cond.selects (gk_M 140).1.cls (gk_M 140).1 (gk_M 140).1 ∈ gk_TT := gk_mem 4 189 rfl rfl
set_option maxRecDepth 100000 in
theorem jk_dp_turned : gk_jok (gk_M 141) 2 := ⟨gk_mem 4 211 rfl rfl, gk_mem 1 1 rfl rfl, ⟨by decide +kernel, by decide +kernel, by decide +kernel⟩, by decide +kernel⟩
set_option maxRecDepth 100000 in
theorem im_dp_turned : Cond.instanceMethod (gk_M 141).1 ∈ gk_TT := gk_mem 4 209 rfl rfl
set_option maxRecDepth 100000 in
theorem sl_dp_turned : Cond.selects (gk_M 141).1.cls (gk_M 141).1 (gk_M 141).1 ∈ gk_TT := gk_mem 4 210 rfl rfl
set_option maxRecDepth 100000 in
theorem jk_dp_square : gk_jok (gk_M 142) 2 := ⟨gk_mem 4 226 rfl rfl, gk_mem 1 1 rfl rfl, ⟨by decide +kernel, by decide +kernel, by decide +kernel⟩, by decide +kernel⟩
set_option maxRecDepth 100000 in
theorem im_dp_square : Cond.instanceMethod (gk_M 142).1 ∈ gk_TT := gk_mem 4 224 rfl rfl
set_option maxRecDepth 100000 in
theorem sl_dp_square : Cond.selects (gk_M 142).1.cls (gk_M 142).1 (gk_M 142).1 ∈ gk_TT := gk_mem 4 225 rfl rfl
set_option maxRecDepth 100000 in
theorem jk_dp_fit : gk_jok (gk_M 143) 3 := ⟨gk_mem 5 5 rfl rfl, gk_mem 1 1 rfl rfl, ⟨by decide +kernel, by decide +kernel, by decide +kernel⟩, by decide +kernel⟩
set_option maxRecDepth 100000 in
theorem im_dp_fit : Cond.instanceMethod (gk_M 143).1 ∈ gk_TT := gk_mem 5 3 rfl rfl
set_option maxRecDepth 100000 in
theorem sl_dp_fit : Cond.selects (gk_M 143).1.cls (gk_M 143).1 (gk_M 143).1 ∈ gk_TT := gk_mem 5 4 rfl rfl
set_option maxRecDepth 100000 in
theorem jk_dp_walk : gk_jok (gk_M 144) 4 := ⟨gk_mem 5 23 rfl rfl, gk_mem 1 1 rfl rfl, ⟨by decide +kernel, by decide +kernel, by decide +kernel⟩, by decide +kernel⟩
set_option maxRecDepth 100000 in
theorem im_dp_walk : Cond.instanceMethod (gk_M 144).1 ∈ gk_TT := gk_mem 5 21 rfl rfl
set_option maxRecDepth 100000 in
theorem sl_dp_walk : Cond.selects (gk_M 144).1.cls (gk_M 144).1 (gk_M 144).1 ∈ gk_TT := gk_mem 5 22 rfl rfl
set_option maxRecDepth 100000 in
theorem jk_dp_sums : gk_jok (gk_M 145) 2 := ⟨gk_mem 5 36 rfl rfl, gk_mem 1 1 rfl rfl, ⟨by decide +kernel, by decide +kernel, by decide +kernel⟩, by decide +kernel⟩
set_option maxRecDepth 100000 in
theorem im_dp_sums : Cond.instanceMethod (gk_M 145).1 ∈ gk_TT := gk_mem 5 34 rfl rfl
set_option maxRecDepth 100000 in
theorem sl_dp_sums : Cond.selects (gk_M 145).1.cls (gk_M 145).1 (gk_M 145).1 ∈ gk_TT := gk_mem 5 35 rfl rfl
set_option maxRecDepth 100000 in
theorem jk_dp_buys : gk_jok (gk_M 146) 2 := ⟨gk_mem 5 54 rfl rfl, gk_mem 1 1 rfl rfl, ⟨by decide +kernel, by decide +kernel, by decide +kernel⟩, by decide +kernel⟩
set_option maxRecDepth 100000 in
theorem im_dp_buys : Cond.instanceMethod (gk_M 146).1 ∈ gk_TT := gk_mem 5 52 rfl rfl
set_option maxRecDepth 100000 in
theorem sl_dp_buys : Cond.selects (gk_M 146).1.cls (gk_M 146).1 (gk_M 146).1 ∈ gk_TT := gk_mem 5 53 rfl rfl
set_option maxRecDepth 100000 in
theorem jk_dp_tour : gk_jok (gk_M 147) 2 := ⟨gk_mem 5 63 rfl rfl, gk_mem 1 1 rfl rfl, ⟨by decide +kernel, by decide +kernel, by decide +kernel⟩, by decide +kernel⟩
set_option maxRecDepth 100000 in
theorem im_dp_tour : Cond.instanceMethod (gk_M 147).1 ∈ gk_TT := gk_mem 5 61 rfl rfl
set_option maxRecDepth 100000 in
theorem sl_dp_tour : Cond.selects (gk_M 147).1.cls (gk_M 147).1 (gk_M 147).1 ∈ gk_TT := gk_mem 5 62 rfl rfl
set_option maxRecDepth 100000 in
theorem jk_dp_vouched : gk_jok (gk_M 148) 1 := ⟨gk_mem 5 87 rfl rfl, gk_mem 1 1 rfl rfl, ⟨by decide +kernel, by decide +kernel, by decide +kernel⟩, by decide +kernel⟩
set_option maxRecDepth 100000 in
theorem im_dp_vouched : Cond.instanceMethod (gk_M 148).1 ∈ gk_TT := gk_mem 5 85 rfl rfl
set_option maxRecDepth 100000 in
theorem sl_dp_vouched : Cond.selects (gk_M 148).1.cls (gk_M 148).1 (gk_M 148).1 ∈ gk_TT := gk_mem 5 86 rfl rfl
set_option maxRecDepth 100000 in
theorem jk_dp_lie : gk_jok (gk_M 149) 3 := ⟨gk_mem 5 95 rfl rfl, gk_mem 1 1 rfl rfl, ⟨by decide +kernel, by decide +kernel, by decide +kernel⟩, by decide +kernel⟩
set_option maxRecDepth 100000 in
theorem im_dp_lie : Cond.instanceMethod (gk_M 149).1 ∈ gk_TT := gk_mem 5 93 rfl rfl
set_option maxRecDepth 100000 in
theorem sl_dp_lie : Cond.selects (gk_M 149).1.cls (gk_M 149).1 (gk_M 149).1 ∈ gk_TT := gk_mem 5 94 rfl rfl
set_option maxRecDepth 100000 in
theorem jk_dp_feet : gk_jok (gk_M 150) 1 := ⟨gk_mem 5 105 rfl rfl, gk_mem 1 1 rfl rfl, ⟨by decide +kernel, by decide +kernel, by decide +kernel⟩, by decide +kernel⟩
set_option maxRecDepth 100000 in
theorem im_dp_feet : Cond.instanceMethod (gk_M 150).1 ∈ gk_TT := gk_mem 5 103 rfl rfl
set_option maxRecDepth 100000 in
theorem sl_dp_feet : Cond.selects (gk_M 150).1.cls (gk_M 150).1 (gk_M 150).1 ∈ gk_TT := gk_mem 5 104 rfl rfl
set_option maxRecDepth 100000 in
theorem jk_dp_game : gk_jok (gk_M 151) 1 := ⟨gk_mem 5 115 rfl rfl, gk_mem 1 1 rfl rfl, ⟨by decide +kernel, by decide +kernel, by decide +kernel⟩, by decide +kernel⟩
set_option maxRecDepth 100000 in
theorem im_dp_game : Cond.instanceMethod (gk_M 151).1 ∈ gk_TT := gk_mem 5 113 rfl rfl
set_option maxRecDepth 100000 in
theorem sl_dp_game : Cond.selects (gk_M 151).1.cls (gk_M 151).1 (gk_M 151).1 ∈ gk_TT := gk_mem 5 114 rfl rfl
set_option maxRecDepth 100000 in
theorem jk_dp_undo : gk_jok (gk_M 152) 0 := ⟨gk_mem 5 126 rfl rfl, gk_mem 1 1 rfl rfl, ⟨by decide +kernel, by decide +kernel, by decide +kernel⟩, by decide +kernel⟩
set_option maxRecDepth 100000 in
theorem im_dp_undo : Cond.instanceMethod (gk_M 152).1 ∈ gk_TT := gk_mem 5 124 rfl rfl
set_option maxRecDepth 100000 in
theorem sl_dp_undo : Cond.selects (gk_M 152).1.cls (gk_M 152).1 (gk_M 152).1 ∈ gk_TT := gk_mem 5 125 rfl rfl
set_option maxRecDepth 100000 in
theorem jk_dp_image : gk_jok (gk_M 153) 1 := ⟨gk_mem 5 134 rfl rfl, gk_mem 1 1 rfl rfl, ⟨by decide +kernel, by decide +kernel, by decide +kernel⟩, by decide +kernel⟩
set_option maxRecDepth 100000 in
theorem im_dp_image : Cond.instanceMethod (gk_M 153).1 ∈ gk_TT := gk_mem 5 132 rfl rfl
set_option maxRecDepth 100000 in
theorem sl_dp_image : Cond.selects (gk_M 153).1.cls (gk_M 153).1 (gk_M 153).1 ∈ gk_TT := gk_mem 5 133 rfl rfl
set_option maxRecDepth 100000 in
theorem jk_dp_look : gk_jok (gk_M 154) 1 := ⟨gk_mem 5 144 rfl rfl, gk_mem 1 1 rfl rfl, ⟨by decide +kernel, by decide +kernel, by decide +kernel⟩, by decide +kernel⟩
set_option maxRecDepth 100000 in
theorem im_dp_look : Cond.instanceMethod (gk_M 154).1 ∈ gk_TT := gk_mem 5 142 rfl rfl
set_option maxRecDepth 100000 in
theorem sl_dp_look : Cond.selects (gk_M 154).1.cls (gk_M 154).1 (gk_M 154).1 ∈ gk_TT := gk_mem 5 143 rfl rfl
set_option maxRecDepth 100000 in
theorem jk_dp_isWithin : gk_jok (gk_M 155) 3 := ⟨gk_mem 2 133 rfl rfl, gk_mem 1 1 rfl rfl, ⟨by decide +kernel, by decide +kernel, by decide +kernel⟩, by decide +kernel⟩
set_option maxRecDepth 100000 in
theorem st_dp_isWithin : Cond.static (gk_M 155).1 ∈ gk_TT := gk_mem 2 132 rfl rfl
set_option maxRecDepth 100000 in
theorem jk_dp_isCell : gk_jok (gk_M 156) 1 := ⟨gk_mem 2 235 rfl rfl, gk_mem 1 1 rfl rfl, ⟨by decide +kernel, by decide +kernel, by decide +kernel⟩, by decide +kernel⟩
set_option maxRecDepth 100000 in
theorem st_dp_isCell : Cond.static (gk_M 156).1 ∈ gk_TT := gk_mem 2 234 rfl rfl
set_option maxRecDepth 100000 in
theorem jk_dp_isRoom : gk_jok (gk_M 157) 1 := ⟨gk_mem 2 166 rfl rfl, gk_mem 1 1 rfl rfl, ⟨by decide +kernel, by decide +kernel, by decide +kernel⟩, by decide +kernel⟩
set_option maxRecDepth 100000 in
theorem st_dp_isRoom : Cond.static (gk_M 157).1 ∈ gk_TT := gk_mem 2 165 rfl rfl
set_option maxRecDepth 100000 in
theorem jk_dp_priceOf : gk_jok (gk_M 158) 1 := ⟨gk_mem 5 58 rfl rfl, gk_mem 1 1 rfl rfl, ⟨by decide +kernel, by decide +kernel, by decide +kernel⟩, by decide +kernel⟩
set_option maxRecDepth 100000 in
theorem im_dp_priceOf : Cond.instanceMethod (gk_M 158).1 ∈ gk_TT := gk_mem 5 57 rfl rfl
set_option maxRecDepth 100000 in
theorem sl_dp_priceOf : Cond.selects (gk_M 158).1.cls (gk_M 158).1 (gk_M 158).1 ∈ gk_TT := gk_mem 0 36 rfl rfl
set_option maxRecDepth 100000 in
theorem jk_dp_vouchersOfAll : gk_jok (gk_M 159) 1 := ⟨gk_mem 5 91 rfl rfl, gk_mem 1 1 rfl rfl, ⟨by decide +kernel, by decide +kernel, by decide +kernel⟩, by decide +kernel⟩
set_option maxRecDepth 100000 in
theorem im_dp_vouchersOfAll : Cond.instanceMethod (gk_M 159).1 ∈ gk_TT := gk_mem 5 90 rfl rfl
set_option maxRecDepth 100000 in
theorem sl_dp_vouchersOfAll : Cond.selects (gk_M 159).1.cls (gk_M 159).1 (gk_M 159).1 ∈ gk_TT := gk_mem 0 39 rfl rfl
set_option maxRecDepth 100000 in
theorem jk_dp_heapOf : gk_jok (gk_M 160) 1 := ⟨gk_mem 5 119 rfl rfl, gk_mem 1 1 rfl rfl, ⟨by decide +kernel, by decide +kernel, by decide +kernel⟩, by decide +kernel⟩
set_option maxRecDepth 100000 in
theorem im_dp_heapOf : Cond.instanceMethod (gk_M 160).1 ∈ gk_TT := gk_mem 5 118 rfl rfl
set_option maxRecDepth 100000 in
theorem sl_dp_heapOf : Cond.selects (gk_M 160).1.cls (gk_M 160).1 (gk_M 160).1 ∈ gk_TT := gk_mem 0 40 rfl rfl
set_option maxRecDepth 100000 in
theorem jk_dp_winningTake : gk_jok (gk_M 161) 2 := ⟨gk_mem 5 122 rfl rfl, gk_mem 1 1 rfl rfl, ⟨by decide +kernel, by decide +kernel, by decide +kernel⟩, by decide +kernel⟩
set_option maxRecDepth 100000 in
theorem st_dp_winningTake : Cond.static (gk_M 161).1 ∈ gk_TT := gk_mem 5 121 rfl rfl
set_option maxRecDepth 100000 in
theorem jk_mo_init : gk_jok (gk_M 162) 0 := ⟨gk_mem 5 149 rfl rfl, gk_mem 1 12 rfl rfl, ⟨by decide +kernel, by decide +kernel, by decide +kernel⟩, by decide +kernel⟩
set_option maxRecDepth 100000 in
theorem im_mo_init : Cond.instanceMethod (gk_M 162).1 ∈ gk_TT := gk_mem 5 148 rfl rfl
set_option maxRecDepth 100000 in
theorem jk_mo_isIn : gk_jok (gk_M 163) 3 := ⟨gk_mem 6 92 rfl rfl, gk_mem 1 12 rfl rfl, ⟨by decide +kernel, by decide +kernel, by decide +kernel⟩, by decide +kernel⟩
set_option maxRecDepth 100000 in
theorem im_mo_isIn : Cond.instanceMethod (gk_M 163).1 ∈ gk_TT := gk_mem 6 91 rfl rfl
set_option maxRecDepth 100000 in
theorem sl_mo_isIn : Cond.selects (gk_M 163).1.cls (gk_M 163).1 (gk_M 163).1 ∈ gk_TT := gk_mem 0 41 rfl rfl
set_option maxRecDepth 100000 in
theorem jk_mo_held : gk_jok (gk_M 164) 3 := ⟨gk_mem 7 109 rfl rfl, gk_mem 1 12 rfl rfl, ⟨by decide +kernel, by decide +kernel, by decide +kernel⟩, by decide +kernel⟩
set_option maxRecDepth 100000 in
theorem im_mo_held : Cond.instanceMethod (gk_M 164).1 ∈ gk_TT := gk_mem 7 108 rfl rfl
set_option maxRecDepth 100000 in
theorem sl_mo_held : Cond.selects (gk_M 164).1.cls (gk_M 164).1 (gk_M 164).1 ∈ gk_TT := gk_mem 0 98 rfl rfl
set_option maxRecDepth 100000 in
theorem jk_mo_greater : gk_jok (gk_M 165) 2 := ⟨gk_mem 8 71 rfl rfl, gk_mem 1 12 rfl rfl, ⟨by decide +kernel, by decide +kernel, by decide +kernel⟩, by decide +kernel⟩
set_option maxRecDepth 100000 in
theorem im_mo_greater : Cond.instanceMethod (gk_M 165).1 ∈ gk_TT := gk_mem 8 70 rfl rfl
set_option maxRecDepth 100000 in
theorem sl_mo_greater : Cond.selects (gk_M 165).1.cls (gk_M 165).1 (gk_M 165).1 ∈ gk_TT := gk_mem 0 138 rfl rfl
set_option maxRecDepth 100000 in
theorem jk_mo_lesser : gk_jok (gk_M 166) 2 := ⟨gk_mem 7 137 rfl rfl, gk_mem 1 12 rfl rfl, ⟨by decide +kernel, by decide +kernel, by decide +kernel⟩, by decide +kernel⟩
set_option maxRecDepth 100000 in
theorem im_mo_lesser : Cond.instanceMethod (gk_M 166).1 ∈ gk_TT := gk_mem 7 136 rfl rfl
set_option maxRecDepth 100000 in
theorem sl_mo_lesser : Cond.selects (gk_M 166).1.cls (gk_M 166).1 (gk_M 166).1 ∈ gk_TT := gk_mem 0 105 rfl rfl
set_option maxRecDepth 100000 in
theorem jk_mo_apart : gk_jok (gk_M 167) 2 := ⟨gk_mem 7 223 rfl rfl, gk_mem 1 12 rfl rfl, ⟨by decide +kernel, by decide +kernel, by decide +kernel⟩, by decide +kernel⟩
set_option maxRecDepth 100000 in
theorem im_mo_apart : Cond.instanceMethod (gk_M 167).1 ∈ gk_TT := gk_mem 7 222 rfl rfl
set_option maxRecDepth 100000 in
theorem sl_mo_apart : Cond.selects (gk_M 167).1.cls (gk_M 167).1 (gk_M 167).1 ∈ gk_TT := gk_mem 0 119 rfl rfl
set_option maxRecDepth 100000 in
theorem jk_mo_onesOf : gk_jok (gk_M 168) 1 := ⟨gk_mem 7 65 rfl rfl, gk_mem 1 12 rfl rfl, ⟨by decide +kernel, by decide +kernel, by decide +kernel⟩, by decide +kernel⟩
set_option maxRecDepth 100000 in
theorem im_mo_onesOf : Cond.instanceMethod (gk_M 168).1 ∈ gk_TT := gk_mem 7 64 rfl rfl
set_option maxRecDepth 100000 in
theorem sl_mo_onesOf : Cond.selects (gk_M 168).1.cls (gk_M 168).1 (gk_M 168).1 ∈ gk_TT := gk_mem 0 87 rfl rfl
set_option maxRecDepth 100000 in
theorem jk_mo_has : gk_jok (gk_M 169) 2 := ⟨gk_mem 7 77 rfl rfl, gk_mem 1 12 rfl rfl, ⟨by decide +kernel, by decide +kernel, by decide +kernel⟩, by decide +kernel⟩
set_option maxRecDepth 100000 in
theorem im_mo_has : Cond.instanceMethod (gk_M 169).1 ∈ gk_TT := gk_mem 7 76 rfl rfl
set_option maxRecDepth 100000 in
theorem sl_mo_has : Cond.selects (gk_M 169).1.cls (gk_M 169).1 (gk_M 169).1 ∈ gk_TT := gk_mem 0 90 rfl rfl
set_option maxRecDepth 100000 in
theorem jk_mo_keepsAhead : gk_jok (gk_M 170) 0 := ⟨gk_mem 7 113 rfl rfl, gk_mem 1 12 rfl rfl, ⟨by decide +kernel, by decide +kernel, by decide +kernel⟩, by decide +kernel⟩
set_option maxRecDepth 100000 in
theorem im_mo_keepsAhead : Cond.instanceMethod (gk_M 170).1 ∈ gk_TT := gk_mem 7 112 rfl rfl
set_option maxRecDepth 100000 in
theorem sl_mo_keepsAhead : Cond.selects (gk_M 170).1.cls (gk_M 170).1 (gk_M 170).1 ∈ gk_TT := gk_mem 0 99 rfl rfl
set_option maxRecDepth 100000 in
theorem jk_mo_undo : gk_jok (gk_M 171) 0 := ⟨gk_mem 6 80 rfl rfl, gk_mem 1 12 rfl rfl, ⟨by decide +kernel, by decide +kernel, by decide +kernel⟩, by decide +kernel⟩
set_option maxRecDepth 100000 in
theorem im_mo_undo : Cond.instanceMethod (gk_M 171).1 ∈ gk_TT := gk_mem 6 78 rfl rfl
set_option maxRecDepth 100000 in
theorem sl_mo_undo : Cond.selects (gk_M 171).1.cls (gk_M 171).1 (gk_M 171).1 ∈ gk_TT := gk_mem 6 79 rfl rfl
set_option maxRecDepth 100000 in
theorem jk_mo_thinks : gk_jok (gk_M 172) 0 := ⟨gk_mem 7 199 rfl rfl, gk_mem 1 12 rfl rfl, ⟨by decide +kernel, by decide +kernel, by decide +kernel⟩, by decide +kernel⟩
set_option maxRecDepth 100000 in
theorem im_mo_thinks : Cond.instanceMethod (gk_M 172).1 ∈ gk_TT := gk_mem 7 198 rfl rfl
set_option maxRecDepth 100000 in
theorem sl_mo_thinks : Cond.selects (gk_M 172).1.cls (gk_M 172).1 (gk_M 172).1 ∈ gk_TT := gk_mem 0 114 rfl rfl
set_option maxRecDepth 100000 in
theorem jk_mo_endsThought : gk_jok (gk_M 173) 0 := ⟨gk_mem 7 203 rfl rfl, gk_mem 1 12 rfl rfl, ⟨by decide +kernel, by decide +kernel, by decide +kernel⟩, by decide +kernel⟩
set_option maxRecDepth 100000 in
theorem im_mo_endsThought : Cond.instanceMethod (gk_M 173).1 ∈ gk_TT := gk_mem 7 202 rfl rfl
set_option maxRecDepth 100000 in
theorem sl_mo_endsThought : Cond.selects (gk_M 173).1.cls (gk_M 173).1 (gk_M 173).1 ∈ gk_TT := gk_mem 0 115 rfl rfl
set_option maxRecDepth 100000 in
theorem jk_mo_state : gk_jok (gk_M 174) 1 := ⟨gk_mem 6 84 rfl rfl, gk_mem 1 12 rfl rfl, ⟨by decide +kernel, by decide +kernel, by decide +kernel⟩, by decide +kernel⟩
set_option maxRecDepth 100000 in
theorem im_mo_state : Cond.instanceMethod (gk_M 174).1 ∈ gk_TT := gk_mem 6 82 rfl rfl
set_option maxRecDepth 100000 in
theorem sl_mo_state : Cond.selects (gk_M 174).1.cls (gk_M 174).1 (gk_M 174).1 ∈ gk_TT := gk_mem 6 83 rfl rfl
set_option maxRecDepth 100000 in
theorem jk_mo_draw : gk_jok (gk_M 175) 1 := ⟨gk_mem 7 169 rfl rfl, gk_mem 1 12 rfl rfl, ⟨by decide +kernel, by decide +kernel, by decide +kernel⟩, by decide +kernel⟩
set_option maxRecDepth 100000 in
theorem im_mo_draw : Cond.instanceMethod (gk_M 175).1 ∈ gk_TT := gk_mem 7 168 rfl rfl
set_option maxRecDepth 100000 in
theorem sl_mo_draw : Cond.selects (gk_M 175).1.cls (gk_M 175).1 (gk_M 175).1 ∈ gk_TT := gk_mem 0 112 rfl rfl
set_option maxRecDepth 100000 in
theorem jk_mo_isPlace : gk_jok (gk_M 176) 1 := ⟨gk_mem 6 104 rfl rfl, gk_mem 1 12 rfl rfl, ⟨by decide +kernel, by decide +kernel, by decide +kernel⟩, by decide +kernel⟩
set_option maxRecDepth 100000 in
theorem im_mo_isPlace : Cond.instanceMethod (gk_M 176).1 ∈ gk_TT := gk_mem 6 103 rfl rfl
set_option maxRecDepth 100000 in
theorem sl_mo_isPlace : Cond.selects (gk_M 176).1.cls (gk_M 176).1 (gk_M 176).1 ∈ gk_TT := gk_mem 0 43 rfl rfl
set_option maxRecDepth 100000 in
theorem jk_mo_isCell : gk_jok (gk_M 177) 1 := ⟨gk_mem 7 45 rfl rfl, gk_mem 1 12 rfl rfl, ⟨by decide +kernel, by decide +kernel, by decide +kernel⟩, by decide +kernel⟩
set_option maxRecDepth 100000 in
theorem im_mo_isCell : Cond.instanceMethod (gk_M 177).1 ∈ gk_TT := gk_mem 7 44 rfl rfl
set_option maxRecDepth 100000 in
theorem sl_mo_isCell : Cond.selects (gk_M 177).1.cls (gk_M 177).1 (gk_M 177).1 ∈ gk_TT := gk_mem 0 82 rfl rfl
set_option maxRecDepth 100000 in
theorem jk_mo_rowAt : gk_jok (gk_M 178) 2 := ⟨gk_mem 6 96 rfl rfl, gk_mem 1 12 rfl rfl, ⟨by decide +kernel, by decide +kernel, by decide +kernel⟩, by decide +kernel⟩
set_option maxRecDepth 100000 in
theorem im_mo_rowAt : Cond.instanceMethod (gk_M 178).1 ∈ gk_TT := gk_mem 6 95 rfl rfl
set_option maxRecDepth 100000 in
theorem sl_mo_rowAt : Cond.selects (gk_M 178).1.cls (gk_M 178).1 (gk_M 178).1 ∈ gk_TT := gk_mem 0 42 rfl rfl
set_option maxRecDepth 100000 in
theorem jk_mo_isDry : gk_jok (gk_M 179) 3 := ⟨gk_mem 7 85 rfl rfl, gk_mem 1 12 rfl rfl, ⟨by decide +kernel, by decide +kernel, by decide +kernel⟩, by decide +kernel⟩
set_option maxRecDepth 100000 in
theorem im_mo_isDry : Cond.instanceMethod (gk_M 179).1 ∈ gk_TT := gk_mem 7 84 rfl rfl
set_option maxRecDepth 100000 in
theorem sl_mo_isDry : Cond.selects (gk_M 179).1.cls (gk_M 179).1 (gk_M 179).1 ∈ gk_TT := gk_mem 0 92 rfl rfl
set_option maxRecDepth 100000 in
theorem jk_mo_isDryCell : gk_jok (gk_M 180) 2 := ⟨gk_mem 7 73 rfl rfl, gk_mem 1 12 rfl rfl, ⟨by decide +kernel, by decide +kernel, by decide +kernel⟩, by decide +kernel⟩
set_option maxRecDepth 100000 in
theorem im_mo_isDryCell : Cond.instanceMethod (gk_M 180).1 ∈ gk_TT := gk_mem 7 72 rfl rfl
set_option maxRecDepth 100000 in
theorem sl_mo_isDryCell : Cond.selects (gk_M 180).1.cls (gk_M 180).1 (gk_M 180).1 ∈ gk_TT := gk_mem 0 89 rfl rfl
set_option maxRecDepth 100000 in
theorem jk_mo_wetBeside : gk_jok (gk_M 181) 2 := ⟨gk_mem 7 81 rfl rfl, gk_mem 1 12 rfl rfl, ⟨by decide +kernel, by decide +kernel, by decide +kernel⟩, by decide +kernel⟩
set_option maxRecDepth 100000 in
theorem im_mo_wetBeside : Cond.instanceMethod (gk_M 181).1 ∈ gk_TT := gk_mem 7 80 rfl rfl
set_option maxRecDepth 100000 in
theorem sl_mo_wetBeside : Cond.selects (gk_M 181).1.cls (gk_M 181).1 (gk_M 181).1 ∈ gk_TT := gk_mem 0 91 rfl rfl
set_option maxRecDepth 100000 in
theorem jk_mo_dryOf : gk_jok (gk_M 182) 1 := ⟨gk_mem 7 61 rfl rfl, gk_mem 1 12 rfl rfl, ⟨by decide +kernel, by decide +kernel, by decide +kernel⟩, by decide +kernel⟩
set_option maxRecDepth 100000 in
theorem im_mo_dryOf : Cond.instanceMethod (gk_M 182).1 ∈ gk_TT := gk_mem 7 60 rfl rfl
set_option maxRecDepth 100000 in
theorem sl_mo_dryOf : Cond.selects (gk_M 182).1.cls (gk_M 182).1 (gk_M 182).1 ∈ gk_TT := gk_mem 0 86 rfl rfl
set_option maxRecDepth 100000 in
theorem jk_mo_edgesOf : gk_jok (gk_M 183) 1 := ⟨gk_mem 7 69 rfl rfl, gk_mem 1 12 rfl rfl, ⟨by decide +kernel, by decide +kernel, by decide +kernel⟩, by decide +kernel⟩
set_option maxRecDepth 100000 in
theorem im_mo_edgesOf : Cond.instanceMethod (gk_M 183).1 ∈ gk_TT := gk_mem 7 68 rfl rfl
set_option maxRecDepth 100000 in
theorem sl_mo_edgesOf : Cond.selects (gk_M 183).1.cls (gk_M 183).1 (gk_M 183).1 ∈ gk_TT := gk_mem 0 88 rfl rfl
set_option maxRecDepth 100000 in
theorem jk_mo_place : gk_jok (gk_M 184) 1 := ⟨gk_mem 6 88 rfl rfl, gk_mem 1 12 rfl rfl, ⟨by decide +kernel, by decide +kernel, by decide +kernel⟩, by decide +kernel⟩
set_option maxRecDepth 100000 in
theorem im_mo_place : Cond.instanceMethod (gk_M 184).1 ∈ gk_TT := gk_mem 6 86 rfl rfl
set_option maxRecDepth 100000 in
theorem sl_mo_place : Cond.selects (gk_M 184).1.cls (gk_M 184).1 (gk_M 184).1 ∈ gk_TT := gk_mem 6 87 rfl rfl
set_option maxRecDepth 100000 in
theorem jk_mo_row : gk_jok (gk_M 185) 3 := ⟨gk_mem 6 100 rfl rfl, gk_mem 1 12 rfl rfl, ⟨by decide +kernel, by decide +kernel, by decide +kernel⟩, by decide +kernel⟩
set_option maxRecDepth 100000 in
theorem im_mo_row : Cond.instanceMethod (gk_M 185).1 ∈ gk_TT := gk_mem 6 98 rfl rfl
set_option maxRecDepth 100000 in
theorem sl_mo_row : Cond.selects (gk_M 185).1.cls (gk_M 185).1 (gk_M 185).1 ∈ gk_TT := gk_mem 6 99 rfl rfl
set_option maxRecDepth 100000 in
theorem jk_mo_purse : gk_jok (gk_M 186) 1 := ⟨gk_mem 6 108 rfl rfl, gk_mem 1 12 rfl rfl, ⟨by decide +kernel, by decide +kernel, by decide +kernel⟩, by decide +kernel⟩
set_option maxRecDepth 100000 in
theorem im_mo_purse : Cond.instanceMethod (gk_M 186).1 ∈ gk_TT := gk_mem 6 106 rfl rfl
set_option maxRecDepth 100000 in
theorem sl_mo_purse : Cond.selects (gk_M 186).1.cls (gk_M 186).1 (gk_M 186).1 ∈ gk_TT := gk_mem 6 107 rfl rfl
set_option maxRecDepth 100000 in
theorem jk_mo_types : gk_jok (gk_M 187) 1 := ⟨gk_mem 6 117 rfl rfl, gk_mem 1 12 rfl rfl, ⟨by decide +kernel, by decide +kernel, by decide +kernel⟩, by decide +kernel⟩
set_option maxRecDepth 100000 in
theorem im_mo_types : Cond.instanceMethod (gk_M 187).1 ∈ gk_TT := gk_mem 6 116 rfl rfl
set_option maxRecDepth 100000 in
theorem sl_mo_types : Cond.selects (gk_M 187).1.cls (gk_M 187).1 (gk_M 187).1 ∈ gk_TT := gk_mem 0 44 rfl rfl
set_option maxRecDepth 100000 in
theorem jk_mo_feed : gk_jok (gk_M 188) 5 := ⟨gk_mem 6 113 rfl rfl, gk_mem 1 12 rfl rfl, ⟨by decide +kernel, by decide +kernel, by decide +kernel⟩, by decide +kernel⟩
set_option maxRecDepth 100000 in
theorem im_mo_feed : Cond.instanceMethod (gk_M 188).1 ∈ gk_TT := gk_mem 6 111 rfl rfl
set_option maxRecDepth 100000 in
theorem sl_mo_feed : Cond.selects (gk_M 188).1.cls (gk_M 188).1 (gk_M 188).1 ∈ gk_TT := gk_mem 6 112 rfl rfl
set_option maxRecDepth 100000 in
theorem jk_mo_end : gk_jok (gk_M 189) 1 := ⟨gk_mem 6 121 rfl rfl, gk_mem 1 12 rfl rfl, ⟨by decide +kernel, by decide +kernel, by decide +kernel⟩, by decide +kernel⟩
set_option maxRecDepth 100000 in
theorem im_mo_end : Cond.instanceMethod (gk_M 189).1 ∈ gk_TT := gk_mem 6 119 rfl rfl
set_option maxRecDepth 100000 in
theorem sl_mo_end : Cond.selects (gk_M 189).1.cls (gk_M 189).1 (gk_M 189).1 ∈ gk_TT := gk_mem 6 120 rfl rfl
set_option maxRecDepth 100000 in
theorem jk_mo_raw : gk_jok (gk_M 190) 1 := ⟨gk_mem 6 137 rfl rfl, gk_mem 1 12 rfl rfl, ⟨by decide +kernel, by decide +kernel, by decide +kernel⟩, by decide +kernel⟩
set_option maxRecDepth 100000 in
theorem im_mo_raw : Cond.instanceMethod (gk_M 190).1 ∈ gk_TT := gk_mem 6 136 rfl rfl
set_option maxRecDepth 100000 in
theorem sl_mo_raw : Cond.selects (gk_M 190).1.cls (gk_M 190).1 (gk_M 190).1 ∈ gk_TT := gk_mem 0 47 rfl rfl
set_option maxRecDepth 100000 in
theorem jk_mo_isLetter : gk_jok (gk_M 191) 1 := ⟨gk_mem 6 141 rfl rfl, gk_mem 1 12 rfl rfl, ⟨by decide +kernel, by decide +kernel, by decide +kernel⟩, by decide +kernel⟩
set_option maxRecDepth 100000 in
theorem im_mo_isLetter : Cond.instanceMethod (gk_M 191).1 ∈ gk_TT := gk_mem 6 140 rfl rfl
set_option maxRecDepth 100000 in
theorem sl_mo_isLetter : Cond.selects (gk_M 191).1.cls (gk_M 191).1 (gk_M 191).1 ∈ gk_TT := gk_mem 0 48 rfl rfl
set_option maxRecDepth 100000 in
theorem jk_mo_isDigit : gk_jok (gk_M 192) 1 := ⟨gk_mem 6 149 rfl rfl, gk_mem 1 12 rfl rfl, ⟨by decide +kernel, by decide +kernel, by decide +kernel⟩, by decide +kernel⟩
set_option maxRecDepth 100000 in
theorem im_mo_isDigit : Cond.instanceMethod (gk_M 192).1 ∈ gk_TT := gk_mem 6 148 rfl rfl
set_option maxRecDepth 100000 in
theorem sl_mo_isDigit : Cond.selects (gk_M 192).1.cls (gk_M 192).1 (gk_M 192).1 ∈ gk_TT := gk_mem 0 50 rfl rfl
set_option maxRecDepth 100000 in
theorem jk_mo_isMarkSign : gk_jok (gk_M 193) 1 := ⟨gk_mem 6 153 rfl rfl, gk_mem 1 12 rfl rfl, ⟨by decide +kernel, by decide +kernel, by decide +kernel⟩, by decide +kernel⟩
set_option maxRecDepth 100000 in
theorem im_mo_isMarkSign : Cond.instanceMethod (gk_M 193).1 ∈ gk_TT := gk_mem 6 152 rfl rfl
set_option maxRecDepth 100000 in
theorem sl_mo_isMarkSign : Cond.selects (gk_M 193).1.cls (gk_M 193).1 (gk_M 193).1 ∈ gk_TT := gk_mem 0 51 rfl rfl
set_option maxRecDepth 100000 in
theorem jk_mo_wordAt : gk_jok (gk_M 194) 2 := ⟨gk_mem 6 145 rfl rfl, gk_mem 1 12 rfl rfl, ⟨by decide +kernel, by decide +kernel, by decide +kernel⟩, by decide +kernel⟩
set_option maxRecDepth 100000 in
theorem im_mo_wordAt : Cond.instanceMethod (gk_M 194).1 ∈ gk_TT := gk_mem 6 144 rfl rfl
set_option maxRecDepth 100000 in
theorem sl_mo_wordAt : Cond.selects (gk_M 194).1.cls (gk_M 194).1 (gk_M 194).1 ∈ gk_TT := gk_mem 0 49 rfl rfl
set_option maxRecDepth 100000 in
theorem jk_mo_reads : gk_jok (gk_M 195) 0 := ⟨gk_mem 6 133 rfl rfl, gk_mem 1 12 rfl rfl, ⟨by decide +kernel, by decide +kernel, by decide +kernel⟩, by decide +kernel⟩
set_option maxRecDepth 100000 in
theorem im_mo_reads : Cond.instanceMethod (gk_M 195).1 ∈ gk_TT := gk_mem 6 132 rfl rfl
set_option maxRecDepth 100000 in
theorem sl_mo_reads : Cond.selects (gk_M 195).1.cls (gk_M 195).1 (gk_M 195).1 ∈ gk_TT := gk_mem 0 46 rfl rfl
set_option maxRecDepth 100000 in
theorem jk_mo_errs : gk_jok (gk_M 196) 1 := ⟨gk_mem 6 165 rfl rfl, gk_mem 1 12 rfl rfl, ⟨by decide +kernel, by decide +kernel, by decide +kernel⟩, by decide +kernel⟩
set_option maxRecDepth 100000 in
theorem im_mo_errs : Cond.instanceMethod (gk_M 196).1 ∈ gk_TT := gk_mem 6 164 rfl rfl
set_option maxRecDepth 100000 in
theorem sl_mo_errs : Cond.selects (gk_M 196).1.cls (gk_M 196).1 (gk_M 196).1 ∈ gk_TT := gk_mem 0 54 rfl rfl
set_option maxRecDepth 100000 in
theorem jk_mo_isWord : gk_jok (gk_M 197) 1 := ⟨gk_mem 6 161 rfl rfl, gk_mem 1 12 rfl rfl, ⟨by decide +kernel, by decide +kernel, by decide +kernel⟩, by decide +kernel⟩
set_option maxRecDepth 100000 in
theorem im_mo_isWord : Cond.instanceMethod (gk_M 197).1 ∈ gk_TT := gk_mem 6 160 rfl rfl
set_option maxRecDepth 100000 in
theorem sl_mo_isWord : Cond.selects (gk_M 197).1.cls (gk_M 197).1 (gk_M 197).1 ∈ gk_TT := gk_mem 0 53 rfl rfl
set_option maxRecDepth 100000 in
theorem jk_mo_isSign : gk_jok (gk_M 198) 1 := ⟨gk_mem 6 193 rfl rfl, gk_mem 1 12 rfl rfl, ⟨by decide +kernel, by decide +kernel, by decide +kernel⟩, by decide +kernel⟩
set_option maxRecDepth 100000 in
theorem im_mo_isSign : Cond.instanceMethod (gk_M 198).1 ∈ gk_TT := gk_mem 6 192 rfl rfl
set_option maxRecDepth 100000 in
theorem sl_mo_isSign : Cond.selects (gk_M 198).1.cls (gk_M 198).1 (gk_M 198).1 ∈ gk_TT := gk_mem 0 61 rfl rfl
set_option maxRecDepth 100000 in
theorem jk_mo_emits : gk_jok (gk_M 199) 2 := ⟨gk_mem 7 5 rfl rfl, gk_mem 1 12 rfl rfl, ⟨by decide +kernel, by decide +kernel, by decide +kernel⟩, by decide +kernel⟩
set_option maxRecDepth 100000 in
theorem im_mo_emits : Cond.instanceMethod (gk_M 199).1 ∈ gk_TT := gk_mem 7 4 rfl rfl
set_option maxRecDepth 100000 in
theorem sl_mo_emits : Cond.selects (gk_M 199).1.cls (gk_M 199).1 (gk_M 199).1 ∈ gk_TT := gk_mem 0 74 rfl rfl
set_option maxRecDepth 100000 in
theorem jk_mo_canAsk : gk_jok (gk_M 200) 1 := ⟨gk_mem 7 1 rfl rfl, gk_mem 1 12 rfl rfl, ⟨by decide +kernel, by decide +kernel, by decide +kernel⟩, by decide +kernel⟩
set_option maxRecDepth 100000 in
theorem im_mo_canAsk : Cond.instanceMethod (gk_M 200).1 ∈ gk_TT := gk_mem 7 0 rfl rfl
set_option maxRecDepth 100000 in
theorem sl_mo_canAsk : Cond.selects (gk_M 200).1.cls (gk_M 200).1 (gk_M 200).1 ∈ gk_TT := gk_mem 0 73 rfl rfl
set_option maxRecDepth 100000 in
theorem jk_mo_readUnit : gk_jok (gk_M 201) 0 := ⟨gk_mem 6 237 rfl rfl, gk_mem 1 12 rfl rfl, ⟨by decide +kernel, by decide +kernel, by decide +kernel⟩, by decide +kernel⟩
set_option maxRecDepth 100000 in
theorem im_mo_readUnit : Cond.instanceMethod (gk_M 201).1 ∈ gk_TT := gk_mem 6 236 rfl rfl
set_option maxRecDepth 100000 in
theorem sl_mo_readUnit : Cond.selects (gk_M 201).1.cls (gk_M 201).1 (gk_M 201).1 ∈ gk_TT := gk_mem 0 72 rfl rfl
set_option maxRecDepth 100000 in
theorem jk_mo_readProduct : gk_jok (gk_M 202) 0 := ⟨gk_mem 6 233 rfl rfl, gk_mem 1 12 rfl rfl, ⟨by decide +kernel, by decide +kernel, by decide +kernel⟩, by decide +kernel⟩
set_option maxRecDepth 100000 in
theorem im_mo_readProduct : Cond.instanceMethod (gk_M 202).1 ∈ gk_TT := gk_mem 6 232 rfl rfl
set_option maxRecDepth 100000 in
theorem sl_mo_readProduct : Cond.selects (gk_M 202).1.cls (gk_M 202).1 (gk_M 202).1 ∈ gk_TT := gk_mem 0 71 rfl rfl
set_option maxRecDepth 100000 in
theorem jk_mo_readSum : gk_jok (gk_M 203) 0 := ⟨gk_mem 6 229 rfl rfl, gk_mem 1 12 rfl rfl, ⟨by decide +kernel, by decide +kernel, by decide +kernel⟩, by decide +kernel⟩
set_option maxRecDepth 100000 in
theorem im_mo_readSum : Cond.instanceMethod (gk_M 203).1 ∈ gk_TT := gk_mem 6 228 rfl rfl
set_option maxRecDepth 100000 in
theorem sl_mo_readSum : Cond.selects (gk_M 203).1.cls (gk_M 203).1 (gk_M 203).1 ∈ gk_TT := gk_mem 0 70 rfl rfl
set_option maxRecDepth 100000 in
theorem jk_mo_readCompared : gk_jok (gk_M 204) 0 := ⟨gk_mem 7 17 rfl rfl, gk_mem 1 12 rfl rfl, ⟨by decide +kernel, by decide +kernel, by decide +kernel⟩, by decide +kernel⟩
set_option maxRecDepth 100000 in
theorem im_mo_readCompared : Cond.instanceMethod (gk_M 204).1 ∈ gk_TT := gk_mem 7 16 rfl rfl
set_option maxRecDepth 100000 in
theorem sl_mo_readCompared : Cond.selects (gk_M 204).1.cls (gk_M 204).1 (gk_M 204).1 ∈ gk_TT := gk_mem 0 77 rfl rfl
set_option maxRecDepth 100000 in
theorem jk_mo_waits : gk_jok (gk_M 205) 1 := ⟨gk_mem 7 13 rfl rfl, gk_mem 1 12 rfl rfl, ⟨by decide +kernel, by decide +kernel, by decide +kernel⟩, by decide +kernel⟩
set_option maxRecDepth 100000 in
theorem im_mo_waits : Cond.instanceMethod (gk_M 205).1 ∈ gk_TT := gk_mem 7 12 rfl rfl
set_option maxRecDepth 100000 in
theorem sl_mo_waits : Cond.selects (gk_M 205).1.cls (gk_M 205).1 (gk_M 205).1 ∈ gk_TT := gk_mem 0 76 rfl rfl
set_option maxRecDepth 100000 in
theorem jk_mo_settles : gk_jok (gk_M 206) 1 := ⟨gk_mem 7 21 rfl rfl, gk_mem 1 12 rfl rfl, ⟨by decide +kernel, by decide +kernel, by decide +kernel⟩, by decide +kernel⟩
set_option maxRecDepth 100000 in
theorem im_mo_settles : Cond.instanceMethod (gk_M 206).1 ∈ gk_TT := gk_mem 7 20 rfl rfl
set_option maxRecDepth 100000 in
theorem sl_mo_settles : Cond.selects (gk_M 206).1.cls (gk_M 206).1 (gk_M 206).1 ∈ gk_TT := gk_mem 0 78 rfl rfl
set_option maxRecDepth 100000 in
theorem jk_mo_readAny : gk_jok (gk_M 207) 0 := ⟨gk_mem 7 9 rfl rfl, gk_mem 1 12 rfl rfl, ⟨by decide +kernel, by decide +kernel, by decide +kernel⟩, by decide +kernel⟩
set_option maxRecDepth 100000 in
theorem im_mo_readAny : Cond.instanceMethod (gk_M 207).1 ∈ gk_TT := gk_mem 7 8 rfl rfl
set_option maxRecDepth 100000 in
theorem sl_mo_readAny : Cond.selects (gk_M 207).1.cls (gk_M 207).1 (gk_M 207).1 ∈ gk_TT := gk_mem 0 75 rfl rfl
set_option maxRecDepth 100000 in
theorem jk_mo_isLineWord : gk_jok (gk_M 208) 0 := ⟨gk_mem 6 225 rfl rfl, gk_mem 1 12 rfl rfl, ⟨by decide +kernel, by decide +kernel, by decide +kernel⟩, by decide +kernel⟩
set_option maxRecDepth 100000 in
theorem im_mo_isLineWord : Cond.instanceMethod (gk_M 208).1 ∈ gk_TT := gk_mem 6 224 rfl rfl
set_option maxRecDepth 100000 in
theorem sl_mo_isLineWord : Cond.selects (gk_M 208).1.cls (gk_M 208).1 (gk_M 208).1 ∈ gk_TT := gk_mem 0 69 rfl rfl
set_option maxRecDepth 100000 in
theorem jk_mo_readLaw : gk_jok (gk_M 209) 0 := ⟨gk_mem 6 221 rfl rfl, gk_mem 1 12 rfl rfl, ⟨by decide +kernel, by decide +kernel, by decide +kernel⟩, by decide +kernel⟩
set_option maxRecDepth 100000 in
theorem im_mo_readLaw : Cond.instanceMethod (gk_M 209).1 ∈ gk_TT := gk_mem 6 220 rfl rfl
set_option maxRecDepth 100000 in
theorem sl_mo_readLaw : Cond.selects (gk_M 209).1.cls (gk_M 209).1 (gk_M 209).1 ∈ gk_TT := gk_mem 0 68 rfl rfl
set_option maxRecDepth 100000 in
theorem jk_mo_takesLaw : gk_jok (gk_M 210) 1 := ⟨gk_mem 7 25 rfl rfl, gk_mem 1 12 rfl rfl, ⟨by decide +kernel, by decide +kernel, by decide +kernel⟩, by decide +kernel⟩
set_option maxRecDepth 100000 in
theorem im_mo_takesLaw : Cond.instanceMethod (gk_M 210).1 ∈ gk_TT := gk_mem 7 24 rfl rfl
set_option maxRecDepth 100000 in
theorem sl_mo_takesLaw : Cond.selects (gk_M 210).1.cls (gk_M 210).1 (gk_M 210).1 ∈ gk_TT := gk_mem 0 79 rfl rfl
set_option maxRecDepth 100000 in
theorem jk_mo_readNumber : gk_jok (gk_M 211) 2 := ⟨gk_mem 6 177 rfl rfl, gk_mem 1 12 rfl rfl, ⟨by decide +kernel, by decide +kernel, by decide +kernel⟩, by decide +kernel⟩
set_option maxRecDepth 100000 in
theorem im_mo_readNumber : Cond.instanceMethod (gk_M 211).1 ∈ gk_TT := gk_mem 6 176 rfl rfl
set_option maxRecDepth 100000 in
theorem sl_mo_readNumber : Cond.selects (gk_M 211).1.cls (gk_M 211).1 (gk_M 211).1 ∈ gk_TT := gk_mem 0 57 rfl rfl
set_option maxRecDepth 100000 in
theorem jk_mo_readMark : gk_jok (gk_M 212) 1 := ⟨gk_mem 6 189 rfl rfl, gk_mem 1 12 rfl rfl, ⟨by decide +kernel, by decide +kernel, by decide +kernel⟩, by decide +kernel⟩
set_option maxRecDepth 100000 in
theorem im_mo_readMark : Cond.instanceMethod (gk_M 212).1 ∈ gk_TT := gk_mem 6 188 rfl rfl
set_option maxRecDepth 100000 in
theorem sl_mo_readMark : Cond.selects (gk_M 212).1.cls (gk_M 212).1 (gk_M 212).1 ∈ gk_TT := gk_mem 0 60 rfl rfl
set_option maxRecDepth 100000 in
theorem jk_mo_readTold : gk_jok (gk_M 213) 3 := ⟨gk_mem 6 173 rfl rfl, gk_mem 1 12 rfl rfl, ⟨by decide +kernel, by decide +kernel, by decide +kernel⟩, by decide +kernel⟩
set_option maxRecDepth 100000 in
theorem im_mo_readTold : Cond.instanceMethod (gk_M 213).1 ∈ gk_TT := gk_mem 6 172 rfl rfl
set_option maxRecDepth 100000 in
theorem sl_mo_readTold : Cond.selects (gk_M 213).1.cls (gk_M 213).1 (gk_M 213).1 ∈ gk_TT := gk_mem 0 56 rfl rfl
set_option maxRecDepth 100000 in
theorem jk_mo_readOther : gk_jok (gk_M 214) 3 := ⟨gk_mem 6 181 rfl rfl, gk_mem 1 12 rfl rfl, ⟨by decide +kernel, by decide +kernel, by decide +kernel⟩, by decide +kernel⟩
set_option maxRecDepth 100000 in
theorem im_mo_readOther : Cond.instanceMethod (gk_M 214).1 ∈ gk_TT := gk_mem 6 180 rfl rfl
set_option maxRecDepth 100000 in
theorem sl_mo_readOther : Cond.selects (gk_M 214).1.cls (gk_M 214).1 (gk_M 214).1 ∈ gk_TT := gk_mem 0 58 rfl rfl
set_option maxRecDepth 100000 in
theorem jk_mo_takesPassage : gk_jok (gk_M 215) 2 := ⟨gk_mem 6 185 rfl rfl, gk_mem 1 12 rfl rfl, ⟨by decide +kernel, by decide +kernel, by decide +kernel⟩, by decide +kernel⟩
set_option maxRecDepth 100000 in
theorem im_mo_takesPassage : Cond.instanceMethod (gk_M 215).1 ∈ gk_TT := gk_mem 6 184 rfl rfl
set_option maxRecDepth 100000 in
theorem sl_mo_takesPassage : Cond.selects (gk_M 215).1.cls (gk_M 215).1 (gk_M 215).1 ∈ gk_TT := gk_mem 0 59 rfl rfl
set_option maxRecDepth 100000 in
theorem jk_mo_readPassage : gk_jok (gk_M 216) 0 := ⟨gk_mem 6 169 rfl rfl, gk_mem 1 12 rfl rfl, ⟨by decide +kernel, by decide +kernel, by decide +kernel⟩, by decide +kernel⟩
set_option maxRecDepth 100000 in
theorem im_mo_readPassage : Cond.instanceMethod (gk_M 216).1 ∈ gk_TT := gk_mem 6 168 rfl rfl
set_option maxRecDepth 100000 in
theorem sl_mo_readPassage : Cond.selects (gk_M 216).1.cls (gk_M 216).1 (gk_M 216).1 ∈ gk_TT := gk_mem 0 55 rfl rfl
set_option maxRecDepth 100000 in
theorem jk_mo_readPassages : gk_jok (gk_M 217) 0 := ⟨gk_mem 6 157 rfl rfl, gk_mem 1 12 rfl rfl, ⟨by decide +kernel, by decide +kernel, by decide +kernel⟩, by decide +kernel⟩
set_option maxRecDepth 100000 in
theorem im_mo_readPassages : Cond.instanceMethod (gk_M 217).1 ∈ gk_TT := gk_mem 6 156 rfl rfl
set_option maxRecDepth 100000 in
theorem sl_mo_readPassages : Cond.selects (gk_M 217).1.cls (gk_M 217).1 (gk_M 217).1 ∈ gk_TT := gk_mem 0 52 rfl rfl
set_option maxRecDepth 100000 in
theorem jk_mo_kindOfDeed : gk_jok (gk_M 218) 0 := ⟨gk_mem 6 205 rfl rfl, gk_mem 1 12 rfl rfl, ⟨by decide +kernel, by decide +kernel, by decide +kernel⟩, by decide +kernel⟩
set_option maxRecDepth 100000 in
theorem im_mo_kindOfDeed : Cond.instanceMethod (gk_M 218).1 ∈ gk_TT := gk_mem 6 204 rfl rfl
set_option maxRecDepth 100000 in
theorem sl_mo_kindOfDeed : Cond.selects (gk_M 218).1.cls (gk_M 218).1 (gk_M 218).1 ∈ gk_TT := gk_mem 0 64 rfl rfl
set_option maxRecDepth 100000 in
theorem jk_mo_readDeedMore : gk_jok (gk_M 219) 1 := ⟨gk_mem 6 209 rfl rfl, gk_mem 1 12 rfl rfl, ⟨by decide +kernel, by decide +kernel, by decide +kernel⟩, by decide +kernel⟩
set_option maxRecDepth 100000 in
theorem im_mo_readDeedMore : Cond.instanceMethod (gk_M 219).1 ∈ gk_TT := gk_mem 6 208 rfl rfl
set_option maxRecDepth 100000 in
theorem sl_mo_readDeedMore : Cond.selects (gk_M 219).1.cls (gk_M 219).1 (gk_M 219).1 ∈ gk_TT := gk_mem 0 65 rfl rfl
set_option maxRecDepth 100000 in
theorem jk_mo_readDeed : gk_jok (gk_M 220) 1 := ⟨gk_mem 6 201 rfl rfl, gk_mem 1 12 rfl rfl, ⟨by decide +kernel, by decide +kernel, by decide +kernel⟩, by decide +kernel⟩
set_option maxRecDepth 100000 in
theorem im_mo_readDeed : Cond.instanceMethod (gk_M 220).1 ∈ gk_TT := gk_mem 6 200 rfl rfl
set_option maxRecDepth 100000 in
theorem sl_mo_readDeed : Cond.selects (gk_M 220).1.cls (gk_M 220).1 (gk_M 220).1 ∈ gk_TT := gk_mem 0 63 rfl rfl
set_option maxRecDepth 100000 in
theorem jk_mo_readDiary : gk_jok (gk_M 221) 0 := ⟨gk_mem 6 197 rfl rfl, gk_mem 1 12 rfl rfl, ⟨by decide +kernel, by decide +kernel, by decide +kernel⟩, by decide +kernel⟩
set_option maxRecDepth 100000 in
theorem im_mo_readDiary : Cond.instanceMethod (gk_M 221).1 ∈ gk_TT := gk_mem 6 196 rfl rfl
set_option maxRecDepth 100000 in
theorem sl_mo_readDiary : Cond.selects (gk_M 221).1.cls (gk_M 221).1 (gk_M 221).1 ∈ gk_TT := gk_mem 0 62 rfl rfl
set_option maxRecDepth 100000 in
theorem jk_mo_readVouch : gk_jok (gk_M 222) 0 := ⟨gk_mem 6 217 rfl rfl, gk_mem 1 12 rfl rfl, ⟨by decide +kernel, by decide +kernel, by decide +kernel⟩, by decide +kernel⟩
set_option maxRecDepth 100000 in
theorem im_mo_readVouch : Cond.instanceMethod (gk_M 222).1 ∈ gk_TT := gk_mem 6 216 rfl rfl
set_option maxRecDepth 100000 in
theorem sl_mo_readVouch : Cond.selects (gk_M 222).1.cls (gk_M 222).1 (gk_M 222).1 ∈ gk_TT := gk_mem 0 67 rfl rfl
set_option maxRecDepth 100000 in
theorem jk_mo_readVouches : gk_jok (gk_M 223) 0 := ⟨gk_mem 6 213 rfl rfl, gk_mem 1 12 rfl rfl, ⟨by decide +kernel, by decide +kernel, by decide +kernel⟩, by decide +kernel⟩
set_option maxRecDepth 100000 in
theorem im_mo_readVouches : Cond.instanceMethod (gk_M 223).1 ∈ gk_TT := gk_mem 6 212 rfl rfl
set_option maxRecDepth 100000 in
theorem sl_mo_readVouches : Cond.selects (gk_M 223).1.cls (gk_M 223).1 (gk_M 223).1 ∈ gk_TT := gk_mem 0 66 rfl rfl
set_option maxRecDepth 100000 in
theorem jk_mo_readsText : gk_jok (gk_M 224) 1 := ⟨gk_mem 6 129 rfl rfl, gk_mem 1 12 rfl rfl, ⟨by decide +kernel, by decide +kernel, by decide +kernel⟩, by decide +kernel⟩
set_option maxRecDepth 100000 in
theorem im_mo_readsText : Cond.instanceMethod (gk_M 224).1 ∈ gk_TT := gk_mem 6 128 rfl rfl
set_option maxRecDepth 100000 in
theorem sl_mo_readsText : Cond.selects (gk_M 224).1.cls (gk_M 224).1 (gk_M 224).1 ∈ gk_TT := gk_mem 0 45 rfl rfl
set_option maxRecDepth 100000 in
theorem jk_mo_takesOther : gk_jok (gk_M 225) 2 := ⟨gk_mem 7 29 rfl rfl, gk_mem 1 12 rfl rfl, ⟨by decide +kernel, by decide +kernel, by decide +kernel⟩, by decide +kernel⟩
set_option maxRecDepth 100000 in
theorem im_mo_takesOther : Cond.instanceMethod (gk_M 225).1 ∈ gk_TT := gk_mem 7 28 rfl rfl
set_option maxRecDepth 100000 in
theorem sl_mo_takesOther : Cond.selects (gk_M 225).1.cls (gk_M 225).1 (gk_M 225).1 ∈ gk_TT := gk_mem 0 80 rfl rfl
set_option maxRecDepth 100000 in
theorem jk_mo_text : gk_jok (gk_M 226) 1 := ⟨gk_mem 6 125 rfl rfl, gk_mem 1 12 rfl rfl, ⟨by decide +kernel, by decide +kernel, by decide +kernel⟩, by decide +kernel⟩
set_option maxRecDepth 100000 in
theorem im_mo_text : Cond.instanceMethod (gk_M 226).1 ∈ gk_TT := gk_mem 6 123 rfl rfl
set_option maxRecDepth 100000 in
theorem sl_mo_text : Cond.selects (gk_M 226).1.cls (gk_M 226).1 (gk_M 226).1 ∈ gk_TT := gk_mem 6 124 rfl rfl
set_option maxRecDepth 100000 in
theorem jk_mo_fault : gk_jok (gk_M 227) 1 := ⟨gk_mem 7 33 rfl rfl, gk_mem 1 12 rfl rfl, ⟨by decide +kernel, by decide +kernel, by decide +kernel⟩, by decide +kernel⟩
set_option maxRecDepth 100000 in
theorem im_mo_fault : Cond.instanceMethod (gk_M 227).1 ∈ gk_TT := gk_mem 7 31 rfl rfl
set_option maxRecDepth 100000 in
theorem sl_mo_fault : Cond.selects (gk_M 227).1.cls (gk_M 227).1 (gk_M 227).1 ∈ gk_TT := gk_mem 7 32 rfl rfl
set_option maxRecDepth 100000 in
theorem jk_mo_twoOf : gk_jok (gk_M 228) 3 := ⟨gk_mem 7 105 rfl rfl, gk_mem 1 12 rfl rfl, ⟨by decide +kernel, by decide +kernel, by decide +kernel⟩, by decide +kernel⟩
set_option maxRecDepth 100000 in
theorem im_mo_twoOf : Cond.instanceMethod (gk_M 228).1 ∈ gk_TT := gk_mem 7 104 rfl rfl
set_option maxRecDepth 100000 in
theorem sl_mo_twoOf : Cond.selects (gk_M 228).1.cls (gk_M 228).1 (gk_M 228).1 ∈ gk_TT := gk_mem 0 97 rfl rfl
set_option maxRecDepth 100000 in
theorem jk_mo_runs : gk_jok (gk_M 229) 3 := ⟨gk_mem 7 101 rfl rfl, gk_mem 1 12 rfl rfl, ⟨by decide +kernel, by decide +kernel, by decide +kernel⟩, by decide +kernel⟩
set_option maxRecDepth 100000 in
theorem im_mo_runs : Cond.instanceMethod (gk_M 229).1 ∈ gk_TT := gk_mem 7 100 rfl rfl
set_option maxRecDepth 100000 in
theorem sl_mo_runs : Cond.selects (gk_M 229).1.cls (gk_M 229).1 (gk_M 229).1 ∈ gk_TT := gk_mem 0 96 rfl rfl
set_option maxRecDepth 100000 in
theorem jk_mo_lineOf : gk_jok (gk_M 230) 1 := ⟨gk_mem 7 97 rfl rfl, gk_mem 1 12 rfl rfl, ⟨by decide +kernel, by decide +kernel, by decide +kernel⟩, by decide +kernel⟩
set_option maxRecDepth 100000 in
theorem im_mo_lineOf : Cond.instanceMethod (gk_M 230).1 ∈ gk_TT := gk_mem 7 96 rfl rfl
set_option maxRecDepth 100000 in
theorem sl_mo_lineOf : Cond.selects (gk_M 230).1.cls (gk_M 230).1 (gk_M 230).1 ∈ gk_TT := gk_mem 0 95 rfl rfl
set_option maxRecDepth 100000 in
theorem jk_mo_lightOf : gk_jok (gk_M 231) 1 := ⟨gk_mem 7 89 rfl rfl, gk_mem 1 12 rfl rfl, ⟨by decide +kernel, by decide +kernel, by decide +kernel⟩, by decide +kernel⟩
set_option maxRecDepth 100000 in
theorem im_mo_lightOf : Cond.instanceMethod (gk_M 231).1 ∈ gk_TT := gk_mem 7 88 rfl rfl
set_option maxRecDepth 100000 in
theorem sl_mo_lightOf : Cond.selects (gk_M 231).1.cls (gk_M 231).1 (gk_M 231).1 ∈ gk_TT := gk_mem 0 93 rfl rfl
set_option maxRecDepth 100000 in
theorem jk_mo_asks : gk_jok (gk_M 232) 2 := ⟨gk_mem 7 57 rfl rfl, gk_mem 1 12 rfl rfl, ⟨by decide +kernel, by decide +kernel, by decide +kernel⟩, by decide +kernel⟩
set_option maxRecDepth 100000 in
theorem im_mo_asks : Cond.instanceMethod (gk_M 232).1 ∈ gk_TT := gk_mem 7 56 rfl rfl
set_option maxRecDepth 100000 in
theorem sl_mo_asks : Cond.selects (gk_M 232).1.cls (gk_M 232).1 (gk_M 232).1 ∈ gk_TT := gk_mem 0 85 rfl rfl
set_option maxRecDepth 100000 in
theorem jk_mo_lawTells : gk_jok (gk_M 233) 3 := ⟨gk_mem 7 93 rfl rfl, gk_mem 1 12 rfl rfl, ⟨by decide +kernel, by decide +kernel, by decide +kernel⟩, by decide +kernel⟩
set_option maxRecDepth 100000 in
theorem im_mo_lawTells : Cond.instanceMethod (gk_M 233).1 ∈ gk_TT := gk_mem 7 92 rfl rfl
set_option maxRecDepth 100000 in
theorem sl_mo_lawTells : Cond.selects (gk_M 233).1.cls (gk_M 233).1 (gk_M 233).1 ∈ gk_TT := gk_mem 0 94 rfl rfl
set_option maxRecDepth 100000 in
theorem jk_mo_creepsOf : gk_jok (gk_M 234) 2 := ⟨gk_mem 7 165 rfl rfl, gk_mem 1 12 rfl rfl, ⟨by decide +kernel, by decide +kernel, by decide +kernel⟩, by decide +kernel⟩
set_option maxRecDepth 100000 in
theorem im_mo_creepsOf : Cond.instanceMethod (gk_M 234).1 ∈ gk_TT := gk_mem 7 164 rfl rfl
set_option maxRecDepth 100000 in
theorem sl_mo_creepsOf : Cond.selects (gk_M 234).1.cls (gk_M 234).1 (gk_M 234).1 ∈ gk_TT := gk_mem 0 111 rfl rfl
set_option maxRecDepth 100000 in
theorem jk_mo_worthOf : gk_jok (gk_M 235) 1 := ⟨gk_mem 7 53 rfl rfl, gk_mem 1 12 rfl rfl, ⟨by decide +kernel, by decide +kernel, by decide +kernel⟩, by decide +kernel⟩
set_option maxRecDepth 100000 in
theorem im_mo_worthOf : Cond.instanceMethod (gk_M 235).1 ∈ gk_TT := gk_mem 7 52 rfl rfl
set_option maxRecDepth 100000 in
theorem sl_mo_worthOf : Cond.selects (gk_M 235).1.cls (gk_M 235).1 (gk_M 235).1 ∈ gk_TT := gk_mem 0 84 rfl rfl
set_option maxRecDepth 100000 in
theorem jk_mo_comesOf : gk_jok (gk_M 236) 1 := ⟨gk_mem 7 175 rfl rfl, gk_mem 1 12 rfl rfl, ⟨by decide +kernel, by decide +kernel, by decide +kernel⟩, by decide +kernel⟩
set_option maxRecDepth 100000 in
theorem im_mo_comesOf : Cond.instanceMethod (gk_M 236).1 ∈ gk_TT := gk_mem 7 174 rfl rfl
set_option maxRecDepth 100000 in
theorem sl_mo_comesOf : Cond.selects (gk_M 236).1.cls (gk_M 236).1 (gk_M 236).1 ∈ gk_TT := gk_mem 0 113 rfl rfl
set_option maxRecDepth 100000 in
theorem jk_mo_notes : gk_jok (gk_M 237) 3 := ⟨gk_mem 7 125 rfl rfl, gk_mem 1 12 rfl rfl, ⟨by decide +kernel, by decide +kernel, by decide +kernel⟩, by decide +kernel⟩
set_option maxRecDepth 100000 in
theorem im_mo_notes : Cond.instanceMethod (gk_M 237).1 ∈ gk_TT := gk_mem 7 124 rfl rfl
set_option maxRecDepth 100000 in
theorem sl_mo_notes : Cond.selects (gk_M 237).1.cls (gk_M 237).1 (gk_M 237).1 ∈ gk_TT := gk_mem 0 102 rfl rfl
set_option maxRecDepth 100000 in
theorem jk_mo_getsPaid : gk_jok (gk_M 238) 1 := ⟨gk_mem 7 133 rfl rfl, gk_mem 1 12 rfl rfl, ⟨by decide +kernel, by decide +kernel, by decide +kernel⟩, by decide +kernel⟩
set_option maxRecDepth 100000 in
theorem im_mo_getsPaid : Cond.instanceMethod (gk_M 238).1 ∈ gk_TT := gk_mem 7 132 rfl rfl
set_option maxRecDepth 100000 in
theorem sl_mo_getsPaid : Cond.selects (gk_M 238).1.cls (gk_M 238).1 (gk_M 238).1 ∈ gk_TT := gk_mem 0 104 rfl rfl
set_option maxRecDepth 100000 in
theorem jk_mo_isTold : gk_jok (gk_M 239) 3 := ⟨gk_mem 7 41 rfl rfl, gk_mem 1 12 rfl rfl, ⟨by decide +kernel, by decide +kernel, by decide +kernel⟩, by decide +kernel⟩
set_option maxRecDepth 100000 in
theorem im_mo_isTold : Cond.instanceMethod (gk_M 239).1 ∈ gk_TT := gk_mem 7 40 rfl rfl
set_option maxRecDepth 100000 in
theorem sl_mo_isTold : Cond.selects (gk_M 239).1.cls (gk_M 239).1 (gk_M 239).1 ∈ gk_TT := gk_mem 0 81 rfl rfl
set_option maxRecDepth 100000 in
theorem jk_mo_canAct : gk_jok (gk_M 240) 3 := ⟨gk_mem 7 49 rfl rfl, gk_mem 1 12 rfl rfl, ⟨by decide +kernel, by decide +kernel, by decide +kernel⟩, by decide +kernel⟩
set_option maxRecDepth 100000 in
theorem im_mo_canAct : Cond.instanceMethod (gk_M 240).1 ∈ gk_TT := gk_mem 7 48 rfl rfl
set_option maxRecDepth 100000 in
theorem sl_mo_canAct : Cond.selects (gk_M 240).1.cls (gk_M 240).1 (gk_M 240).1 ∈ gk_TT := gk_mem 0 83 rfl rfl
set_option maxRecDepth 100000 in
theorem jk_mo_isBought : gk_jok (gk_M 241) 1 := ⟨gk_mem 7 121 rfl rfl, gk_mem 1 12 rfl rfl, ⟨by decide +kernel, by decide +kernel, by decide +kernel⟩, by decide +kernel⟩
set_option maxRecDepth 100000 in
theorem im_mo_isBought : Cond.instanceMethod (gk_M 241).1 ∈ gk_TT := gk_mem 7 120 rfl rfl
set_option maxRecDepth 100000 in
theorem sl_mo_isBought : Cond.selects (gk_M 241).1.cls (gk_M 241).1 (gk_M 241).1 ∈ gk_TT := gk_mem 0 101 rfl rfl
set_option maxRecDepth 100000 in
theorem jk_mo_sells : gk_jok (gk_M 242) 1 := ⟨gk_mem 7 129 rfl rfl, gk_mem 1 12 rfl rfl, ⟨by decide +kernel, by decide +kernel, by decide +kernel⟩, by decide +kernel⟩
set_option maxRecDepth 100000 in
theorem im_mo_sells : Cond.instanceMethod (gk_M 242).1 ∈ gk_TT := gk_mem 7 128 rfl rfl
set_option maxRecDepth 100000 in
theorem sl_mo_sells : Cond.selects (gk_M 242).1.cls (gk_M 242).1 (gk_M 242).1 ∈ gk_TT := gk_mem 0 103 rfl rfl
set_option maxRecDepth 100000 in
theorem jk_mo_hoses : gk_jok (gk_M 243) 2 := ⟨gk_mem 7 141 rfl rfl, gk_mem 1 12 rfl rfl, ⟨by decide +kernel, by decide +kernel, by decide +kernel⟩, by decide +kernel⟩
set_option maxRecDepth 100000 in
theorem im_mo_hoses : Cond.instanceMethod (gk_M 243).1 ∈ gk_TT := gk_mem 7 140 rfl rfl
set_option maxRecDepth 100000 in
theorem sl_mo_hoses : Cond.selects (gk_M 243).1.cls (gk_M 243).1 (gk_M 243).1 ∈ gk_TT := gk_mem 0 106 rfl rfl
set_option maxRecDepth 100000 in
theorem jk_mo_wets : gk_jok (gk_M 244) 2 := ⟨gk_mem 7 145 rfl rfl, gk_mem 1 12 rfl rfl, ⟨by decide +kernel, by decide +kernel, by decide +kernel⟩, by decide +kernel⟩
set_option maxRecDepth 100000 in
theorem im_mo_wets : Cond.instanceMethod (gk_M 244).1 ∈ gk_TT := gk_mem 7 144 rfl rfl
set_option maxRecDepth 100000 in
theorem sl_mo_wets : Cond.selects (gk_M 244).1.cls (gk_M 244).1 (gk_M 244).1 ∈ gk_TT := gk_mem 0 107 rfl rfl
set_option maxRecDepth 100000 in
theorem jk_mo_acts : gk_jok (gk_M 245) 3 := ⟨gk_mem 7 117 rfl rfl, gk_mem 1 12 rfl rfl, ⟨by decide +kernel, by decide +kernel, by decide +kernel⟩, by decide +kernel⟩
set_option maxRecDepth 100000 in
theorem im_mo_acts : Cond.instanceMethod (gk_M 245).1 ∈ gk_TT := gk_mem 7 116 rfl rfl
set_option maxRecDepth 100000 in
theorem sl_mo_acts : Cond.selects (gk_M 245).1.cls (gk_M 245).1 (gk_M 245).1 ∈ gk_TT := gk_mem 0 100 rfl rfl
set_option maxRecDepth 100000 in
theorem jk_mo_act : gk_jok (gk_M 246) 3 := ⟨gk_mem 7 37 rfl rfl, gk_mem 1 12 rfl rfl, ⟨by decide +kernel, by decide +kernel, by decide +kernel⟩, by decide +kernel⟩
set_option maxRecDepth 100000 in
theorem im_mo_act : Cond.instanceMethod (gk_M 246).1 ∈ gk_TT := gk_mem 7 35 rfl rfl
set_option maxRecDepth 100000 in
theorem sl_mo_act : Cond.selects (gk_M 246).1.cls (gk_M 246).1 (gk_M 246).1 ∈ gk_TT := gk_mem 7 36 rfl rfl
set_option maxRecDepth 100000 in
theorem jk_mo_creepsOn : gk_jok (gk_M 247) 1 := ⟨gk_mem 7 161 rfl rfl, gk_mem 1 12 rfl rfl, ⟨by decide +kernel, by decide +kernel, by decide +kernel⟩, by decide +kernel⟩
set_option maxRecDepth 100000 in
theorem im_mo_creepsOn : Cond.instanceMethod (gk_M 247).1 ∈ gk_TT := gk_mem 7 160 rfl rfl
set_option maxRecDepth 100000 in
theorem sl_mo_creepsOn : Cond.selects (gk_M 247).1.cls (gk_M 247).1 (gk_M 247).1 ∈ gk_TT := gk_mem 0 110 rfl rfl
set_option maxRecDepth 100000 in
theorem jk_mo_isShown : gk_jok (gk_M 248) 1 := ⟨gk_mem 7 157 rfl rfl, gk_mem 1 12 rfl rfl, ⟨by decide +kernel, by decide +kernel, by decide +kernel⟩, by decide +kernel⟩
set_option maxRecDepth 100000 in
theorem im_mo_isShown : Cond.instanceMethod (gk_M 248).1 ∈ gk_TT := gk_mem 7 156 rfl rfl
set_option maxRecDepth 100000 in
theorem sl_mo_isShown : Cond.selects (gk_M 248).1.cls (gk_M 248).1 (gk_M 248).1 ∈ gk_TT := gk_mem 0 109 rfl rfl
set_option maxRecDepth 100000 in
theorem jk_mo_goesBy : gk_jok (gk_M 249) 0 := ⟨gk_mem 7 153 rfl rfl, gk_mem 1 12 rfl rfl, ⟨by decide +kernel, by decide +kernel, by decide +kernel⟩, by decide +kernel⟩
set_option maxRecDepth 100000 in
theorem im_mo_goesBy : Cond.instanceMethod (gk_M 249).1 ∈ gk_TT := gk_mem 7 152 rfl rfl
set_option maxRecDepth 100000 in
theorem sl_mo_goesBy : Cond.selects (gk_M 249).1.cls (gk_M 249).1 (gk_M 249).1 ∈ gk_TT := gk_mem 0 108 rfl rfl
set_option maxRecDepth 100000 in
theorem jk_mo_days : gk_jok (gk_M 250) 1 := ⟨gk_mem 7 149 rfl rfl, gk_mem 1 12 rfl rfl, ⟨by decide +kernel, by decide +kernel, by decide +kernel⟩, by decide +kernel⟩
set_option maxRecDepth 100000 in
theorem im_mo_days : Cond.instanceMethod (gk_M 250).1 ∈ gk_TT := gk_mem 7 147 rfl rfl
set_option maxRecDepth 100000 in
theorem sl_mo_days : Cond.selects (gk_M 250).1.cls (gk_M 250).1 (gk_M 250).1 ∈ gk_TT := gk_mem 7 148 rfl rfl
set_option maxRecDepth 100000 in
theorem jk_mo_of : gk_jok (gk_M 251) 2 := ⟨gk_mem 7 179 rfl rfl, gk_mem 1 12 rfl rfl, ⟨by decide +kernel, by decide +kernel, by decide +kernel⟩, by decide +kernel⟩
set_option maxRecDepth 100000 in
theorem im_mo_of : Cond.instanceMethod (gk_M 251).1 ∈ gk_TT := gk_mem 7 177 rfl rfl
set_option maxRecDepth 100000 in
theorem sl_mo_of : Cond.selects (gk_M 251).1.cls (gk_M 251).1 (gk_M 251).1 ∈ gk_TT := gk_mem 7 178 rfl rfl
set_option maxRecDepth 100000 in
theorem jk_mo_creeps : gk_jok (gk_M 252) 2 := ⟨gk_mem 7 183 rfl rfl, gk_mem 1 12 rfl rfl, ⟨by decide +kernel, by decide +kernel, by decide +kernel⟩, by decide +kernel⟩
set_option maxRecDepth 100000 in
theorem im_mo_creeps : Cond.instanceMethod (gk_M 252).1 ∈ gk_TT := gk_mem 7 181 rfl rfl
set_option maxRecDepth 100000 in
theorem sl_mo_creeps : Cond.selects (gk_M 252).1.cls (gk_M 252).1 (gk_M 252).1 ∈ gk_TT := gk_mem 7 182 rfl rfl
set_option maxRecDepth 100000 in
theorem jk_mo_room : gk_jok (gk_M 253) 2 := ⟨gk_mem 7 187 rfl rfl, gk_mem 1 12 rfl rfl, ⟨by decide +kernel, by decide +kernel, by decide +kernel⟩, by decide +kernel⟩
set_option maxRecDepth 100000 in
theorem im_mo_room : Cond.instanceMethod (gk_M 253).1 ∈ gk_TT := gk_mem 7 185 rfl rfl
set_option maxRecDepth 100000 in
theorem sl_mo_room : Cond.selects (gk_M 253).1.cls (gk_M 253).1 (gk_M 253).1 ∈ gk_TT := gk_mem 7 186 rfl rfl
set_option maxRecDepth 100000 in
theorem jk_mo_book : gk_jok (gk_M 254) 2 := ⟨gk_mem 7 191 rfl rfl, gk_mem 1 12 rfl rfl, ⟨by decide +kernel, by decide +kernel, by decide +kernel⟩, by decide +kernel⟩
set_option maxRecDepth 100000 in
theorem im_mo_book : Cond.instanceMethod (gk_M 254).1 ∈ gk_TT := gk_mem 7 189 rfl rfl
set_option maxRecDepth 100000 in
theorem sl_mo_book : Cond.selects (gk_M 254).1.cls (gk_M 254).1 (gk_M 254).1 ∈ gk_TT := gk_mem 7 190 rfl rfl
set_option maxRecDepth 100000 in
theorem jk_mo_ownedSet : gk_jok (gk_M 255) 0 := ⟨gk_mem 8 116 rfl rfl, gk_mem 1 12 rfl rfl, ⟨by decide +kernel, by decide +kernel, by decide +kernel⟩, by decide +kernel⟩
set_option maxRecDepth 100000 in
theorem im_mo_ownedSet : Cond.instanceMethod (gk_M 255).1 ∈ gk_TT := gk_mem 8 115 rfl rfl
set_option maxRecDepth 100000 in
theorem sl_mo_ownedSet : Cond.selects (gk_M 255).1.cls (gk_M 255).1 (gk_M 255).1 ∈ gk_TT := gk_mem 0 146 rfl rfl
set_option maxRecDepth 100000 in
theorem jk_mo_goes : gk_jok (gk_M 256) 2 := ⟨gk_mem 7 195 rfl rfl, gk_mem 1 12 rfl rfl, ⟨by decide +kernel, by decide +kernel, by decide +kernel⟩, by decide +kernel⟩
set_option maxRecDepth 100000 in
theorem im_mo_goes : Cond.instanceMethod (gk_M 256).1 ∈ gk_TT := gk_mem 7 193 rfl rfl
set_option maxRecDepth 100000 in
theorem sl_mo_goes : Cond.selects (gk_M 256).1.cls (gk_M 256).1 (gk_M 256).1 ∈ gk_TT := gk_mem 7 194 rfl rfl
set_option maxRecDepth 100000 in
theorem jk_mo_isBeside : gk_jok (gk_M 257) 2 := ⟨gk_mem 7 219 rfl rfl, gk_mem 1 12 rfl rfl, ⟨by decide +kernel, by decide +kernel, by decide +kernel⟩, by decide +kernel⟩
set_option maxRecDepth 100000 in
theorem im_mo_isBeside : Cond.instanceMethod (gk_M 257).1 ∈ gk_TT := gk_mem 7 218 rfl rfl
set_option maxRecDepth 100000 in
theorem sl_mo_isBeside : Cond.selects (gk_M 257).1.cls (gk_M 257).1 (gk_M 257).1 ∈ gk_TT := gk_mem 0 118 rfl rfl
set_option maxRecDepth 100000 in
theorem jk_mo_findsParts : gk_jok (gk_M 258) 2 := ⟨gk_mem 7 215 rfl rfl, gk_mem 1 12 rfl rfl, ⟨by decide +kernel, by decide +kernel, by decide +kernel⟩, by decide +kernel⟩
set_option maxRecDepth 100000 in
theorem im_mo_findsParts : Cond.instanceMethod (gk_M 258).1 ∈ gk_TT := gk_mem 7 214 rfl rfl
set_option maxRecDepth 100000 in
theorem sl_mo_findsParts : Cond.selects (gk_M 258).1.cls (gk_M 258).1 (gk_M 258).1 ∈ gk_TT := gk_mem 0 117 rfl rfl
set_option maxRecDepth 100000 in
theorem jk_mo_isAtEdge : gk_jok (gk_M 259) 1 := ⟨gk_mem 7 235 rfl rfl, gk_mem 1 12 rfl rfl, ⟨by decide +kernel, by decide +kernel, by decide +kernel⟩, by decide +kernel⟩
set_option maxRecDepth 100000 in
theorem im_mo_isAtEdge : Cond.instanceMethod (gk_M 259).1 ∈ gk_TT := gk_mem 7 234 rfl rfl
set_option maxRecDepth 100000 in
theorem sl_mo_isAtEdge : Cond.selects (gk_M 259).1.cls (gk_M 259).1 (gk_M 259).1 ∈ gk_TT := gk_mem 0 122 rfl rfl
set_option maxRecDepth 100000 in
theorem jk_mo_comesOut : gk_jok (gk_M 260) 1 := ⟨gk_mem 7 231 rfl rfl, gk_mem 1 12 rfl rfl, ⟨by decide +kernel, by decide +kernel, by decide +kernel⟩, by decide +kernel⟩
set_option maxRecDepth 100000 in
theorem im_mo_comesOut : Cond.instanceMethod (gk_M 260).1 ∈ gk_TT := gk_mem 7 230 rfl rfl
set_option maxRecDepth 100000 in
theorem sl_mo_comesOut : Cond.selects (gk_M 260).1.cls (gk_M 260).1 (gk_M 260).1 ∈ gk_TT := gk_mem 0 121 rfl rfl
set_option maxRecDepth 100000 in
theorem jk_mo_islandsOf : gk_jok (gk_M 261) 1 := ⟨gk_mem 7 211 rfl rfl, gk_mem 1 12 rfl rfl, ⟨by decide +kernel, by decide +kernel, by decide +kernel⟩, by decide +kernel⟩
set_option maxRecDepth 100000 in
theorem im_mo_islandsOf : Cond.instanceMethod (gk_M 261).1 ∈ gk_TT := gk_mem 7 210 rfl rfl
set_option maxRecDepth 100000 in
theorem sl_mo_islandsOf : Cond.selects (gk_M 261).1.cls (gk_M 261).1 (gk_M 261).1 ∈ gk_TT := gk_mem 0 116 rfl rfl
set_option maxRecDepth 100000 in
theorem jk_mo_holesOf : gk_jok (gk_M 262) 1 := ⟨gk_mem 7 227 rfl rfl, gk_mem 1 12 rfl rfl, ⟨by decide +kernel, by decide +kernel, by decide +kernel⟩, by decide +kernel⟩
set_option maxRecDepth 100000 in
theorem im_mo_holesOf : Cond.instanceMethod (gk_M 262).1 ∈ gk_TT := gk_mem 7 226 rfl rfl
set_option maxRecDepth 100000 in
theorem sl_mo_holesOf : Cond.selects (gk_M 262).1.cls (gk_M 262).1 (gk_M 262).1 ∈ gk_TT := gk_mem 0 120 rfl rfl
set_option maxRecDepth 100000 in
theorem jk_mo_takesOwn : gk_jok (gk_M 263) 1 := ⟨gk_mem 8 3 rfl rfl, gk_mem 1 12 rfl rfl, ⟨by decide +kernel, by decide +kernel, by decide +kernel⟩, by decide +kernel⟩
set_option maxRecDepth 100000 in
theorem im_mo_takesOwn : Cond.instanceMethod (gk_M 263).1 ∈ gk_TT := gk_mem 8 2 rfl rfl
set_option maxRecDepth 100000 in
theorem sl_mo_takesOwn : Cond.selects (gk_M 263).1.cls (gk_M 263).1 (gk_M 263).1 ∈ gk_TT := gk_mem 0 124 rfl rfl
set_option maxRecDepth 100000 in
theorem jk_mo_isOwnLeft : gk_jok (gk_M 264) 0 := ⟨gk_mem 8 7 rfl rfl, gk_mem 1 12 rfl rfl, ⟨by decide +kernel, by decide +kernel, by decide +kernel⟩, by decide +kernel⟩
set_option maxRecDepth 100000 in
theorem im_mo_isOwnLeft : Cond.instanceMethod (gk_M 264).1 ∈ gk_TT := gk_mem 8 6 rfl rfl
set_option maxRecDepth 100000 in
theorem sl_mo_isOwnLeft : Cond.selects (gk_M 264).1.cls (gk_M 264).1 (gk_M 264).1 ∈ gk_TT := gk_mem 0 125 rfl rfl
set_option maxRecDepth 100000 in
theorem jk_mo_shrinks : gk_jok (gk_M 265) 0 := ⟨gk_mem 8 11 rfl rfl, gk_mem 1 12 rfl rfl, ⟨by decide +kernel, by decide +kernel, by decide +kernel⟩, by decide +kernel⟩
set_option maxRecDepth 100000 in
theorem im_mo_shrinks : Cond.instanceMethod (gk_M 265).1 ∈ gk_TT := gk_mem 8 10 rfl rfl
set_option maxRecDepth 100000 in
theorem sl_mo_shrinks : Cond.selects (gk_M 265).1.cls (gk_M 265).1 (gk_M 265).1 ∈ gk_TT := gk_mem 0 126 rfl rfl
set_option maxRecDepth 100000 in
theorem jk_mo_depthOf : gk_jok (gk_M 266) 1 := ⟨gk_mem 7 239 rfl rfl, gk_mem 1 12 rfl rfl, ⟨by decide +kernel, by decide +kernel, by decide +kernel⟩, by decide +kernel⟩
set_option maxRecDepth 100000 in
theorem im_mo_depthOf : Cond.instanceMethod (gk_M 266).1 ∈ gk_TT := gk_mem 7 238 rfl rfl
set_option maxRecDepth 100000 in
theorem sl_mo_depthOf : Cond.selects (gk_M 266).1.cls (gk_M 266).1 (gk_M 266).1 ∈ gk_TT := gk_mem 0 123 rfl rfl
set_option maxRecDepth 100000 in
theorem jk_mo_shape : gk_jok (gk_M 267) 2 := ⟨gk_mem 7 207 rfl rfl, gk_mem 1 12 rfl rfl, ⟨by decide +kernel, by decide +kernel, by decide +kernel⟩, by decide +kernel⟩
set_option maxRecDepth 100000 in
theorem im_mo_shape : Cond.instanceMethod (gk_M 267).1 ∈ gk_TT := gk_mem 7 205 rfl rfl
set_option maxRecDepth 100000 in
theorem sl_mo_shape : Cond.selects (gk_M 267).1.cls (gk_M 267).1 (gk_M 267).1 ∈ gk_TT := gk_mem 7 206 rfl rfl
set_option maxRecDepth 100000 in
theorem jk_mo_mirrors : gk_jok (gk_M 268) 0 := ⟨gk_mem 8 23 rfl rfl, gk_mem 1 12 rfl rfl, ⟨by decide +kernel, by decide +kernel, by decide +kernel⟩, by decide +kernel⟩
set_option maxRecDepth 100000 in
theorem im_mo_mirrors : Cond.instanceMethod (gk_M 268).1 ∈ gk_TT := gk_mem 8 22 rfl rfl
set_option maxRecDepth 100000 in
theorem sl_mo_mirrors : Cond.selects (gk_M 268).1.cls (gk_M 268).1 (gk_M 268).1 ∈ gk_TT := gk_mem 0 128 rfl rfl
set_option maxRecDepth 100000 in
theorem jk_mo_turnsRight : gk_jok (gk_M 269) 0 := ⟨gk_mem 8 27 rfl rfl, gk_mem 1 12 rfl rfl, ⟨by decide +kernel, by decide +kernel, by decide +kernel⟩, by decide +kernel⟩
set_option maxRecDepth 100000 in
theorem im_mo_turnsRight : Cond.instanceMethod (gk_M 269).1 ∈ gk_TT := gk_mem 8 26 rfl rfl
set_option maxRecDepth 100000 in
theorem sl_mo_turnsRight : Cond.selects (gk_M 269).1.cls (gk_M 269).1 (gk_M 269).1 ∈ gk_TT := gk_mem 0 129 rfl rfl
set_option maxRecDepth 100000 in
theorem jk_mo_pushes : gk_jok (gk_M 270) 0 := ⟨gk_mem 8 19 rfl rfl, gk_mem 1 12 rfl rfl, ⟨by decide +kernel, by decide +kernel, by decide +kernel⟩, by decide +kernel⟩
set_option maxRecDepth 100000 in
theorem im_mo_pushes : Cond.instanceMethod (gk_M 270).1 ∈ gk_TT := gk_mem 8 18 rfl rfl
set_option maxRecDepth 100000 in
theorem sl_mo_pushes : Cond.selects (gk_M 270).1.cls (gk_M 270).1 (gk_M 270).1 ∈ gk_TT := gk_mem 0 127 rfl rfl
set_option maxRecDepth 100000 in
theorem jk_mo_isAim : gk_jok (gk_M 271) 0 := ⟨gk_mem 8 31 rfl rfl, gk_mem 1 12 rfl rfl, ⟨by decide +kernel, by decide +kernel, by decide +kernel⟩, by decide +kernel⟩
set_option maxRecDepth 100000 in
theorem im_mo_isAim : Cond.instanceMethod (gk_M 271).1 ∈ gk_TT := gk_mem 8 30 rfl rfl
set_option maxRecDepth 100000 in
theorem sl_mo_isAim : Cond.selects (gk_M 271).1.cls (gk_M 271).1 (gk_M 271).1 ∈ gk_TT := gk_mem 0 130 rfl rfl
set_option maxRecDepth 100000 in
theorem jk_mo_turned : gk_jok (gk_M 272) 2 := ⟨gk_mem 8 15 rfl rfl, gk_mem 1 12 rfl rfl, ⟨by decide +kernel, by decide +kernel, by decide +kernel⟩, by decide +kernel⟩
set_option maxRecDepth 100000 in
theorem im_mo_turned : Cond.instanceMethod (gk_M 272).1 ∈ gk_TT := gk_mem 8 13 rfl rfl
set_option maxRecDepth 100000 in
theorem sl_mo_turned : Cond.selects (gk_M 272).1.cls (gk_M 272).1 (gk_M 272).1 ∈ gk_TT := gk_mem 8 14 rfl rfl
set_option maxRecDepth 100000 in
theorem jk_mo_isSquare : gk_jok (gk_M 273) 3 := ⟨gk_mem 8 43 rfl rfl, gk_mem 1 12 rfl rfl, ⟨by decide +kernel, by decide +kernel, by decide +kernel⟩, by decide +kernel⟩
set_option maxRecDepth 100000 in
theorem im_mo_isSquare : Cond.instanceMethod (gk_M 273).1 ∈ gk_TT := gk_mem 8 42 rfl rfl
set_option maxRecDepth 100000 in
theorem sl_mo_isSquare : Cond.selects (gk_M 273).1.cls (gk_M 273).1 (gk_M 273).1 ∈ gk_TT := gk_mem 0 132 rfl rfl
set_option maxRecDepth 100000 in
theorem jk_mo_firstSquare : gk_jok (gk_M 274) 2 := ⟨gk_mem 8 39 rfl rfl, gk_mem 1 12 rfl rfl, ⟨by decide +kernel, by decide +kernel, by decide +kernel⟩, by decide +kernel⟩
set_option maxRecDepth 100000 in
theorem im_mo_firstSquare : Cond.instanceMethod (gk_M 274).1 ∈ gk_TT := gk_mem 8 38 rfl rfl
set_option maxRecDepth 100000 in
theorem sl_mo_firstSquare : Cond.selects (gk_M 274).1.cls (gk_M 274).1 (gk_M 274).1 ∈ gk_TT := gk_mem 0 131 rfl rfl
set_option maxRecDepth 100000 in
theorem jk_mo_restOf : gk_jok (gk_M 275) 2 := ⟨gk_mem 8 47 rfl rfl, gk_mem 1 12 rfl rfl, ⟨by decide +kernel, by decide +kernel, by decide +kernel⟩, by decide +kernel⟩
set_option maxRecDepth 100000 in
theorem im_mo_restOf : Cond.instanceMethod (gk_M 275).1 ∈ gk_TT := gk_mem 8 46 rfl rfl
set_option maxRecDepth 100000 in
theorem sl_mo_restOf : Cond.selects (gk_M 275).1.cls (gk_M 275).1 (gk_M 275).1 ∈ gk_TT := gk_mem 0 133 rfl rfl
set_option maxRecDepth 100000 in
theorem jk_mo_isRound : gk_jok (gk_M 276) 3 := ⟨gk_mem 8 55 rfl rfl, gk_mem 1 12 rfl rfl, ⟨by decide +kernel, by decide +kernel, by decide +kernel⟩, by decide +kernel⟩
set_option maxRecDepth 100000 in
theorem im_mo_isRound : Cond.instanceMethod (gk_M 276).1 ∈ gk_TT := gk_mem 8 54 rfl rfl
set_option maxRecDepth 100000 in
theorem sl_mo_isRound : Cond.selects (gk_M 276).1.cls (gk_M 276).1 (gk_M 276).1 ∈ gk_TT := gk_mem 0 135 rfl rfl
set_option maxRecDepth 100000 in
theorem jk_mo_firstRound : gk_jok (gk_M 277) 2 := ⟨gk_mem 8 51 rfl rfl, gk_mem 1 12 rfl rfl, ⟨by decide +kernel, by decide +kernel, by decide +kernel⟩, by decide +kernel⟩
set_option maxRecDepth 100000 in
theorem im_mo_firstRound : Cond.instanceMethod (gk_M 277).1 ∈ gk_TT := gk_mem 8 50 rfl rfl
set_option maxRecDepth 100000 in
theorem sl_mo_firstRound : Cond.selects (gk_M 277).1.cls (gk_M 277).1 (gk_M 277).1 ∈ gk_TT := gk_mem 0 134 rfl rfl
set_option maxRecDepth 100000 in
theorem jk_mo_square : gk_jok (gk_M 278) 2 := ⟨gk_mem 8 35 rfl rfl, gk_mem 1 12 rfl rfl, ⟨by decide +kernel, by decide +kernel, by decide +kernel⟩, by decide +kernel⟩
set_option maxRecDepth 100000 in
theorem im_mo_square : Cond.instanceMethod (gk_M 278).1 ∈ gk_TT := gk_mem 8 33 rfl rfl
set_option maxRecDepth 100000 in
theorem sl_mo_square : Cond.selects (gk_M 278).1.cls (gk_M 278).1 (gk_M 278).1 ∈ gk_TT := gk_mem 8 34 rfl rfl
set_option maxRecDepth 100000 in
theorem jk_mo_pushedRow : gk_jok (gk_M 279) 4 := ⟨gk_mem 8 67 rfl rfl, gk_mem 1 12 rfl rfl, ⟨by decide +kernel, by decide +kernel, by decide +kernel⟩, by decide +kernel⟩
set_option maxRecDepth 100000 in
theorem im_mo_pushedRow : Cond.instanceMethod (gk_M 279).1 ∈ gk_TT := gk_mem 8 66 rfl rfl
set_option maxRecDepth 100000 in
theorem sl_mo_pushedRow : Cond.selects (gk_M 279).1.cls (gk_M 279).1 (gk_M 279).1 ∈ gk_TT := gk_mem 0 137 rfl rfl
set_option maxRecDepth 100000 in
theorem jk_mo_couplesBy : gk_jok (gk_M 280) 4 := ⟨gk_mem 8 63 rfl rfl, gk_mem 1 12 rfl rfl, ⟨by decide +kernel, by decide +kernel, by decide +kernel⟩, by decide +kernel⟩
set_option maxRecDepth 100000 in
theorem im_mo_couplesBy : Cond.instanceMethod (gk_M 280).1 ∈ gk_TT := gk_mem 8 62 rfl rfl
set_option maxRecDepth 100000 in
theorem sl_mo_couplesBy : Cond.selects (gk_M 280).1.cls (gk_M 280).1 (gk_M 280).1 ∈ gk_TT := gk_mem 0 136 rfl rfl
set_option maxRecDepth 100000 in
theorem jk_mo_fit : gk_jok (gk_M 281) 3 := ⟨gk_mem 8 59 rfl rfl, gk_mem 1 12 rfl rfl, ⟨by decide +kernel, by decide +kernel, by decide +kernel⟩, by decide +kernel⟩
set_option maxRecDepth 100000 in
theorem im_mo_fit : Cond.instanceMethod (gk_M 281).1 ∈ gk_TT := gk_mem 8 57 rfl rfl
set_option maxRecDepth 100000 in
theorem sl_mo_fit : Cond.selects (gk_M 281).1.cls (gk_M 281).1 (gk_M 281).1 ∈ gk_TT := gk_mem 8 58 rfl rfl
set_option maxRecDepth 100000 in
theorem jk_mo_stepsBy : gk_jok (gk_M 282) 3 := ⟨gk_mem 8 79 rfl rfl, gk_mem 1 12 rfl rfl, ⟨by decide +kernel, by decide +kernel, by decide +kernel⟩, by decide +kernel⟩
set_option maxRecDepth 100000 in
theorem im_mo_stepsBy : Cond.instanceMethod (gk_M 282).1 ∈ gk_TT := gk_mem 8 78 rfl rfl
set_option maxRecDepth 100000 in
theorem sl_mo_stepsBy : Cond.selects (gk_M 282).1.cls (gk_M 282).1 (gk_M 282).1 ∈ gk_TT := gk_mem 0 139 rfl rfl
set_option maxRecDepth 100000 in
theorem jk_mo_beside : gk_jok (gk_M 283) 2 := ⟨gk_mem 8 92 rfl rfl, gk_mem 1 12 rfl rfl, ⟨by decide +kernel, by decide +kernel, by decide +kernel⟩, by decide +kernel⟩
set_option maxRecDepth 100000 in
theorem im_mo_beside : Cond.instanceMethod (gk_M 283).1 ∈ gk_TT := gk_mem 8 91 rfl rfl
set_option maxRecDepth 100000 in
theorem sl_mo_beside : Cond.selects (gk_M 283).1.cls (gk_M 283).1 (gk_M 283).1 ∈ gk_TT := gk_mem 0 142 rfl rfl
set_option maxRecDepth 100000 in
theorem jk_mo_comesTo : gk_jok (gk_M 284) 2 := ⟨gk_mem 8 88 rfl rfl, gk_mem 1 12 rfl rfl, ⟨by decide +kernel, by decide +kernel, by decide +kernel⟩, by decide +kernel⟩
set_option maxRecDepth 100000 in
theorem im_mo_comesTo : Cond.instanceMethod (gk_M 284).1 ∈ gk_TT := gk_mem 8 87 rfl rfl
set_option maxRecDepth 100000 in
theorem sl_mo_comesTo : Cond.selects (gk_M 284).1.cls (gk_M 284).1 (gk_M 284).1 ∈ gk_TT := gk_mem 0 141 rfl rfl
set_option maxRecDepth 100000 in
theorem jk_mo_turnsBy : gk_jok (gk_M 285) 3 := ⟨gk_mem 8 84 rfl rfl, gk_mem 1 12 rfl rfl, ⟨by decide +kernel, by decide +kernel, by decide +kernel⟩, by decide +kernel⟩
set_option maxRecDepth 100000 in
theorem im_mo_turnsBy : Cond.instanceMethod (gk_M 285).1 ∈ gk_TT := gk_mem 8 83 rfl rfl
set_option maxRecDepth 100000 in
theorem sl_mo_turnsBy : Cond.selects (gk_M 285).1.cls (gk_M 285).1 (gk_M 285).1 ∈ gk_TT := gk_mem 0 140 rfl rfl
set_option maxRecDepth 100000 in
theorem jk_mo_walk : gk_jok (gk_M 286) 4 := ⟨gk_mem 8 75 rfl rfl, gk_mem 1 12 rfl rfl, ⟨by decide +kernel, by decide +kernel, by decide +kernel⟩, by decide +kernel⟩
set_option maxRecDepth 100000 in
theorem im_mo_walk : Cond.instanceMethod (gk_M 286).1 ∈ gk_TT := gk_mem 8 73 rfl rfl
set_option maxRecDepth 100000 in
theorem sl_mo_walk : Cond.selects (gk_M 286).1.cls (gk_M 286).1 (gk_M 286).1 ∈ gk_TT := gk_mem 8 74 rfl rfl
set_option maxRecDepth 100000 in
theorem jk_mo_sumOf : gk_jok (gk_M 287) 2 := ⟨gk_mem 8 100 rfl rfl, gk_mem 1 12 rfl rfl, ⟨by decide +kernel, by decide +kernel, by decide +kernel⟩, by decide +kernel⟩
set_option maxRecDepth 100000 in
theorem im_mo_sumOf : Cond.instanceMethod (gk_M 287).1 ∈ gk_TT := gk_mem 8 99 rfl rfl
set_option maxRecDepth 100000 in
theorem sl_mo_sumOf : Cond.selects (gk_M 287).1.cls (gk_M 287).1 (gk_M 287).1 ∈ gk_TT := gk_mem 0 143 rfl rfl
set_option maxRecDepth 100000 in
theorem jk_mo_areLike : gk_jok (gk_M 288) 2 := ⟨gk_mem 8 108 rfl rfl, gk_mem 1 12 rfl rfl, ⟨by decide +kernel, by decide +kernel, by decide +kernel⟩, by decide +kernel⟩
set_option maxRecDepth 100000 in
theorem im_mo_areLike : Cond.instanceMethod (gk_M 288).1 ∈ gk_TT := gk_mem 8 107 rfl rfl
set_option maxRecDepth 100000 in
theorem sl_mo_areLike : Cond.selects (gk_M 288).1.cls (gk_M 288).1 (gk_M 288).1 ∈ gk_TT := gk_mem 0 145 rfl rfl
set_option maxRecDepth 100000 in
theorem jk_mo_switchOf : gk_jok (gk_M 289) 1 := ⟨gk_mem 8 104 rfl rfl, gk_mem 1 12 rfl rfl, ⟨by decide +kernel, by decide +kernel, by decide +kernel⟩, by decide +kernel⟩
set_option maxRecDepth 100000 in
theorem im_mo_switchOf : Cond.instanceMethod (gk_M 289).1 ∈ gk_TT := gk_mem 8 103 rfl rfl
set_option maxRecDepth 100000 in
theorem sl_mo_switchOf : Cond.selects (gk_M 289).1.cls (gk_M 289).1 (gk_M 289).1 ∈ gk_TT := gk_mem 0 144 rfl rfl
set_option maxRecDepth 100000 in
theorem jk_mo_sums : gk_jok (gk_M 290) 2 := ⟨gk_mem 8 96 rfl rfl, gk_mem 1 12 rfl rfl, ⟨by decide +kernel, by decide +kernel, by decide +kernel⟩, by decide +kernel⟩
set_option maxRecDepth 100000 in
theorem im_mo_sums : Cond.instanceMethod (gk_M 290).1 ∈ gk_TT := gk_mem 8 94 rfl rfl
set_option maxRecDepth 100000 in
theorem sl_mo_sums : Cond.selects (gk_M 290).1.cls (gk_M 290).1 (gk_M 290).1 ∈ gk_TT := gk_mem 8 95 rfl rfl
set_option maxRecDepth 100000 in
theorem jk_mo_sumOver : gk_jok (gk_M 291) 2 := ⟨gk_mem 8 120 rfl rfl, gk_mem 1 12 rfl rfl, ⟨by decide +kernel, by decide +kernel, by decide +kernel⟩, by decide +kernel⟩
set_option maxRecDepth 100000 in
theorem im_mo_sumOver : Cond.instanceMethod (gk_M 291).1 ∈ gk_TT := gk_mem 8 119 rfl rfl
set_option maxRecDepth 100000 in
theorem sl_mo_sumOver : Cond.selects (gk_M 291).1.cls (gk_M 291).1 (gk_M 291).1 ∈ gk_TT := gk_mem 0 147 rfl rfl
set_option maxRecDepth 100000 in
theorem jk_mo_buys : gk_jok (gk_M 292) 2 := ⟨gk_mem 8 112 rfl rfl, gk_mem 1 12 rfl rfl, ⟨by decide +kernel, by decide +kernel, by decide +kernel⟩, by decide +kernel⟩
set_option maxRecDepth 100000 in
theorem im_mo_buys : Cond.instanceMethod (gk_M 292).1 ∈ gk_TT := gk_mem 8 110 rfl rfl
set_option maxRecDepth 100000 in
theorem sl_mo_buys : Cond.selects (gk_M 292).1.cls (gk_M 292).1 (gk_M 292).1 ∈ gk_TT := gk_mem 8 111 rfl rfl
set_option maxRecDepth 100000 in
theorem jk_mo_findsWays : gk_jok (gk_M 293) 0 := ⟨gk_mem 8 128 rfl rfl, gk_mem 1 12 rfl rfl, ⟨by decide +kernel, by decide +kernel, by decide +kernel⟩, by decide +kernel⟩
set_option maxRecDepth 100000 in
theorem im_mo_findsWays : Cond.instanceMethod (gk_M 293).1 ∈ gk_TT := gk_mem 8 127 rfl rfl
set_option maxRecDepth 100000 in
theorem sl_mo_findsWays : Cond.selects (gk_M 293).1.cls (gk_M 293).1 (gk_M 293).1 ∈ gk_TT := gk_mem 0 148 rfl rfl
set_option maxRecDepth 100000 in
theorem jk_mo_leastTo : gk_jok (gk_M 294) 3 := ⟨gk_mem 8 132 rfl rfl, gk_mem 1 12 rfl rfl, ⟨by decide +kernel, by decide +kernel, by decide +kernel⟩, by decide +kernel⟩
set_option maxRecDepth 100000 in
theorem im_mo_leastTo : Cond.instanceMethod (gk_M 294).1 ∈ gk_TT := gk_mem 8 131 rfl rfl
set_option maxRecDepth 100000 in
theorem sl_mo_leastTo : Cond.selects (gk_M 294).1.cls (gk_M 294).1 (gk_M 294).1 ∈ gk_TT := gk_mem 0 149 rfl rfl
set_option maxRecDepth 100000 in
theorem jk_mo_tour : gk_jok (gk_M 295) 2 := ⟨gk_mem 8 124 rfl rfl, gk_mem 1 12 rfl rfl, ⟨by decide +kernel, by decide +kernel, by decide +kernel⟩, by decide +kernel⟩
set_option maxRecDepth 100000 in
theorem im_mo_tour : Cond.instanceMethod (gk_M 295).1 ∈ gk_TT := gk_mem 8 122 rfl rfl
set_option maxRecDepth 100000 in
theorem sl_mo_tour : Cond.selects (gk_M 295).1.cls (gk_M 295).1 (gk_M 295).1 ∈ gk_TT := gk_mem 8 123 rfl rfl
set_option maxRecDepth 100000 in
theorem jk_mo_vouchersOf : gk_jok (gk_M 296) 1 := ⟨gk_mem 8 140 rfl rfl, gk_mem 1 12 rfl rfl, ⟨by decide +kernel, by decide +kernel, by decide +kernel⟩, by decide +kernel⟩
set_option maxRecDepth 100000 in
theorem im_mo_vouchersOf : Cond.instanceMethod (gk_M 296).1 ∈ gk_TT := gk_mem 8 139 rfl rfl
set_option maxRecDepth 100000 in
theorem sl_mo_vouchersOf : Cond.selects (gk_M 296).1.cls (gk_M 296).1 (gk_M 296).1 ∈ gk_TT := gk_mem 0 150 rfl rfl
set_option maxRecDepth 100000 in
theorem jk_mo_vouched : gk_jok (gk_M 297) 1 := ⟨gk_mem 8 136 rfl rfl, gk_mem 1 12 rfl rfl, ⟨by decide +kernel, by decide +kernel, by decide +kernel⟩, by decide +kernel⟩
set_option maxRecDepth 100000 in
theorem im_mo_vouched : Cond.instanceMethod (gk_M 297).1 ∈ gk_TT := gk_mem 8 134 rfl rfl
set_option maxRecDepth 100000 in
theorem sl_mo_vouched : Cond.selects (gk_M 297).1.cls (gk_M 297).1 (gk_M 297).1 ∈ gk_TT := gk_mem 8 135 rfl rfl
set_option maxRecDepth 100000 in
theorem jk_mo_isLie : gk_jok (gk_M 298) 2 := ⟨gk_mem 8 148 rfl rfl, gk_mem 1 12 rfl rfl, ⟨by decide +kernel, by decide +kernel, by decide +kernel⟩, by decide +kernel⟩
set_option maxRecDepth 100000 in
theorem im_mo_isLie : Cond.instanceMethod (gk_M 298).1 ∈ gk_TT := gk_mem 8 147 rfl rfl
set_option maxRecDepth 100000 in
theorem sl_mo_isLie : Cond.selects (gk_M 298).1.cls (gk_M 298).1 (gk_M 298).1 ∈ gk_TT := gk_mem 0 151 rfl rfl
set_option maxRecDepth 100000 in
theorem jk_mo_lie : gk_jok (gk_M 299) 3 := ⟨gk_mem 8 144 rfl rfl, gk_mem 1 12 rfl rfl, ⟨by decide +kernel, by decide +kernel, by decide +kernel⟩, by decide +kernel⟩
set_option maxRecDepth 100000 in
theorem im_mo_lie : Cond.instanceMethod (gk_M 299).1 ∈ gk_TT := gk_mem 8 142 rfl rfl
set_option maxRecDepth 100000 in
theorem sl_mo_lie : Cond.selects (gk_M 299).1.cls (gk_M 299).1 (gk_M 299).1 ∈ gk_TT := gk_mem 8 143 rfl rfl
set_option maxRecDepth 100000 in
theorem jk_mo_feet : gk_jok (gk_M 300) 1 := ⟨gk_mem 8 152 rfl rfl, gk_mem 1 12 rfl rfl, ⟨by decide +kernel, by decide +kernel, by decide +kernel⟩, by decide +kernel⟩
set_option maxRecDepth 100000 in
theorem im_mo_feet : Cond.instanceMethod (gk_M 300).1 ∈ gk_TT := gk_mem 8 150 rfl rfl
set_option maxRecDepth 100000 in
theorem sl_mo_feet : Cond.selects (gk_M 300).1.cls (gk_M 300).1 (gk_M 300).1 ∈ gk_TT := gk_mem 8 151 rfl rfl
set_option maxRecDepth 100000 in
theorem jk_mo_game : gk_jok (gk_M 301) 1 := ⟨gk_mem 8 156 rfl rfl, gk_mem 1 12 rfl rfl, ⟨by decide +kernel, by decide +kernel, by decide +kernel⟩, by decide +kernel⟩
set_option maxRecDepth 100000 in
theorem im_mo_game : Cond.instanceMethod (gk_M 301).1 ∈ gk_TT := gk_mem 8 154 rfl rfl
set_option maxRecDepth 100000 in
theorem sl_mo_game : Cond.selects (gk_M 301).1.cls (gk_M 301).1 (gk_M 301).1 ∈ gk_TT := gk_mem 8 155 rfl rfl
set_option maxRecDepth 100000 in
theorem jk_mo_keeps : gk_jok (gk_M 302) 1 := ⟨gk_mem 8 164 rfl rfl, gk_mem 1 12 rfl rfl, ⟨by decide +kernel, by decide +kernel, by decide +kernel⟩, by decide +kernel⟩
set_option maxRecDepth 100000 in
theorem im_mo_keeps : Cond.instanceMethod (gk_M 302).1 ∈ gk_TT := gk_mem 8 163 rfl rfl
set_option maxRecDepth 100000 in
theorem sl_mo_keeps : Cond.selects (gk_M 302).1.cls (gk_M 302).1 (gk_M 302).1 ∈ gk_TT := gk_mem 0 152 rfl rfl
set_option maxRecDepth 100000 in
theorem jk_mo_keepsLaw : gk_jok (gk_M 303) 0 := ⟨gk_mem 8 172 rfl rfl, gk_mem 1 12 rfl rfl, ⟨by decide +kernel, by decide +kernel, by decide +kernel⟩, by decide +kernel⟩
set_option maxRecDepth 100000 in
theorem im_mo_keepsLaw : Cond.instanceMethod (gk_M 303).1 ∈ gk_TT := gk_mem 8 171 rfl rfl
set_option maxRecDepth 100000 in
theorem sl_mo_keepsLaw : Cond.selects (gk_M 303).1.cls (gk_M 303).1 (gk_M 303).1 ∈ gk_TT := gk_mem 0 154 rfl rfl
set_option maxRecDepth 100000 in
theorem jk_mo_keepsTold : gk_jok (gk_M 304) 0 := ⟨gk_mem 8 168 rfl rfl, gk_mem 1 12 rfl rfl, ⟨by decide +kernel, by decide +kernel, by decide +kernel⟩, by decide +kernel⟩
set_option maxRecDepth 100000 in
theorem im_mo_keepsTold : Cond.instanceMethod (gk_M 304).1 ∈ gk_TT := gk_mem 8 167 rfl rfl
set_option maxRecDepth 100000 in
theorem sl_mo_keepsTold : Cond.selects (gk_M 304).1.cls (gk_M 304).1 (gk_M 304).1 ∈ gk_TT := gk_mem 0 153 rfl rfl
set_option maxRecDepth 100000 in
theorem jk_mo_image : gk_jok (gk_M 305) 1 := ⟨gk_mem 8 160 rfl rfl, gk_mem 1 12 rfl rfl, ⟨by decide +kernel, by decide +kernel, by decide +kernel⟩, by decide +kernel⟩
set_option maxRecDepth 100000 in
theorem im_mo_image : Cond.instanceMethod (gk_M 305).1 ∈ gk_TT := gk_mem 8 158 rfl rfl
set_option maxRecDepth 100000 in
theorem sl_mo_image : Cond.selects (gk_M 305).1.cls (gk_M 305).1 (gk_M 305).1 ∈ gk_TT := gk_mem 8 159 rfl rfl
set_option maxRecDepth 100000 in
theorem jk_mo_look : gk_jok (gk_M 306) 1 := ⟨gk_mem 8 176 rfl rfl, gk_mem 1 12 rfl rfl, ⟨by decide +kernel, by decide +kernel, by decide +kernel⟩, by decide +kernel⟩
set_option maxRecDepth 100000 in
theorem im_mo_look : Cond.instanceMethod (gk_M 306).1 ∈ gk_TT := gk_mem 8 174 rfl rfl
set_option maxRecDepth 100000 in
theorem sl_mo_look : Cond.selects (gk_M 306).1.cls (gk_M 306).1 (gk_M 306).1 ∈ gk_TT := gk_mem 8 175 rfl rfl
set_option maxRecDepth 100000 in
theorem jk_jl_bitCount : gk_jok (gk_M 307) 1 := ⟨gk_mem 2 183 rfl rfl, gk_mem 1 14 rfl rfl, ⟨by decide +kernel, by decide +kernel, by decide +kernel⟩, by decide +kernel⟩
set_option maxRecDepth 100000 in
theorem st_jl_bitCount : Cond.static (gk_M 307).1 ∈ gk_TT := gk_mem 2 182 rfl rfl
set_option maxRecDepth 100000 in
theorem jk_jm_abs : gk_jok (gk_M 308) 1 := ⟨gk_mem 5 101 rfl rfl, gk_mem 1 15 rfl rfl, ⟨by decide +kernel, by decide +kernel, by decide +kernel⟩, by decide +kernel⟩
set_option maxRecDepth 100000 in
theorem st_jm_abs : Cond.static (gk_M 308).1 ∈ gk_TT := gk_mem 5 100 rfl rfl
set_option maxRecDepth 100000 in
theorem jk_jm_max : gk_jok (gk_M 309) 2 := ⟨gk_mem 2 232 rfl rfl, gk_mem 1 15 rfl rfl, ⟨by decide +kernel, by decide +kernel, by decide +kernel⟩, by decide +kernel⟩
set_option maxRecDepth 100000 in
theorem st_jm_max : Cond.static (gk_M 309).1 ∈ gk_TT := gk_mem 2 231 rfl rfl
set_option maxRecDepth 100000 in
theorem jk_jm_min : gk_jok (gk_M 310) 2 := ⟨gk_mem 2 229 rfl rfl, gk_mem 1 15 rfl rfl, ⟨by decide +kernel, by decide +kernel, by decide +kernel⟩, by decide +kernel⟩
set_option maxRecDepth 100000 in
theorem st_jm_min : Cond.static (gk_M 310).1 ∈ gk_TT := gk_mem 2 228 rfl rfl
set_option maxRecDepth 100000 in
theorem jk_js_length : gk_jok (gk_M 311) 0 := ⟨gk_mem 3 146 rfl rfl, gk_mem 1 17 rfl rfl, ⟨by decide +kernel, by decide +kernel, by decide +kernel⟩, by decide +kernel⟩
set_option maxRecDepth 100000 in
theorem im_js_length : Cond.instanceMethod (gk_M 311).1 ∈ gk_TT := gk_mem 3 144 rfl rfl
set_option maxRecDepth 100000 in
theorem sl_js_length : Cond.selects (gk_M 311).1.cls (gk_M 311).1 (gk_M 311).1 ∈ gk_TT := gk_mem 3 145 rfl rfl
set_option maxRecDepth 100000 in
theorem jk_js_charAt : gk_jok (gk_M 312) 1 := ⟨gk_mem 3 156 rfl rfl, gk_mem 1 17 rfl rfl, ⟨by decide +kernel, by decide +kernel, by decide +kernel⟩, by decide +kernel⟩
set_option maxRecDepth 100000 in
theorem im_js_charAt : Cond.instanceMethod (gk_M 312).1 ∈ gk_TT := gk_mem 3 154 rfl rfl
set_option maxRecDepth 100000 in
theorem sl_js_charAt : Cond.selects (gk_M 312).1.cls (gk_M 312).1 (gk_M 312).1 ∈ gk_TT := gk_mem 3 155 rfl rfl
set_option maxRecDepth 100000 in
theorem jk_js_indexOf : gk_jok (gk_M 313) 1 := ⟨gk_mem 3 207 rfl rfl, gk_mem 1 17 rfl rfl, ⟨by decide +kernel, by decide +kernel, by decide +kernel⟩, by decide +kernel⟩
set_option maxRecDepth 100000 in
theorem im_js_indexOf : Cond.instanceMethod (gk_M 313).1 ∈ gk_TT := gk_mem 3 205 rfl rfl
set_option maxRecDepth 100000 in
theorem sl_js_indexOf : Cond.selects (gk_M 313).1.cls (gk_M 313).1 (gk_M 313).1 ∈ gk_TT := gk_mem 3 206 rfl rfl
set_option maxRecDepth 100000 in
theorem jk_js_indexOf2 : gk_jok (gk_M 314) 2 := ⟨gk_mem 3 211 rfl rfl, gk_mem 1 17 rfl rfl, ⟨by decide +kernel, by decide +kernel, by decide +kernel⟩, by decide +kernel⟩
set_option maxRecDepth 100000 in
theorem im_js_indexOf2 : Cond.instanceMethod (gk_M 314).1 ∈ gk_TT := gk_mem 3 209 rfl rfl
set_option maxRecDepth 100000 in
theorem sl_js_indexOf2 : Cond.selects (gk_M 314).1.cls (gk_M 314).1 (gk_M 314).1 ∈ gk_TT := gk_mem 3 210 rfl rfl
set_option maxRecDepth 100000 in
theorem jk_js_coder : gk_jok (gk_M 315) 0 := ⟨gk_mem 3 150 rfl rfl, gk_mem 1 17 rfl rfl, ⟨by decide +kernel, by decide +kernel, by decide +kernel⟩, by decide +kernel⟩
set_option maxRecDepth 100000 in
theorem im_js_coder : Cond.instanceMethod (gk_M 315).1 ∈ gk_TT := gk_mem 3 148 rfl rfl
set_option maxRecDepth 100000 in
theorem sl_js_coder : Cond.selects (gk_M 315).1.cls (gk_M 315).1 (gk_M 315).1 ∈ gk_TT := gk_mem 3 149 rfl rfl
set_option maxRecDepth 100000 in
theorem jk_js_isLatin1 : gk_jok (gk_M 316) 0 := ⟨gk_mem 3 160 rfl rfl, gk_mem 1 17 rfl rfl, ⟨by decide +kernel, by decide +kernel, by decide +kernel⟩, by decide +kernel⟩
set_option maxRecDepth 100000 in
theorem im_js_isLatin1 : Cond.instanceMethod (gk_M 316).1 ∈ gk_TT := gk_mem 3 158 rfl rfl
set_option maxRecDepth 100000 in
theorem sl_js_isLatin1 : Cond.selects (gk_M 316).1.cls (gk_M 316).1 (gk_M 316).1 ∈ gk_TT := gk_mem 3 159 rfl rfl
set_option maxRecDepth 100000 in
theorem jk_js_checkIndex : gk_jok (gk_M 317) 2 := ⟨gk_mem 3 166 rfl rfl, gk_mem 1 17 rfl rfl, ⟨by decide +kernel, by decide +kernel, by decide +kernel⟩, by decide +kernel⟩
set_option maxRecDepth 100000 in
theorem st_js_checkIndex : Cond.static (gk_M 317).1 ∈ gk_TT := gk_mem 3 165 rfl rfl
set_option maxRecDepth 100000 in
theorem jk_jt_charAt : gk_jok (gk_M 318) 2 := ⟨gk_mem 3 163 rfl rfl, gk_mem 1 18 rfl rfl, ⟨by decide +kernel, by decide +kernel, by decide +kernel⟩, by decide +kernel⟩
set_option maxRecDepth 100000 in
theorem st_jt_charAt : Cond.static (gk_M 318).1 ∈ gk_TT := gk_mem 3 162 rfl rfl
set_option maxRecDepth 100000 in
theorem jk_jt_canEncode : gk_jok (gk_M 319) 1 := ⟨gk_mem 3 218 rfl rfl, gk_mem 1 18 rfl rfl, ⟨by decide +kernel, by decide +kernel, by decide +kernel⟩, by decide +kernel⟩
set_option maxRecDepth 100000 in
theorem st_jt_canEncode : Cond.static (gk_M 319).1 ∈ gk_TT := gk_mem 3 217 rfl rfl
set_option maxRecDepth 100000 in
theorem jk_jt_indexOf : gk_jok (gk_M 320) 4 := ⟨gk_mem 3 215 rfl rfl, gk_mem 1 18 rfl rfl, ⟨by decide +kernel, by decide +kernel, by decide +kernel⟩, by decide +kernel⟩
set_option maxRecDepth 100000 in
theorem st_jt_indexOf : Cond.static (gk_M 320).1 ∈ gk_TT := gk_mem 3 214 rfl rfl
set_option maxRecDepth 100000 in
theorem jk_jt_indexOfChar : gk_jok (gk_M 321) 4 := ⟨gk_mem 3 223 rfl rfl, gk_mem 1 18 rfl rfl, ⟨by decide +kernel, by decide +kernel, by decide +kernel⟩, by decide +kernel⟩
set_option maxRecDepth 100000 in
theorem st_jt_indexOfChar : Cond.static (gk_M 321).1 ∈ gk_TT := gk_mem 3 222 rfl rfl
set_option maxRecDepth 100000 in
theorem jk_ja_fill : gk_jok (gk_M 322) 2 := ⟨gk_mem 1 38 rfl rfl, gk_mem 1 3 rfl rfl, ⟨by decide +kernel, by decide +kernel, by decide +kernel⟩, by decide +kernel⟩
set_option maxRecDepth 100000 in
theorem st_ja_fill : Cond.static (gk_M 322).1 ∈ gk_TT := gk_mem 1 37 rfl rfl
set_option maxRecDepth 100000 in
theorem jk_jp_checkIndex : gk_jok (gk_M 323) 3 := ⟨gk_mem 3 171 rfl rfl, gk_mem 1 19 rfl rfl, ⟨by decide +kernel, by decide +kernel, by decide +kernel⟩, by decide +kernel⟩
set_option maxRecDepth 100000 in
theorem st_jp_checkIndex : Cond.static (gk_M 323).1 ∈ gk_TT := gk_mem 3 170 rfl rfl
end
section
/-! the pools (written by a program) -/
def pl_gr : gk_P := ([], [(19, 1, 3, 0, 1, 2, 0, 0), (23, 1, 4, 0, 1, 2, 0, 0), (26, 1, 5, 0, 1, 2, 0, 0), (29, 1, 6, 0, 1, 2, 0, 0), (32, 1, 307, 0, 1, 1, 0, 0), (38, 1, 7, 0, 1, 2, 0, 0), (41, 1, 11, 0, 2, 2, 0, 0), (47, 1, 12, 0, 1, 1, 0, 0), (50, 1, 14, 0, 2, 2, 0, 0), (54, 1, 0, 0, 2, 1, 0, 0), (58, 1, 16, 0, 2, 1, 0, 0), (64, 1, 19, 0, 2, 2, 0, 0), (67, 5, 155, 0, 3, 1, 0, 0), (71, 1, 22, 0, 3, 2, 0, 0), (75, 1, 23, 0, 4, 1, 0, 0), (79, 1, 24, 0, 3, 1, 0, 0), (83, 1, 28, 0, 2, 2, 0, 0), (86, 1, 29, 0, 2, 1, 0, 0), (90, 1, 1, 0, 2, 1, 0, 0), (93, 1, 32, 0, 2, 1, 0, 0), (96, 1, 308, 0, 1, 1, 0, 0), (102, 1, 35, 0, 1, 2, 0, 0)], [], [(11, 255), (13, (-1)), (15, 9187201950435737471), (17, (-72340172838076674)), (45, (-35604928818740737)), (62, 72340172838076673)], [])
set_option maxRecDepth 100000 in
theorem pf_gr : ∀ e ∈ pl_gr.1, gk_fok1 "DryPlaces$Ground" e := gk_fn
set_option maxRecDepth 100000 in
theorem pc_gr : ∀ e ∈ pl_gr.2.1, gk_cok1 gk_M "DryPlaces$Ground" e := gk_fc ((⟨jk_gr_up, gk_m2 (gk_mem 2 190 rfl rfl) st_gr_up⟩ : gk_cok "DryPlaces$Ground" 19 1 (gk_M 3) 0 1)) (gk_fc ((⟨jk_gr_down, gk_m2 (gk_mem 2 194 rfl rfl) st_gr_down⟩ : gk_cok "DryPlaces$Ground" 23 1 (gk_M 4) 0 1)) (gk_fc ((⟨jk_gr_left, gk_m2 (gk_mem 2 197 rfl rfl) st_gr_left⟩ : gk_cok "DryPlaces$Ground" 26 1 (gk_M 5) 0 1)) (gk_fc ((⟨jk_gr_right, gk_m2 (gk_mem 2 201 rfl rfl) st_gr_right⟩ : gk_cok "DryPlaces$Ground" 29 1 (gk_M 6) 0 1)) (gk_fc ((⟨jk_jl_bitCount, gk_m2 (gk_mem 2 193 rfl rfl) st_jl_bitCount⟩ : gk_cok "DryPlaces$Ground" 32 1 (gk_M 307) 0 1)) (gk_fc ((⟨jk_gr_beside, gk_m2 (gk_mem 3 71 rfl rfl) st_gr_beside⟩ : gk_cok "DryPlaces$Ground" 38 1 (gk_M 7) 0 1)) (gk_fc ((⟨jk_gr_partOf, gk_m2 (gk_mem 4 196 rfl rfl) st_gr_partOf⟩ : gk_cok "DryPlaces$Ground" 41 1 (gk_M 11) 0 2)) (gk_fc ((⟨jk_gr_parts, gk_m2 (gk_mem 4 203 rfl rfl) st_gr_parts⟩ : gk_cok "DryPlaces$Ground" 47 1 (gk_M 12) 0 1)) (gk_fc ((⟨jk_gr_shrunk, gk_m2 (gk_mem 4 207 rfl rfl) st_gr_shrunk⟩ : gk_cok "DryPlaces$Ground" 50 1 (gk_M 14) 0 2)) (gk_fc ((⟨jk_gr_isDry, gk_m2 (gk_mem 4 219 rfl rfl) st_gr_isDry⟩ : gk_cok "DryPlaces$Ground" 54 1 (gk_M 0) 0 2)) (gk_fc ((⟨jk_gr_turnedCell, gk_m2 (gk_mem 4 220 rfl rfl) st_gr_turnedCell⟩ : gk_cok "DryPlaces$Ground" 58 1 (gk_M 16) 0 2)) (gk_fc ((⟨jk_gr_squareCorners, gk_m2 (gk_mem 4 230 rfl rfl) st_gr_squareCorners⟩ : gk_cok "DryPlaces$Ground" 64 1 (gk_M 19) 0 2)) (gk_fc ((⟨jk_dp_isWithin, st_dp_isWithin, by decide +kernel⟩ : gk_cok "DryPlaces$Ground" 67 5 (gk_M 155) 0 3)) (gk_fc ((⟨jk_gr_pushed, gk_m2 (gk_mem 5 15 rfl rfl) st_gr_pushed⟩ : gk_cok "DryPlaces$Ground" 71 1 (gk_M 22) 0 3)) (gk_fc ((⟨jk_gr_overlap, gk_m2 (gk_mem 5 12 rfl rfl) st_gr_overlap⟩ : gk_cok "DryPlaces$Ground" 75 1 (gk_M 23) 0 4)) (gk_fc ((⟨jk_gr_couples, gk_m2 (gk_mem 5 9 rfl rfl) st_gr_couples⟩ : gk_cok "DryPlaces$Ground" 79 1 (gk_M 24) 0 3)) (gk_fc ((⟨jk_gr_straightFrom, gk_m2 (gk_mem 5 30 rfl rfl) st_gr_straightFrom⟩ : gk_cok "DryPlaces$Ground" 83 1 (gk_M 28) 0 2)) (gk_fc ((⟨jk_gr_sumOf, gk_m2 (gk_mem 5 50 rfl rfl) st_gr_sumOf⟩ : gk_cok "DryPlaces$Ground" 86 1 (gk_M 29) 0 2)) (gk_fc ((⟨jk_gr_rowOf, gk_m2 (gk_mem 5 43 rfl rfl) st_gr_rowOf⟩ : gk_cok "DryPlaces$Ground" 90 1 (gk_M 1) 0 2)) (gk_fc ((⟨jk_gr_switchColumns, gk_m2 (gk_mem 5 44 rfl rfl) st_gr_switchColumns⟩ : gk_cok "DryPlaces$Ground" 93 1 (gk_M 32) 0 2)) (gk_fc ((⟨jk_jm_abs, gk_m2 (gk_mem 5 99 rfl rfl) st_jm_abs⟩ : gk_cok "DryPlaces$Ground" 96 1 (gk_M 308) 0 1)) (gk_fc ((⟨jk_gr_rightHeels, gk_m2 (gk_mem 5 109 rfl rfl) st_gr_rightHeels⟩ : gk_cok "DryPlaces$Ground" 102 1 (gk_M 35) 0 1)) (gk_fn))))))))))))))))))))))
set_option maxRecDepth 100000 in
theorem pi_gr : ∀ e ∈ pl_gr.2.2.1, Cond.constant "DryPlaces$Ground" e.1 e.2 ∈ gk_TT := gk_fn
set_option maxRecDepth 100000 in
theorem pg_gr : ∀ e ∈ pl_gr.2.2.2.1, Cond.constantLong "DryPlaces$Ground" e.1 e.2 ∈ gk_TT := gk_fc (gk_mem 2 149 rfl rfl) (gk_fc (gk_mem 2 150 rfl rfl) (gk_fc (gk_mem 2 200 rfl rfl) (gk_fc (gk_mem 2 204 rfl rfl) (gk_fc (gk_mem 4 202 rfl rfl) (gk_fc (gk_mem 4 215 rfl rfl) (gk_fn))))))
set_option maxRecDepth 100000 in
theorem pn_gr : ∀ e ∈ pl_gr.2.2.2.2, gk_nok "DryPlaces$Ground" e := gk_fn
theorem pk_gr : gk_pok gk_M "DryPlaces$Ground" pl_gr := ⟨pf_gr, pc_gr, pi_gr, pg_gr, pn_gr⟩
def pl_ke : gk_P := ([(9, 0, 4, 5), (15, 0, 0, 5), (19, 0, 1, 5), (23, 0, 2, 5), (27, 0, 3, 5), (52, 8, 3, 0), (59, 8, 8, 2), (76, 8, 10, 2), (83, 8, 12, 2), (86, 8, 2, 0), (95, 8, 11, 2), (98, 8, 1, 0), (105, 8, 7, 0), (108, 8, 5, 0), (114, 8, 0, 0), (131, 6, 3, 2), (168, 8, 4, 0)], [(3, 3, 0, 0, 0, 0, 0, 0), (30, 5, 157, 0, 1, 1, 0, 0), (34, 5, 155, 0, 3, 1, 0, 0), (38, 0, 116, 8, 1, 1, 0, 0), (43, 0, 117, 8, 1, 1, 0, 0), (46, 0, 91, 5, 2, 1, 0, 0), (56, 5, 156, 0, 1, 1, 0, 0), (63, 1, 0, 0, 2, 1, 0, 0), (69, 0, 39, 0, 2, 0, 0, 0), (73, 0, 40, 0, 2, 0, 0, 0), (79, 0, 41, 0, 3, 0, 0, 0), (89, 1, 2, 0, 3, 2, 0, 0), (101, 0, 120, 8, 1, 0, 0, 0), (111, 0, 43, 0, 0, 0, 0, 0), (117, 0, 119, 8, 1, 1, 0, 0), (120, 0, 44, 0, 1, 1, 0, 0), (124, 0, 46, 0, 1, 0, 0, 0), (127, 0, 101, 6, 1, 1, 0, 0), (134, 0, 37, 0, 3, 1, 0, 0), (137, 0, 38, 0, 3, 0, 0, 0), (140, 1, 14, 0, 2, 2, 0, 0), (144, 0, 93, 5, 3, 1, 0, 0), (148, 1, 9, 0, 2, 1, 0, 0), (152, 0, 45, 0, 1, 1, 0, 0), (155, 1, 307, 0, 1, 1, 0, 0), (161, 0, 121, 8, 0, 1, 0, 0), (165, 0, 92, 5, 2, 1, 0, 0)], [], [(93, (-1))], [])
set_option maxRecDepth 100000 in
theorem pf_ke : ∀ e ∈ pl_ke.1, gk_fok1 "DryPlaces$Keeper" e := gk_fc ((⟨RX1, TX1, 5, .array (.int), rfl, by decide, rfl, gk_mem 2 45 rfl rfl, by decide +kernel, ⟨rfl, rfl, rfl, Or.inr ⟨_, rfl⟩⟩⟩ : gk_fok "DryPlaces$Keeper" 9 0 4 5)) (gk_fc ((⟨RX1, TX1, 5, .object "DryPlaces$World", rfl, by decide, rfl, gk_mem 2 41 rfl rfl, by decide +kernel, ⟨rfl, rfl, rfl, Or.inl ⟨_, rfl⟩⟩⟩ : gk_fok "DryPlaces$Keeper" 15 0 0 5)) (gk_fc ((⟨RX1, TX1, 5, .object "DryPlaces$Texts", rfl, by decide, rfl, gk_mem 2 42 rfl rfl, by decide +kernel, ⟨rfl, rfl, rfl, Or.inl ⟨_, rfl⟩⟩⟩ : gk_fok "DryPlaces$Keeper" 19 0 1 5)) (gk_fc ((⟨RX1, TX1, 5, .object "DryPlaces$Teller", rfl, by decide, rfl, gk_mem 2 43 rfl rfl, by decide +kernel, ⟨rfl, rfl, rfl, Or.inl ⟨_, rfl⟩⟩⟩ : gk_fok "DryPlaces$Keeper" 23 0 2 5)) (gk_fc ((⟨RX1, TX1, 5, .array (.int), rfl, by decide, rfl, gk_mem 2 44 rfl rfl, by decide +kernel, ⟨rfl, rfl, rfl, Or.inr ⟨_, rfl⟩⟩⟩ : gk_fok "DryPlaces$Keeper" 27 0 3 5)) (gk_fc ((⟨RX9, TX9, 13, .int, rfl, by decide, rfl, gk_mem 1 48 rfl rfl, by decide +kernel, ⟨rfl, rfl, rfl⟩⟩ : gk_fok "DryPlaces$Keeper" 52 8 3 0)) (gk_fc ((⟨RX9, TX9, 13, .array (.long), rfl, by decide, rfl, gk_mem 1 63 rfl rfl, by decide +kernel, rfl⟩ : gk_fok "DryPlaces$Keeper" 59 8 8 2)) (gk_fc ((⟨RX9, TX9, 13, .array (.int), rfl, by decide, rfl, gk_mem 1 70 rfl rfl, by decide +kernel, rfl⟩ : gk_fok "DryPlaces$Keeper" 76 8 10 2)) (gk_fc ((⟨RX9, TX9, 13, .array (.int), rfl, by decide, rfl, gk_mem 1 78 rfl rfl, by decide +kernel, rfl⟩ : gk_fok "DryPlaces$Keeper" 83 8 12 2)) (gk_fc ((⟨RX9, TX9, 13, .int, rfl, by decide, rfl, gk_mem 1 46 rfl rfl, by decide +kernel, ⟨rfl, rfl, rfl⟩⟩ : gk_fok "DryPlaces$Keeper" 86 8 2 0)) (gk_fc ((⟨RX9, TX9, 13, .array (.int), rfl, by decide, rfl, gk_mem 1 74 rfl rfl, by decide +kernel, rfl⟩ : gk_fok "DryPlaces$Keeper" 95 8 11 2)) (gk_fc ((⟨RX9, TX9, 13, .int, rfl, by decide, rfl, gk_mem 1 43 rfl rfl, by decide +kernel, ⟨rfl, rfl, rfl⟩⟩ : gk_fok "DryPlaces$Keeper" 98 8 1 0)) (gk_fc ((⟨RX9, TX9, 13, .int, rfl, by decide, rfl, gk_mem 1 60 rfl rfl, by decide +kernel, ⟨rfl, rfl, rfl⟩⟩ : gk_fok "DryPlaces$Keeper" 105 8 7 0)) (gk_fc ((⟨RX9, TX9, 13, .int, rfl, by decide, rfl, gk_mem 1 54 rfl rfl, by decide +kernel, ⟨rfl, rfl, rfl⟩⟩ : gk_fok "DryPlaces$Keeper" 108 8 5 0)) (gk_fc ((⟨RX9, TX9, 13, .int, rfl, by decide, rfl, gk_mem 1 41 rfl rfl, by decide +kernel, ⟨rfl, rfl, rfl⟩⟩ : gk_fok "DryPlaces$Keeper" 114 8 0 0)) (gk_fc ((⟨RX7, TX7, 5, .array (.int), rfl, by decide, rfl, gk_mem 1 162 rfl rfl, by decide +kernel, rfl⟩ : gk_fok "DryPlaces$Keeper" 131 6 3 2)) (gk_fc ((⟨RX9, TX9, 13, .int, rfl, by decide, rfl, gk_mem 1 51 rfl rfl, by decide +kernel, ⟨rfl, rfl, rfl⟩⟩ : gk_fok "DryPlaces$Keeper" 168 8 4 0)) (gk_fn)))))))))))))))))
set_option maxRecDepth 100000 in
theorem pc_ke : ∀ e ∈ pl_ke.2.1, gk_cok1 gk_M "DryPlaces$Keeper" e := gk_fc ((gk_m3 (gk_mem 2 40 rfl rfl) (gk_mem 1 28 rfl rfl) (gk_mem 1 29 rfl rfl))) (gk_fc ((⟨jk_dp_isRoom, st_dp_isRoom, by decide +kernel⟩ : gk_cok "DryPlaces$Keeper" 30 5 (gk_M 157) 0 1)) (gk_fc ((⟨jk_dp_isWithin, st_dp_isWithin, by decide +kernel⟩ : gk_cok "DryPlaces$Keeper" 34 5 (gk_M 155) 0 3)) (gk_fc ((⟨jk_wo_has, ⟨_, _, rfl⟩, gk_m3 (gk_mem 2 168 rfl rfl) im_wo_has sl_wo_has⟩ : gk_cok "DryPlaces$Keeper" 38 0 (gk_M 116) 8 1)) (gk_fc ((⟨jk_wo_isOwned, ⟨_, _, rfl⟩, gk_m3 (gk_mem 2 169 rfl rfl) im_wo_isOwned sl_wo_isOwned⟩ : gk_cok "DryPlaces$Keeper" 43 0 (gk_M 117) 8 1)) (gk_fc ((⟨jk_te_worthOf, ⟨_, _, rfl⟩, gk_m3 (gk_mem 2 173 rfl rfl) im_te_worthOf sl_te_worthOf⟩ : gk_cok "DryPlaces$Keeper" 46 0 (gk_M 91) 5 2)) (gk_fc ((⟨jk_dp_isCell, st_dp_isCell, by decide +kernel⟩ : gk_cok "DryPlaces$Keeper" 56 5 (gk_M 156) 0 1)) (gk_fc ((⟨jk_gr_isDry, gk_m2 (gk_mem 2 236 rfl rfl) st_gr_isDry⟩ : gk_cok "DryPlaces$Keeper" 63 1 (gk_M 0) 0 2)) (gk_fc ((⟨jk_ke_purchase, ⟨_, _, rfl⟩, gk_m3 (gk_mem 3 14 rfl rfl) im_ke_purchase sl_ke_purchase⟩ : gk_cok "DryPlaces$Keeper" 69 0 (gk_M 39) 0 2)) (gk_fc ((⟨jk_ke_partWith, ⟨_, _, rfl⟩, gk_m3 (gk_mem 3 22 rfl rfl) im_ke_partWith sl_ke_partWith⟩ : gk_cok "DryPlaces$Keeper" 73 0 (gk_M 40) 0 2)) (gk_fc ((⟨jk_ke_note, ⟨_, _, rfl⟩, gk_m3 (gk_mem 3 18 rfl rfl) im_ke_note sl_ke_note⟩ : gk_cok "DryPlaces$Keeper" 79 0 (gk_M 41) 0 3)) (gk_fc ((⟨jk_gr_withRow, gk_m2 (gk_mem 3 32 rfl rfl) st_gr_withRow⟩ : gk_cok "DryPlaces$Keeper" 89 1 (gk_M 2) 0 3)) (gk_fc ((⟨jk_wo_earn, ⟨_, _, rfl⟩, gk_m3 (gk_mem 3 26 rfl rfl) im_wo_earn sl_wo_earn⟩ : gk_cok "DryPlaces$Keeper" 101 0 (gk_M 120) 8 1)) (gk_fc ((⟨jk_ke_keepDiary, ⟨_, _, rfl⟩, gk_m3 (gk_mem 3 42 rfl rfl) im_ke_keepDiary sl_ke_keepDiary⟩ : gk_cok "DryPlaces$Keeper" 111 0 (gk_M 43) 0 0)) (gk_fc ((⟨jk_wo_isShown, ⟨_, _, rfl⟩, gk_m3 (gk_mem 3 52 rfl rfl) im_wo_isShown sl_wo_isShown⟩ : gk_cok "DryPlaces$Keeper" 117 0 (gk_M 119) 8 1)) (gk_fc ((⟨jk_ke_creepIn, ⟨_, _, rfl⟩, gk_m3 (gk_mem 3 57 rfl rfl) im_ke_creepIn sl_ke_creepIn⟩ : gk_cok "DryPlaces$Keeper" 120 0 (gk_M 44) 0 1)) (gk_fc ((⟨jk_ke_receive, ⟨_, _, rfl⟩, gk_m3 (gk_mem 3 85 rfl rfl) im_ke_receive sl_ke_receive⟩ : gk_cok "DryPlaces$Keeper" 124 0 (gk_M 46) 0 1)) (gk_fc ((⟨jk_tx_count, ⟨_, _, rfl⟩, gk_m3 (gk_mem 3 46 rfl rfl) im_tx_count sl_tx_count⟩ : gk_cok "DryPlaces$Keeper" 127 0 (gk_M 101) 6 1)) (gk_fc ((⟨jk_ke_canDo, ⟨_, _, rfl⟩, gk_m3 (gk_mem 3 50 rfl rfl) im_ke_canDo sl_ke_canDo⟩ : gk_cok "DryPlaces$Keeper" 134 0 (gk_M 37) 0 3)) (gk_fc ((⟨jk_ke_carryOut, ⟨_, _, rfl⟩, gk_m3 (gk_mem 3 51 rfl rfl) im_ke_carryOut sl_ke_carryOut⟩ : gk_cok "DryPlaces$Keeper" 137 0 (gk_M 38) 0 3)) (gk_fc ((⟨jk_gr_shrunk, gk_m2 (gk_mem 3 61 rfl rfl) st_gr_shrunk⟩ : gk_cok "DryPlaces$Keeper" 140 1 (gk_M 14) 0 2)) (gk_fc ((⟨jk_te_chanceIn, ⟨_, _, rfl⟩, gk_m3 (gk_mem 3 64 rfl rfl) im_te_chanceIn sl_te_chanceIn⟩ : gk_cok "DryPlaces$Keeper" 144 0 (gk_M 93) 5 3)) (gk_fc ((⟨jk_gr_wetBeside, gk_m2 (gk_mem 3 68 rfl rfl) st_gr_wetBeside⟩ : gk_cok "DryPlaces$Keeper" 148 1 (gk_M 9) 0 2)) (gk_fc ((⟨jk_ke_isHit, ⟨_, _, rfl⟩, gk_m3 (gk_mem 3 74 rfl rfl) im_ke_isHit sl_ke_isHit⟩ : gk_cok "DryPlaces$Keeper" 152 0 (gk_M 45) 0 1)) (gk_fc ((⟨jk_jl_bitCount, gk_m2 (gk_mem 3 84 rfl rfl) st_jl_bitCount⟩ : gk_cok "DryPlaces$Keeper" 155 1 (gk_M 307) 0 1)) (gk_fc ((⟨jk_wo_drawOfThousand, ⟨_, _, rfl⟩, gk_m3 (gk_mem 3 78 rfl rfl) im_wo_drawOfThousand sl_wo_drawOfThousand⟩ : gk_cok "DryPlaces$Keeper" 161 0 (gk_M 121) 8 0)) (gk_fc ((⟨jk_te_comersTo, ⟨_, _, rfl⟩, gk_m3 (gk_mem 3 89 rfl rfl) im_te_comersTo sl_te_comersTo⟩ : gk_cok "DryPlaces$Keeper" 165 0 (gk_M 92) 5 2)) (gk_fn)))))))))))))))))))))))))))
set_option maxRecDepth 100000 in
theorem pi_ke : ∀ e ∈ pl_ke.2.2.1, Cond.constant "DryPlaces$Keeper" e.1 e.2 ∈ gk_TT := gk_fn
set_option maxRecDepth 100000 in
theorem pg_ke : ∀ e ∈ pl_ke.2.2.2.1, Cond.constantLong "DryPlaces$Keeper" e.1 e.2 ∈ gk_TT := gk_fc (gk_mem 3 33 rfl rfl) (gk_fn)
set_option maxRecDepth 100000 in
theorem pn_ke : ∀ e ∈ pl_ke.2.2.2.2, gk_nok "DryPlaces$Keeper" e := gk_fn
theorem pk_ke : gk_pok gk_M "DryPlaces$Keeper" pl_ke := ⟨pf_ke, pc_ke, pi_ke, pg_ke, pn_ke⟩
def pl_la : gk_P := ([(9, 1, 2, 5), (15, 1, 3, 5), (18, 1, 4, 5), (21, 1, 5, 5), (24, 1, 6, 5), (27, 1, 7, 5), (30, 1, 0, 0), (34, 1, 1, 0)], [(3, 3, 0, 0, 0, 0, 0, 0), (37, 4, 0, 0, 5, 0, 0, 0)], [], [], [])
set_option maxRecDepth 100000 in
theorem pf_la : ∀ e ∈ pl_la.1, gk_fok1 "DryPlaces$Law" e := gk_fc ((⟨RX2, TX2, 8, .array (.int), rfl, by decide, rfl, gk_mem 1 126 rfl rfl, by decide +kernel, ⟨rfl, rfl, rfl, Or.inr ⟨_, rfl⟩⟩⟩ : gk_fok "DryPlaces$Law" 9 1 2 5)) (gk_fc ((⟨RX2, TX2, 8, .array (.int), rfl, by decide, rfl, gk_mem 1 128 rfl rfl, by decide +kernel, ⟨rfl, rfl, rfl, Or.inr ⟨_, rfl⟩⟩⟩ : gk_fok "DryPlaces$Law" 15 1 3 5)) (gk_fc ((⟨RX2, TX2, 8, .array (.int), rfl, by decide, rfl, gk_mem 1 130 rfl rfl, by decide +kernel, ⟨rfl, rfl, rfl, Or.inr ⟨_, rfl⟩⟩⟩ : gk_fok "DryPlaces$Law" 18 1 4 5)) (gk_fc ((⟨RX2, TX2, 8, .array (.int), rfl, by decide, rfl, gk_mem 1 132 rfl rfl, by decide +kernel, ⟨rfl, rfl, rfl, Or.inr ⟨_, rfl⟩⟩⟩ : gk_fok "DryPlaces$Law" 21 1 5 5)) (gk_fc ((⟨RX2, TX2, 8, .array (.int), rfl, by decide, rfl, gk_mem 1 134 rfl rfl, by decide +kernel, ⟨rfl, rfl, rfl, Or.inr ⟨_, rfl⟩⟩⟩ : gk_fok "DryPlaces$Law" 24 1 6 5)) (gk_fc ((⟨RX2, TX2, 8, .array (.int), rfl, by decide, rfl, gk_mem 1 136 rfl rfl, by decide +kernel, ⟨rfl, rfl, rfl, Or.inr ⟨_, rfl⟩⟩⟩ : gk_fok "DryPlaces$Law" 27 1 7 5)) (gk_fc ((⟨RX2, TX2, 8, .int, rfl, by decide, rfl, gk_mem 1 122 rfl rfl, by decide +kernel, ⟨rfl, rfl, rfl⟩⟩ : gk_fok "DryPlaces$Law" 30 1 0 0)) (gk_fc ((⟨RX2, TX2, 8, .int, rfl, by decide, rfl, gk_mem 1 125 rfl rfl, by decide +kernel, ⟨rfl, rfl, rfl⟩⟩ : gk_fok "DryPlaces$Law" 34 1 1 0)) (gk_fn))))))))
set_option maxRecDepth 100000 in
theorem pc_la : ∀ e ∈ pl_la.2.1, gk_cok1 gk_M "DryPlaces$Law" e := gk_fc ((gk_m3 (gk_mem 1 121 rfl rfl) (gk_mem 1 28 rfl rfl) (gk_mem 1 29 rfl rfl))) (gk_fc ((gk_m4 (gk_mem 4 137 rfl rfl) (gk_mem 3 9 rfl rfl) (gk_mem 3 8 rfl rfl) (gk_mem 1 16 rfl rfl))) (gk_fn))
set_option maxRecDepth 100000 in
theorem pi_la : ∀ e ∈ pl_la.2.2.1, Cond.constant "DryPlaces$Law" e.1 e.2 ∈ gk_TT := gk_fn
set_option maxRecDepth 100000 in
theorem pg_la : ∀ e ∈ pl_la.2.2.2.1, Cond.constantLong "DryPlaces$Law" e.1 e.2 ∈ gk_TT := gk_fn
set_option maxRecDepth 100000 in
theorem pn_la : ∀ e ∈ pl_la.2.2.2.2, gk_nok "DryPlaces$Law" e := gk_fn
theorem pk_la : gk_pok gk_M "DryPlaces$Law" pl_la := ⟨pf_la, pc_la, pi_la, pg_la, pn_la⟩
def pl_pa : gk_P := ([(12, 2, 1, 5), (18, 2, 3, 0), (22, 2, 0, 5), (26, 2, 2, 0), (29, 2, 4, 0), (41, 2, 5, 0), (44, 4, 1, 2), (48, 2, 6, 0), (74, 4, 3, 2), (80, 4, 2, 2), (119, 6, 0, 2)], [(3, 3, 0, 0, 0, 0, 0, 0), (11, 6, 100, 0, 0, 0, 11, 986), (32, 0, 102, 6, 1, 0, 0, 0), (36, 0, 83, 4, 0, 0, 0, 0), (50, 0, 56, 2, 1, 1, 0, 0), (54, 0, 57, 2, 1, 1, 0, 0), (57, 0, 101, 6, 1, 1, 0, 0), (61, 0, 68, 2, 0, 1, 0, 0), (65, 0, 63, 2, 0, 1, 0, 0), (68, 0, 65, 2, 0, 1, 0, 0), (71, 0, 64, 2, 0, 1, 0, 0), (77, 0, 58, 2, 0, 0, 0, 0), (83, 5, 155, 0, 3, 1, 0, 0), (87, 0, 60, 2, 3, 1, 0, 0), (91, 0, 62, 2, 1, 1, 0, 0), (94, 0, 59, 2, 1, 1, 0, 0), (97, 0, 105, 6, 3, 0, 0, 0), (101, 0, 61, 2, 1, 1, 0, 0), (104, 0, 106, 6, 2, 0, 0, 0), (108, 0, 66, 2, 0, 1, 0, 0), (112, 0, 67, 2, 1, 1, 0, 0), (115, 0, 107, 6, 4, 0, 0, 0), (123, 0, 50, 1, 1, 0, 0, 0), (128, 0, 72, 2, 0, 1, 0, 0), (131, 0, 51, 1, 0, 0, 0, 0), (134, 0, 69, 2, 1, 1, 0, 0), (137, 0, 52, 1, 0, 0, 0, 0), (140, 0, 70, 2, 1, 1, 0, 0), (143, 0, 73, 2, 1, 0, 0, 0), (146, 0, 53, 1, 2, 0, 0, 0), (149, 0, 71, 2, 0, 1, 0, 0), (152, 0, 75, 2, 0, 1, 0, 0), (155, 0, 74, 2, 0, 1, 0, 0)], [], [], [(9, 6)])
set_option maxRecDepth 100000 in
theorem pf_pa : ∀ e ∈ pl_pa.1, gk_fok1 "DryPlaces$Parser" e := gk_fc ((⟨RX3, TX3, 7, .object "DryPlaces$Texts", rfl, by decide, rfl, gk_mem 1 235 rfl rfl, by decide +kernel, ⟨rfl, rfl, rfl, Or.inl ⟨_, rfl⟩⟩⟩ : gk_fok "DryPlaces$Parser" 12 2 1 5)) (gk_fc ((⟨RX3, TX3, 7, .int, rfl, by decide, rfl, gk_mem 1 239 rfl rfl, by decide +kernel, ⟨rfl, rfl, rfl⟩⟩ : gk_fok "DryPlaces$Parser" 18 2 3 0)) (gk_fc ((⟨RX3, TX3, 7, .object "DryPlaces$Tape", rfl, by decide, rfl, gk_mem 1 234 rfl rfl, by decide +kernel, ⟨rfl, rfl, rfl, Or.inl ⟨_, rfl⟩⟩⟩ : gk_fok "DryPlaces$Parser" 22 2 0 5)) (gk_fc ((⟨RX3, TX3, 7, .int, rfl, by decide, rfl, gk_mem 1 237 rfl rfl, by decide +kernel, ⟨rfl, rfl, rfl⟩⟩ : gk_fok "DryPlaces$Parser" 26 2 2 0)) (gk_fc ((⟨RX3, TX3, 7, .int, rfl, by decide, rfl, gk_mem 2 1 rfl rfl, by decide +kernel, ⟨rfl, rfl, rfl⟩⟩ : gk_fok "DryPlaces$Parser" 29 2 4 0)) (gk_fc ((⟨RX3, TX3, 7, .int, rfl, by decide, rfl, gk_mem 2 2 rfl rfl, by decide +kernel, ⟨rfl, rfl, rfl⟩⟩ : gk_fok "DryPlaces$Parser" 41 2 5 0)) (gk_fc ((⟨RX5, TX5, 6, .array (.int), rfl, by decide, rfl, gk_mem 1 204 rfl rfl, by decide +kernel, rfl⟩ : gk_fok "DryPlaces$Parser" 44 4 1 2)) (gk_fc ((⟨RX3, TX3, 7, .int, rfl, by decide, rfl, gk_mem 2 3 rfl rfl, by decide +kernel, ⟨rfl, rfl, rfl⟩⟩ : gk_fok "DryPlaces$Parser" 48 2 6 0)) (gk_fc ((⟨RX5, TX5, 6, .array (.int), rfl, by decide, rfl, gk_mem 1 208 rfl rfl, by decide +kernel, rfl⟩ : gk_fok "DryPlaces$Parser" 74 4 3 2)) (gk_fc ((⟨RX5, TX5, 6, .array (.int), rfl, by decide, rfl, gk_mem 1 206 rfl rfl, by decide +kernel, rfl⟩ : gk_fok "DryPlaces$Parser" 80 4 2 2)) (gk_fc ((⟨RX7, TX7, 5, .object "DryPlaces$Law", rfl, by decide, rfl, gk_mem 1 157 rfl rfl, by decide +kernel, rfl⟩ : gk_fok "DryPlaces$Parser" 119 6 0 2)) (gk_fn)))))))))))
set_option maxRecDepth 100000 in
theorem pc_pa : ∀ e ∈ pl_pa.2.1, gk_cok1 gk_M "DryPlaces$Parser" e := gk_fc ((gk_m3 (gk_mem 1 231 rfl rfl) (gk_mem 1 28 rfl rfl) (gk_mem 1 29 rfl rfl))) (gk_fc ((⟨jk_tx_init, rfl, rfl, im_tx_init, by decide +kernel⟩ : gk_cok "DryPlaces$Parser" 11 6 (gk_M 100) 0 0)) (gk_fc ((⟨jk_tx_clearOne, ⟨_, _, rfl⟩, gk_m3 (gk_mem 3 117 rfl rfl) im_tx_clearOne sl_tx_clearOne⟩ : gk_cok "DryPlaces$Parser" 32 0 (gk_M 102) 6 1)) (gk_fc ((⟨jk_ta_cutUp, ⟨_, _, rfl⟩, gk_m3 (gk_mem 3 126 rfl rfl) im_ta_cutUp sl_ta_cutUp⟩ : gk_cok "DryPlaces$Parser" 36 0 (gk_M 83) 4 0)) (gk_fc ((⟨jk_pa_canBegin, ⟨_, _, rfl⟩, gk_m3 (gk_mem 4 19 rfl rfl) im_pa_canBegin sl_pa_canBegin⟩ : gk_cok "DryPlaces$Parser" 50 0 (gk_M 56) 2 1)) (gk_fc ((⟨jk_pa_refuse, ⟨_, _, rfl⟩, gk_m3 (gk_mem 4 23 rfl rfl) im_pa_refuse sl_pa_refuse⟩ : gk_cok "DryPlaces$Parser" 54 0 (gk_M 57) 2 1)) (gk_fc ((⟨jk_tx_count, ⟨_, _, rfl⟩, gk_m3 (gk_mem 4 27 rfl rfl) im_tx_count sl_tx_count⟩ : gk_cok "DryPlaces$Parser" 57 0 (gk_M 101) 6 1)) (gk_fc ((⟨jk_pa_readLaw, ⟨_, _, rfl⟩, gk_m3 (gk_mem 4 28 rfl rfl) im_pa_readLaw sl_pa_readLaw⟩ : gk_cok "DryPlaces$Parser" 61 0 (gk_M 68) 2 0)) (gk_fc ((⟨jk_pa_readPassage, ⟨_, _, rfl⟩, gk_m3 (gk_mem 4 89 rfl rfl) im_pa_readPassage sl_pa_readPassage⟩ : gk_cok "DryPlaces$Parser" 65 0 (gk_M 63) 2 0)) (gk_fc ((⟨jk_pa_readEntry, ⟨_, _, rfl⟩, gk_m3 (gk_mem 4 101 rfl rfl) im_pa_readEntry sl_pa_readEntry⟩ : gk_cok "DryPlaces$Parser" 68 0 (gk_M 65) 2 0)) (gk_fc ((⟨jk_pa_readVoucher, ⟨_, _, rfl⟩, gk_m3 (gk_mem 4 121 rfl rfl) im_pa_readVoucher sl_pa_readVoucher⟩ : gk_cok "DryPlaces$Parser" 71 0 (gk_M 64) 2 0)) (gk_fc ((⟨jk_pa_step, ⟨_, _, rfl⟩, gk_m3 (gk_mem 4 36 rfl rfl) im_pa_step sl_pa_step⟩ : gk_cok "DryPlaces$Parser" 77 0 (gk_M 58) 2 0)) (gk_fc ((⟨jk_dp_isWithin, st_dp_isWithin, by decide +kernel⟩ : gk_cok "DryPlaces$Parser" 83 5 (gk_M 155) 0 3)) (gk_fc ((⟨jk_pa_takeNumber, ⟨_, _, rfl⟩, gk_m3 (gk_mem 4 56 rfl rfl) im_pa_takeNumber sl_pa_takeNumber⟩ : gk_cok "DryPlaces$Parser" 87 0 (gk_M 60) 2 3)) (gk_fc ((⟨jk_pa_takeRoom, ⟨_, _, rfl⟩, gk_m3 (gk_mem 4 93 rfl rfl) im_pa_takeRoom sl_pa_takeRoom⟩ : gk_cok "DryPlaces$Parser" 91 0 (gk_M 62) 2 1)) (gk_fc ((⟨jk_pa_take, ⟨_, _, rfl⟩, gk_m3 (gk_mem 4 77 rfl rfl) im_pa_take sl_pa_take⟩ : gk_cok "DryPlaces$Parser" 94 0 (gk_M 59) 2 1)) (gk_fc ((⟨jk_tx_addPassage, ⟨_, _, rfl⟩, gk_m3 (gk_mem 4 97 rfl rfl) im_tx_addPassage sl_tx_addPassage⟩ : gk_cok "DryPlaces$Parser" 97 0 (gk_M 105) 6 3)) (gk_fc ((⟨jk_pa_takePlace, ⟨_, _, rfl⟩, gk_m3 (gk_mem 4 109 rfl rfl) im_pa_takePlace sl_pa_takePlace⟩ : gk_cok "DryPlaces$Parser" 101 0 (gk_M 61) 2 1)) (gk_fc ((⟨jk_tx_addVoucher, ⟨_, _, rfl⟩, gk_m3 (gk_mem 4 125 rfl rfl) im_tx_addVoucher sl_tx_addVoucher⟩ : gk_cok "DryPlaces$Parser" 104 0 (gk_M 106) 6 2)) (gk_fc ((⟨jk_pa_actOfWord, ⟨_, _, rfl⟩, gk_m3 (gk_mem 4 105 rfl rfl) im_pa_actOfWord sl_pa_actOfWord⟩ : gk_cok "DryPlaces$Parser" 108 0 (gk_M 66) 2 0)) (gk_fc ((⟨jk_pa_takeDetail, ⟨_, _, rfl⟩, gk_m3 (gk_mem 4 113 rfl rfl) im_pa_takeDetail sl_pa_takeDetail⟩ : gk_cok "DryPlaces$Parser" 112 0 (gk_M 67) 2 1)) (gk_fc ((⟨jk_tx_addEntry, ⟨_, _, rfl⟩, gk_m3 (gk_mem 4 117 rfl rfl) im_tx_addEntry sl_tx_addEntry⟩ : gk_cok "DryPlaces$Parser" 115 0 (gk_M 107) 6 4)) (gk_fc ((⟨jk_la_begin, ⟨_, _, rfl⟩, gk_m3 (gk_mem 4 32 rfl rfl) im_la_begin sl_la_begin⟩ : gk_cok "DryPlaces$Parser" 123 0 (gk_M 50) 1 1)) (gk_fc ((⟨jk_pa_readSum, ⟨_, _, rfl⟩, gk_m3 (gk_mem 4 40 rfl rfl) im_pa_readSum sl_pa_readSum⟩ : gk_cok "DryPlaces$Parser" 128 0 (gk_M 72) 2 0)) (gk_fc ((⟨jk_la_beginWhen, ⟨_, _, rfl⟩, gk_m3 (gk_mem 4 65 rfl rfl) im_la_beginWhen sl_la_beginWhen⟩ : gk_cok "DryPlaces$Parser" 131 0 (gk_M 51) 1 0)) (gk_fc ((⟨jk_pa_readCondition, ⟨_, _, rfl⟩, gk_m3 (gk_mem 4 69 rfl rfl) im_pa_readCondition sl_pa_readCondition⟩ : gk_cok "DryPlaces$Parser" 134 0 (gk_M 69) 2 1)) (gk_fc ((⟨jk_la_finish, ⟨_, _, rfl⟩, gk_m3 (gk_mem 4 85 rfl rfl) im_la_finish sl_la_finish⟩ : gk_cok "DryPlaces$Parser" 137 0 (gk_M 52) 1 0)) (gk_fc ((⟨jk_pa_readOne, ⟨_, _, rfl⟩, gk_m3 (gk_mem 4 73 rfl rfl) im_pa_readOne sl_pa_readOne⟩ : gk_cok "DryPlaces$Parser" 140 0 (gk_M 70) 2 1)) (gk_fc ((⟨jk_pa_addWaiting, ⟨_, _, rfl⟩, gk_m3 (gk_mem 4 61 rfl rfl) im_pa_addWaiting sl_pa_addWaiting⟩ : gk_cok "DryPlaces$Parser" 143 0 (gk_M 73) 2 1)) (gk_fc ((⟨jk_la_add, ⟨_, _, rfl⟩, gk_m3 (gk_mem 4 48 rfl rfl) im_la_add sl_la_add⟩ : gk_cok "DryPlaces$Parser" 146 0 (gk_M 53) 1 2)) (gk_fc ((⟨jk_pa_comparison, ⟨_, _, rfl⟩, gk_m3 (gk_mem 4 81 rfl rfl) im_pa_comparison sl_pa_comparison⟩ : gk_cok "DryPlaces$Parser" 149 0 (gk_M 71) 2 0)) (gk_fc ((⟨jk_pa_readUnit, ⟨_, _, rfl⟩, gk_m3 (gk_mem 4 44 rfl rfl) im_pa_readUnit sl_pa_readUnit⟩ : gk_cok "DryPlaces$Parser" 152 0 (gk_M 75) 2 0)) (gk_fc ((⟨jk_pa_isReckoning, ⟨_, _, rfl⟩, gk_m3 (gk_mem 4 52 rfl rfl) im_pa_isReckoning sl_pa_isReckoning⟩ : gk_cok "DryPlaces$Parser" 155 0 (gk_M 74) 2 0)) (gk_fn)))))))))))))))))))))))))))))))))
set_option maxRecDepth 100000 in
theorem pi_pa : ∀ e ∈ pl_pa.2.2.1, Cond.constant "DryPlaces$Parser" e.1 e.2 ∈ gk_TT := gk_fn
set_option maxRecDepth 100000 in
theorem pg_pa : ∀ e ∈ pl_pa.2.2.2.1, Cond.constantLong "DryPlaces$Parser" e.1 e.2 ∈ gk_TT := gk_fn
set_option maxRecDepth 100000 in
theorem pn_pa : ∀ e ∈ pl_pa.2.2.2.2, gk_nok "DryPlaces$Parser" e := gk_fc ((⟨RX7, TX7, 5, rfl, gk_m3 (gk_mem 1 232 rfl rfl) (gk_mem 1 111 rfl rfl) (gk_mem 1 4 rfl rfl)⟩ : gk_nok "DryPlaces$Parser" (9, 6))) (gk_fn)
theorem pk_pa : gk_pok gk_M "DryPlaces$Parser" pl_pa := ⟨pf_pa, pc_pa, pi_pa, pg_pa, pn_pa⟩
def pl_ps : gk_P := ([(11, 3, 0, 5), (18, 3, 2, 0), (22, 3, 1, 0)], [(3, 3, 0, 0, 0, 0, 0, 0), (17, 2, 113, 0, 0, 0, 5, 46), (25, 0, 114, 8, 1, 0, 0, 0)], [], [], [(9, 8)])
set_option maxRecDepth 100000 in
theorem pf_ps : ∀ e ∈ pl_ps.1, gk_fok1 "DryPlaces$Past" e := gk_fc ((⟨RX4, TX4, 3, .array (.object "DryPlaces$World"), rfl, by decide, rfl, gk_mem 1 185 rfl rfl, by decide +kernel, ⟨rfl, rfl, rfl, Or.inr ⟨_, rfl⟩⟩⟩ : gk_fok "DryPlaces$Past" 11 3 0 5)) (gk_fc ((⟨RX4, TX4, 3, .int, rfl, by decide, rfl, gk_mem 1 187 rfl rfl, by decide +kernel, ⟨rfl, rfl, rfl⟩⟩ : gk_fok "DryPlaces$Past" 18 3 2 0)) (gk_fc ((⟨RX4, TX4, 3, .int, rfl, by decide, rfl, gk_mem 1 186 rfl rfl, by decide +kernel, ⟨rfl, rfl, rfl⟩⟩ : gk_fok "DryPlaces$Past" 22 3 1 0)) (gk_fn)))
set_option maxRecDepth 100000 in
theorem pc_ps : ∀ e ∈ pl_ps.2.1, gk_cok1 gk_M "DryPlaces$Past" e := gk_fc ((gk_m3 (gk_mem 1 181 rfl rfl) (gk_mem 1 28 rfl rfl) (gk_mem 1 29 rfl rfl))) (gk_fc ((⟨jk_wo_init, rfl, rfl, gk_m2 (gk_mem 1 184 rfl rfl) im_wo_init⟩ : gk_cok "DryPlaces$Past" 17 2 (gk_M 113) 0 0)) (gk_fc ((⟨jk_wo_copy, ⟨_, _, rfl⟩, gk_m3 (gk_mem 3 3 rfl rfl) im_wo_copy sl_wo_copy⟩ : gk_cok "DryPlaces$Past" 25 0 (gk_M 114) 8 1)) (gk_fn)))
set_option maxRecDepth 100000 in
theorem pi_ps : ∀ e ∈ pl_ps.2.2.1, Cond.constant "DryPlaces$Past" e.1 e.2 ∈ gk_TT := gk_fn
set_option maxRecDepth 100000 in
theorem pg_ps : ∀ e ∈ pl_ps.2.2.2.1, Cond.constantLong "DryPlaces$Past" e.1 e.2 ∈ gk_TT := gk_fn
set_option maxRecDepth 100000 in
theorem pn_ps : ∀ e ∈ pl_ps.2.2.2.2, gk_nok "DryPlaces$Past" e := gk_fc ((⟨RX9, TX9, 13, rfl, gk_m3 (gk_mem 1 182 rfl rfl) (gk_mem 1 31 rfl rfl) (gk_mem 1 2 rfl rfl)⟩ : gk_nok "DryPlaces$Past" (9, 8))) (gk_fn)
theorem pk_ps : gk_pok gk_M "DryPlaces$Past" pl_ps := ⟨pf_ps, pc_ps, pi_ps, pg_ps, pn_ps⟩
def pl_ta : gk_P := ([(9, 4, 0, 5), (15, 4, 1, 5), (19, 4, 2, 5), (22, 4, 3, 5), (25, 4, 4, 0), (29, 4, 5, 0)], [(3, 3, 0, 0, 0, 0, 0, 0), (32, 0, 84, 4, 0, 0, 0, 0), (35, 0, 88, 4, 1, 1, 0, 0), (39, 0, 85, 4, 1, 0, 0, 0), (43, 0, 89, 4, 1, 1, 0, 0), (46, 0, 87, 4, 1, 0, 0, 0), (51, 7, 313, 0, 1, 1, 0, 0), (59, 7, 311, 0, 0, 1, 0, 0), (62, 7, 312, 0, 1, 1, 0, 0), (66, 0, 86, 4, 3, 1, 0, 0)], [], [], [])
set_option maxRecDepth 100000 in
theorem pf_ta : ∀ e ∈ pl_ta.1, gk_fok1 "DryPlaces$Tape" e := gk_fc ((⟨RX5, TX5, 6, .array (.char), rfl, by decide, rfl, gk_mem 1 202 rfl rfl, by decide +kernel, ⟨rfl, rfl, rfl, Or.inr ⟨_, rfl⟩⟩⟩ : gk_fok "DryPlaces$Tape" 9 4 0 5)) (gk_fc ((⟨RX5, TX5, 6, .array (.int), rfl, by decide, rfl, gk_mem 1 203 rfl rfl, by decide +kernel, ⟨rfl, rfl, rfl, Or.inr ⟨_, rfl⟩⟩⟩ : gk_fok "DryPlaces$Tape" 15 4 1 5)) (gk_fc ((⟨RX5, TX5, 6, .array (.int), rfl, by decide, rfl, gk_mem 1 205 rfl rfl, by decide +kernel, ⟨rfl, rfl, rfl, Or.inr ⟨_, rfl⟩⟩⟩ : gk_fok "DryPlaces$Tape" 19 4 2 5)) (gk_fc ((⟨RX5, TX5, 6, .array (.int), rfl, by decide, rfl, gk_mem 1 207 rfl rfl, by decide +kernel, ⟨rfl, rfl, rfl, Or.inr ⟨_, rfl⟩⟩⟩ : gk_fok "DryPlaces$Tape" 22 4 3 5)) (gk_fc ((⟨RX5, TX5, 6, .int, rfl, by decide, rfl, gk_mem 1 209 rfl rfl, by decide +kernel, ⟨rfl, rfl, rfl⟩⟩ : gk_fok "DryPlaces$Tape" 25 4 4 0)) (gk_fc ((⟨RX5, TX5, 6, .int, rfl, by decide, rfl, gk_mem 1 211 rfl rfl, by decide +kernel, ⟨rfl, rfl, rfl⟩⟩ : gk_fok "DryPlaces$Tape" 29 4 5 0)) (gk_fn))))))
set_option maxRecDepth 100000 in
theorem pc_ta : ∀ e ∈ pl_ta.2.1, gk_cok1 gk_M "DryPlaces$Tape" e := gk_fc ((gk_m3 (gk_mem 1 201 rfl rfl) (gk_mem 1 28 rfl rfl) (gk_mem 1 29 rfl rfl))) (gk_fc ((⟨jk_ta_skipBlanks, ⟨_, _, rfl⟩, gk_m3 (gk_mem 3 130 rfl rfl) im_ta_skipBlanks sl_ta_skipBlanks⟩ : gk_cok "DryPlaces$Tape" 32 0 (gk_M 84) 4 0)) (gk_fc ((⟨jk_ta_isLetter, ⟨_, _, rfl⟩, gk_m3 (gk_mem 3 134 rfl rfl) im_ta_isLetter sl_ta_isLetter⟩ : gk_cok "DryPlaces$Tape" 35 0 (gk_M 88) 4 1)) (gk_fc ((⟨jk_ta_readWord, ⟨_, _, rfl⟩, gk_m3 (gk_mem 3 138 rfl rfl) im_ta_readWord sl_ta_readWord⟩ : gk_cok "DryPlaces$Tape" 39 0 (gk_M 85) 4 1)) (gk_fc ((⟨jk_ta_isDigit, ⟨_, _, rfl⟩, gk_m3 (gk_mem 3 195 rfl rfl) im_ta_isDigit sl_ta_isDigit⟩ : gk_cok "DryPlaces$Tape" 43 0 (gk_M 89) 4 1)) (gk_fc ((⟨jk_ta_readNumber, ⟨_, _, rfl⟩, gk_m3 (gk_mem 3 199 rfl rfl) im_ta_readNumber sl_ta_readNumber⟩ : gk_cok "DryPlaces$Tape" 46 0 (gk_M 87) 4 1)) (gk_fc ((⟨jk_js_indexOf, rfl, gk_m3 (gk_mem 3 204 rfl rfl) im_js_indexOf sl_js_indexOf⟩ : gk_cok "DryPlaces$Tape" 51 7 (gk_M 313) 0 1)) (gk_fc ((⟨jk_js_length, rfl, gk_m3 (gk_mem 3 143 rfl rfl) im_js_length sl_js_length⟩ : gk_cok "DryPlaces$Tape" 59 7 (gk_M 311) 0 0)) (gk_fc ((⟨jk_js_charAt, rfl, gk_m3 (gk_mem 3 153 rfl rfl) im_js_charAt sl_js_charAt⟩ : gk_cok "DryPlaces$Tape" 62 7 (gk_M 312) 0 1)) (gk_fc ((⟨jk_ta_isWordAt, ⟨_, _, rfl⟩, gk_m3 (gk_mem 3 191 rfl rfl) im_ta_isWordAt sl_ta_isWordAt⟩ : gk_cok "DryPlaces$Tape" 66 0 (gk_M 86) 4 3)) (gk_fn))))))))))
set_option maxRecDepth 100000 in
theorem pi_ta : ∀ e ∈ pl_ta.2.2.1, Cond.constant "DryPlaces$Tape" e.1 e.2 ∈ gk_TT := gk_fn
set_option maxRecDepth 100000 in
theorem pg_ta : ∀ e ∈ pl_ta.2.2.2.1, Cond.constantLong "DryPlaces$Tape" e.1 e.2 ∈ gk_TT := gk_fn
set_option maxRecDepth 100000 in
theorem pn_ta : ∀ e ∈ pl_ta.2.2.2.2, gk_nok "DryPlaces$Tape" e := gk_fn
theorem pk_ta : gk_pok gk_M "DryPlaces$Tape" pl_ta := ⟨pf_ta, pc_ta, pi_ta, pg_ta, pn_ta⟩
def pl_te : gk_P := ([(11, 5, 1, 5), (15, 5, 2, 5), (18, 5, 0, 5), (41, 8, 10, 2), (46, 8, 8, 2), (61, 8, 9, 2), (68, 8, 12, 2), (74, 8, 11, 2), (77, 8, 5, 0), (81, 1, 0, 0), (86, 1, 4, 2), (89, 1, 5, 2), (92, 1, 2, 2), (98, 1, 3, 2), (101, 1, 6, 2), (104, 1, 7, 2)], [(3, 3, 0, 0, 0, 0, 0, 0), (22, 0, 95, 5, 3, 0, 0, 0), (26, 0, 96, 5, 2, 1, 0, 0), (30, 1, 94, 0, 2, 1, 0, 0), (33, 1, 310, 0, 2, 1, 0, 0), (38, 1, 309, 0, 2, 1, 0, 0), (50, 1, 307, 0, 1, 1, 0, 0), (56, 1, 10, 0, 1, 1, 0, 0), (64, 5, 157, 0, 1, 1, 0, 0), (71, 0, 118, 8, 1, 1, 0, 0), (95, 0, 97, 5, 2, 1, 0, 0), (107, 1, 98, 0, 3, 1, 0, 0), (111, 1, 99, 0, 3, 1, 0, 0)], [], [], [])
set_option maxRecDepth 100000 in
theorem pf_te : ∀ e ∈ pl_te.1, gk_fok1 "DryPlaces$Teller" e := gk_fc ((⟨RX6, TX6, 3, .array (.int), rfl, by decide, rfl, gk_mem 2 26 rfl rfl, by decide +kernel, ⟨rfl, rfl, rfl, Or.inr ⟨_, rfl⟩⟩⟩ : gk_fok "DryPlaces$Teller" 11 5 1 5)) (gk_fc ((⟨RX6, TX6, 3, .array (.int), rfl, by decide, rfl, gk_mem 2 27 rfl rfl, by decide +kernel, ⟨rfl, rfl, rfl, Or.inr ⟨_, rfl⟩⟩⟩ : gk_fok "DryPlaces$Teller" 15 5 2 5)) (gk_fc ((⟨RX6, TX6, 3, .object "DryPlaces$Law", rfl, by decide, rfl, gk_mem 2 25 rfl rfl, by decide +kernel, ⟨rfl, rfl, rfl, Or.inl ⟨_, rfl⟩⟩⟩ : gk_fok "DryPlaces$Teller" 18 5 0 5)) (gk_fc ((⟨RX9, TX9, 13, .array (.int), rfl, by decide, rfl, gk_mem 1 71 rfl rfl, by decide +kernel, rfl⟩ : gk_fok "DryPlaces$Teller" 41 8 10 2)) (gk_fc ((⟨RX9, TX9, 13, .array (.long), rfl, by decide, rfl, gk_mem 1 65 rfl rfl, by decide +kernel, rfl⟩ : gk_fok "DryPlaces$Teller" 46 8 8 2)) (gk_fc ((⟨RX9, TX9, 13, .array (.int), rfl, by decide, rfl, gk_mem 1 67 rfl rfl, by decide +kernel, rfl⟩ : gk_fok "DryPlaces$Teller" 61 8 9 2)) (gk_fc ((⟨RX9, TX9, 13, .array (.int), rfl, by decide, rfl, gk_mem 1 79 rfl rfl, by decide +kernel, rfl⟩ : gk_fok "DryPlaces$Teller" 68 8 12 2)) (gk_fc ((⟨RX9, TX9, 13, .array (.int), rfl, by decide, rfl, gk_mem 1 75 rfl rfl, by decide +kernel, rfl⟩ : gk_fok "DryPlaces$Teller" 74 8 11 2)) (gk_fc ((⟨RX9, TX9, 13, .int, rfl, by decide, rfl, gk_mem 1 55 rfl rfl, by decide +kernel, ⟨rfl, rfl, rfl⟩⟩ : gk_fok "DryPlaces$Teller" 77 8 5 0)) (gk_fc ((⟨RX2, TX2, 8, .int, rfl, by decide, rfl, gk_mem 1 124 rfl rfl, by decide +kernel, ⟨rfl, rfl, rfl⟩⟩ : gk_fok "DryPlaces$Teller" 81 1 0 0)) (gk_fc ((⟨RX2, TX2, 8, .array (.int), rfl, by decide, rfl, gk_mem 1 131 rfl rfl, by decide +kernel, rfl⟩ : gk_fok "DryPlaces$Teller" 86 1 4 2)) (gk_fc ((⟨RX2, TX2, 8, .array (.int), rfl, by decide, rfl, gk_mem 1 133 rfl rfl, by decide +kernel, rfl⟩ : gk_fok "DryPlaces$Teller" 89 1 5 2)) (gk_fc ((⟨RX2, TX2, 8, .array (.int), rfl, by decide, rfl, gk_mem 1 127 rfl rfl, by decide +kernel, rfl⟩ : gk_fok "DryPlaces$Teller" 92 1 2 2)) (gk_fc ((⟨RX2, TX2, 8, .array (.int), rfl, by decide, rfl, gk_mem 1 129 rfl rfl, by decide +kernel, rfl⟩ : gk_fok "DryPlaces$Teller" 98 1 3 2)) (gk_fc ((⟨RX2, TX2, 8, .array (.int), rfl, by decide, rfl, gk_mem 1 135 rfl rfl, by decide +kernel, rfl⟩ : gk_fok "DryPlaces$Teller" 101 1 6 2)) (gk_fc ((⟨RX2, TX2, 8, .array (.int), rfl, by decide, rfl, gk_mem 1 137 rfl rfl, by decide +kernel, rfl⟩ : gk_fok "DryPlaces$Teller" 104 1 7 2)) (gk_fn))))))))))))))))
set_option maxRecDepth 100000 in
theorem pc_te : ∀ e ∈ pl_te.2.1, gk_cok1 gk_M "DryPlaces$Teller" e := gk_fc ((gk_m3 (gk_mem 2 24 rfl rfl) (gk_mem 1 28 rfl rfl) (gk_mem 1 29 rfl rfl))) (gk_fc ((⟨jk_te_face, ⟨_, _, rfl⟩, gk_m3 (gk_mem 2 177 rfl rfl) im_te_face sl_te_face⟩ : gk_cok "DryPlaces$Teller" 22 0 (gk_M 95) 5 3)) (gk_fc ((⟨jk_te_ask, ⟨_, _, rfl⟩, gk_m3 (gk_mem 2 210 rfl rfl) im_te_ask sl_te_ask⟩ : gk_cok "DryPlaces$Teller" 26 0 (gk_M 96) 5 2)) (gk_fc ((⟨jk_te_held, gk_m2 (gk_mem 2 224 rfl rfl) st_te_held⟩ : gk_cok "DryPlaces$Teller" 30 1 (gk_M 94) 0 2)) (gk_fc ((⟨jk_jm_min, gk_m2 (gk_mem 2 227 rfl rfl) st_jm_min⟩ : gk_cok "DryPlaces$Teller" 33 1 (gk_M 310) 0 2)) (gk_fc ((⟨jk_jm_max, gk_m2 (gk_mem 2 230 rfl rfl) st_jm_max⟩ : gk_cok "DryPlaces$Teller" 38 1 (gk_M 309) 0 2)) (gk_fc ((⟨jk_jl_bitCount, gk_m2 (gk_mem 2 181 rfl rfl) st_jl_bitCount⟩ : gk_cok "DryPlaces$Teller" 50 1 (gk_M 307) 0 1)) (gk_fc ((⟨jk_gr_edges, gk_m2 (gk_mem 2 187 rfl rfl) st_gr_edges⟩ : gk_cok "DryPlaces$Teller" 56 1 (gk_M 10) 0 1)) (gk_fc ((⟨jk_dp_isRoom, st_dp_isRoom, by decide +kernel⟩ : gk_cok "DryPlaces$Teller" 64 5 (gk_M 157) 0 1)) (gk_fc ((⟨jk_wo_isHosed, ⟨_, _, rfl⟩, gk_m3 (gk_mem 2 206 rfl rfl) im_wo_isHosed sl_wo_isHosed⟩ : gk_cok "DryPlaces$Teller" 71 0 (gk_M 118) 8 1)) (gk_fc ((⟨jk_te_run, ⟨_, _, rfl⟩, gk_m3 (gk_mem 2 214 rfl rfl) im_te_run sl_te_run⟩ : gk_cok "DryPlaces$Teller" 95 0 (gk_M 97) 5 2)) (gk_fc ((⟨jk_te_changed, gk_m2 (gk_mem 2 218 rfl rfl) st_te_changed⟩ : gk_cok "DryPlaces$Teller" 107 1 (gk_M 98) 0 3)) (gk_fc ((⟨jk_te_joined, gk_m2 (gk_mem 2 221 rfl rfl) st_te_joined⟩ : gk_cok "DryPlaces$Teller" 111 1 (gk_M 99) 0 3)) (gk_fn)))))))))))))
set_option maxRecDepth 100000 in
theorem pi_te : ∀ e ∈ pl_te.2.2.1, Cond.constant "DryPlaces$Teller" e.1 e.2 ∈ gk_TT := gk_fn
set_option maxRecDepth 100000 in
theorem pg_te : ∀ e ∈ pl_te.2.2.2.1, Cond.constantLong "DryPlaces$Teller" e.1 e.2 ∈ gk_TT := gk_fn
set_option maxRecDepth 100000 in
theorem pn_te : ∀ e ∈ pl_te.2.2.2.2, gk_nok "DryPlaces$Teller" e := gk_fn
theorem pk_te : gk_pok gk_M "DryPlaces$Teller" pl_te := ⟨pf_te, pc_te, pi_te, pg_te, pn_te⟩
def pl_tx : gk_P := ([(12, 6, 0, 5), (18, 6, 1, 5), (22, 6, 2, 5), (25, 6, 3, 5), (28, 6, 4, 5), (31, 1, 0, 0)], [(3, 3, 0, 0, 0, 0, 0, 0), (11, 6, 47, 0, 0, 0, 6, 864), (35, 0, 48, 1, 0, 0, 0, 0), (38, 1, 322, 0, 2, 0, 0, 0), (44, 0, 49, 1, 1, 0, 0, 0), (48, 4, 0, 0, 5, 0, 0, 0), (54, 0, 103, 6, 2, 0, 0, 0)], [], [], [(9, 1)])
set_option maxRecDepth 100000 in
theorem pf_tx : ∀ e ∈ pl_tx.1, gk_fok1 "DryPlaces$Texts" e := gk_fc ((⟨RX7, TX7, 5, .object "DryPlaces$Law", rfl, by decide, rfl, gk_mem 1 155 rfl rfl, by decide +kernel, ⟨rfl, rfl, rfl, Or.inl ⟨_, rfl⟩⟩⟩ : gk_fok "DryPlaces$Texts" 12 6 0 5)) (gk_fc ((⟨RX7, TX7, 5, .array (.int), rfl, by decide, rfl, gk_mem 1 158 rfl rfl, by decide +kernel, ⟨rfl, rfl, rfl, Or.inr ⟨_, rfl⟩⟩⟩ : gk_fok "DryPlaces$Texts" 18 6 1 5)) (gk_fc ((⟨RX7, TX7, 5, .array (.int), rfl, by decide, rfl, gk_mem 1 159 rfl rfl, by decide +kernel, ⟨rfl, rfl, rfl, Or.inr ⟨_, rfl⟩⟩⟩ : gk_fok "DryPlaces$Texts" 22 6 2 5)) (gk_fc ((⟨RX7, TX7, 5, .array (.int), rfl, by decide, rfl, gk_mem 1 161 rfl rfl, by decide +kernel, ⟨rfl, rfl, rfl, Or.inr ⟨_, rfl⟩⟩⟩ : gk_fok "DryPlaces$Texts" 25 6 3 5)) (gk_fc ((⟨RX7, TX7, 5, .array (.int), rfl, by decide, rfl, gk_mem 1 163 rfl rfl, by decide +kernel, ⟨rfl, rfl, rfl, Or.inr ⟨_, rfl⟩⟩⟩ : gk_fok "DryPlaces$Texts" 28 6 4 5)) (gk_fc ((⟨RX2, TX2, 8, .int, rfl, by decide, rfl, gk_mem 1 123 rfl rfl, by decide +kernel, ⟨rfl, rfl, rfl⟩⟩ : gk_fok "DryPlaces$Texts" 31 1 0 0)) (gk_fn))))))
set_option maxRecDepth 100000 in
theorem pc_tx : ∀ e ∈ pl_tx.2.1, gk_cok1 gk_M "DryPlaces$Texts" e := gk_fc ((gk_m3 (gk_mem 1 115 rfl rfl) (gk_mem 1 28 rfl rfl) (gk_mem 1 29 rfl rfl))) (gk_fc ((⟨jk_la_init, rfl, rfl, im_la_init, by decide +kernel⟩ : gk_cok "DryPlaces$Texts" 11 6 (gk_M 47) 0 0)) (gk_fc ((⟨jk_la_clear, ⟨_, _, rfl⟩, gk_m3 (gk_mem 3 121 rfl rfl) im_la_clear sl_la_clear⟩ : gk_cok "DryPlaces$Texts" 35 0 (gk_M 48) 1 0)) (gk_fc ((⟨jk_ja_fill, gk_m2 (gk_mem 3 125 rfl rfl) st_ja_fill⟩ : gk_cok "DryPlaces$Texts" 38 1 (gk_M 322) 0 2)) (gk_fc ((⟨jk_la_copy, ⟨_, _, rfl⟩, gk_m3 (gk_mem 4 133 rfl rfl) im_la_copy sl_la_copy⟩ : gk_cok "DryPlaces$Texts" 44 0 (gk_M 49) 1 1)) (gk_fc ((gk_m4 (gk_mem 4 138 rfl rfl) (gk_mem 3 9 rfl rfl) (gk_mem 3 8 rfl rfl) (gk_mem 1 16 rfl rfl))) (gk_fc ((⟨jk_tx_copyOne, ⟨_, _, rfl⟩, gk_m3 (gk_mem 5 139 rfl rfl) im_tx_copyOne sl_tx_copyOne⟩ : gk_cok "DryPlaces$Texts" 54 0 (gk_M 103) 6 2)) (gk_fn)))))))
set_option maxRecDepth 100000 in
theorem pi_tx : ∀ e ∈ pl_tx.2.2.1, Cond.constant "DryPlaces$Texts" e.1 e.2 ∈ gk_TT := gk_fn
set_option maxRecDepth 100000 in
theorem pg_tx : ∀ e ∈ pl_tx.2.2.2.1, Cond.constantLong "DryPlaces$Texts" e.1 e.2 ∈ gk_TT := gk_fn
set_option maxRecDepth 100000 in
theorem pn_tx : ∀ e ∈ pl_tx.2.2.2.2, gk_nok "DryPlaces$Texts" e := gk_fc ((⟨RX2, TX2, 8, rfl, gk_m3 (gk_mem 1 116 rfl rfl) (gk_mem 1 117 rfl rfl) (gk_mem 1 5 rfl rfl)⟩ : gk_nok "DryPlaces$Texts" (9, 1))) (gk_fn)
theorem pk_tx : gk_pok gk_M "DryPlaces$Texts" pl_tx := ⟨pf_tx, pc_tx, pi_tx, pg_tx, pn_tx⟩
def pl_tr : gk_P := ([(9, 7, 0, 5), (15, 7, 1, 5)], [(3, 3, 0, 0, 0, 0, 0, 0), (18, 0, 111, 7, 1, 0, 0, 0), (23, 1, 322, 0, 2, 0, 0, 0), (29, 0, 112, 7, 2, 0, 0, 0), (33, 0, 110, 7, 1, 1, 0, 0), (37, 1, 310, 0, 2, 1, 0, 0)], [(22, 1000000)], [], [])
set_option maxRecDepth 100000 in
theorem pf_tr : ∀ e ∈ pl_tr.1, gk_fok1 "DryPlaces$Tour" e := gk_fc ((⟨RX8, TX8, 2, .array (.int), rfl, by decide, rfl, gk_mem 2 63 rfl rfl, by decide +kernel, ⟨rfl, rfl, rfl, Or.inr ⟨_, rfl⟩⟩⟩ : gk_fok "DryPlaces$Tour" 9 7 0 5)) (gk_fc ((⟨RX8, TX8, 2, .array (.int), rfl, by decide, rfl, gk_mem 2 64 rfl rfl, by decide +kernel, ⟨rfl, rfl, rfl, Or.inr ⟨_, rfl⟩⟩⟩ : gk_fok "DryPlaces$Tour" 15 7 1 5)) (gk_fn))
set_option maxRecDepth 100000 in
theorem pc_tr : ∀ e ∈ pl_tr.2.1, gk_cok1 gk_M "DryPlaces$Tour" e := gk_fc ((gk_m3 (gk_mem 2 62 rfl rfl) (gk_mem 1 28 rfl rfl) (gk_mem 1 29 rfl rfl))) (gk_fc ((⟨jk_tr_measure, ⟨_, _, rfl⟩, gk_m3 (gk_mem 5 68 rfl rfl) im_tr_measure sl_tr_measure⟩ : gk_cok "DryPlaces$Tour" 18 0 (gk_M 111) 7 1)) (gk_fc ((⟨jk_ja_fill, gk_m2 (gk_mem 5 74 rfl rfl) st_ja_fill⟩ : gk_cok "DryPlaces$Tour" 23 1 (gk_M 322) 0 2)) (gk_fc ((⟨jk_tr_goOn, ⟨_, _, rfl⟩, gk_m3 (gk_mem 5 75 rfl rfl) im_tr_goOn sl_tr_goOn⟩ : gk_cok "DryPlaces$Tour" 29 0 (gk_M 112) 7 2)) (gk_fc ((⟨jk_tr_lengthTo, ⟨_, _, rfl⟩, gk_m3 (gk_mem 5 79 rfl rfl) im_tr_lengthTo sl_tr_lengthTo⟩ : gk_cok "DryPlaces$Tour" 33 0 (gk_M 110) 7 1)) (gk_fc ((⟨jk_jm_min, gk_m2 (gk_mem 5 73 rfl rfl) st_jm_min⟩ : gk_cok "DryPlaces$Tour" 37 1 (gk_M 310) 0 2)) (gk_fn))))))
set_option maxRecDepth 100000 in
theorem pi_tr : ∀ e ∈ pl_tr.2.2.1, Cond.constant "DryPlaces$Tour" e.1 e.2 ∈ gk_TT := gk_fc (gk_mem 5 72 rfl rfl) (gk_fn)
set_option maxRecDepth 100000 in
theorem pg_tr : ∀ e ∈ pl_tr.2.2.2.1, Cond.constantLong "DryPlaces$Tour" e.1 e.2 ∈ gk_TT := gk_fn
set_option maxRecDepth 100000 in
theorem pn_tr : ∀ e ∈ pl_tr.2.2.2.2, gk_nok "DryPlaces$Tour" e := gk_fn
theorem pk_tr : gk_pok gk_M "DryPlaces$Tour" pl_tr := ⟨pf_tr, pc_tr, pi_tr, pg_tr, pn_tr⟩
def pl_wo : gk_P := ([(9, 8, 8, 5), (15, 8, 9, 5), (19, 8, 10, 5), (22, 8, 11, 5), (25, 8, 12, 5), (34, 8, 0, 0), (38, 8, 1, 0), (41, 8, 2, 0), (44, 8, 3, 0), (47, 8, 4, 0), (50, 8, 5, 0), (53, 8, 6, 0), (56, 8, 7, 0)], [(3, 3, 0, 0, 0, 0, 0, 0), (28, 1, 322, 0, 2, 0, 0, 0), (59, 4, 0, 0, 5, 0, 0, 0), (65, 0, 117, 8, 1, 1, 0, 0), (70, 1, 310, 0, 2, 1, 0, 0), (78, 1, 307, 0, 1, 1, 0, 0), (84, 0, 122, 8, 1, 1, 0, 0)], [(69, 99999), (76, 1664525), (77, 1013904223)], [], [])
set_option maxRecDepth 100000 in
theorem pf_wo : ∀ e ∈ pl_wo.1, gk_fok1 "DryPlaces$World" e := gk_fc ((⟨RX9, TX9, 13, .array (.long), rfl, by decide, rfl, gk_mem 1 62 rfl rfl, by decide +kernel, ⟨rfl, rfl, rfl, Or.inr ⟨_, rfl⟩⟩⟩ : gk_fok "DryPlaces$World" 9 8 8 5)) (gk_fc ((⟨RX9, TX9, 13, .array (.int), rfl, by decide, rfl, gk_mem 1 66 rfl rfl, by decide +kernel, ⟨rfl, rfl, rfl, Or.inr ⟨_, rfl⟩⟩⟩ : gk_fok "DryPlaces$World" 15 8 9 5)) (gk_fc ((⟨RX9, TX9, 13, .array (.int), rfl, by decide, rfl, gk_mem 1 69 rfl rfl, by decide +kernel, ⟨rfl, rfl, rfl, Or.inr ⟨_, rfl⟩⟩⟩ : gk_fok "DryPlaces$World" 19 8 10 5)) (gk_fc ((⟨RX9, TX9, 13, .array (.int), rfl, by decide, rfl, gk_mem 1 73 rfl rfl, by decide +kernel, ⟨rfl, rfl, rfl, Or.inr ⟨_, rfl⟩⟩⟩ : gk_fok "DryPlaces$World" 22 8 11 5)) (gk_fc ((⟨RX9, TX9, 13, .array (.int), rfl, by decide, rfl, gk_mem 1 77 rfl rfl, by decide +kernel, ⟨rfl, rfl, rfl, Or.inr ⟨_, rfl⟩⟩⟩ : gk_fok "DryPlaces$World" 25 8 12 5)) (gk_fc ((⟨RX9, TX9, 13, .int, rfl, by decide, rfl, gk_mem 1 39 rfl rfl, by decide +kernel, ⟨rfl, rfl, rfl⟩⟩ : gk_fok "DryPlaces$World" 34 8 0 0)) (gk_fc ((⟨RX9, TX9, 13, .int, rfl, by decide, rfl, gk_mem 1 42 rfl rfl, by decide +kernel, ⟨rfl, rfl, rfl⟩⟩ : gk_fok "DryPlaces$World" 38 8 1 0)) (gk_fc ((⟨RX9, TX9, 13, .int, rfl, by decide, rfl, gk_mem 1 45 rfl rfl, by decide +kernel, ⟨rfl, rfl, rfl⟩⟩ : gk_fok "DryPlaces$World" 41 8 2 0)) (gk_fc ((⟨RX9, TX9, 13, .int, rfl, by decide, rfl, gk_mem 1 47 rfl rfl, by decide +kernel, ⟨rfl, rfl, rfl⟩⟩ : gk_fok "DryPlaces$World" 44 8 3 0)) (gk_fc ((⟨RX9, TX9, 13, .int, rfl, by decide, rfl, gk_mem 1 50 rfl rfl, by decide +kernel, ⟨rfl, rfl, rfl⟩⟩ : gk_fok "DryPlaces$World" 47 8 4 0)) (gk_fc ((⟨RX9, TX9, 13, .int, rfl, by decide, rfl, gk_mem 1 53 rfl rfl, by decide +kernel, ⟨rfl, rfl, rfl⟩⟩ : gk_fok "DryPlaces$World" 50 8 5 0)) (gk_fc ((⟨RX9, TX9, 13, .int, rfl, by decide, rfl, gk_mem 1 58 rfl rfl, by decide +kernel, ⟨rfl, rfl, rfl⟩⟩ : gk_fok "DryPlaces$World" 53 8 6 0)) (gk_fc ((⟨RX9, TX9, 13, .int, rfl, by decide, rfl, gk_mem 1 59 rfl rfl, by decide +kernel, ⟨rfl, rfl, rfl⟩⟩ : gk_fok "DryPlaces$World" 56 8 7 0)) (gk_fn)))))))))))))
set_option maxRecDepth 100000 in
theorem pc_wo : ∀ e ∈ pl_wo.2.1, gk_cok1 gk_M "DryPlaces$World" e := gk_fc ((gk_m3 (gk_mem 1 35 rfl rfl) (gk_mem 1 28 rfl rfl) (gk_mem 1 29 rfl rfl))) (gk_fc ((⟨jk_ja_fill, gk_m2 (gk_mem 1 36 rfl rfl) st_ja_fill⟩ : gk_cok "DryPlaces$World" 28 1 (gk_M 322) 0 2)) (gk_fc ((gk_m4 (gk_mem 3 7 rfl rfl) (gk_mem 3 9 rfl rfl) (gk_mem 3 8 rfl rfl) (gk_mem 1 16 rfl rfl))) (gk_fc ((⟨jk_wo_isOwned, ⟨_, _, rfl⟩, gk_m3 (gk_mem 3 56 rfl rfl) im_wo_isOwned sl_wo_isOwned⟩ : gk_cok "DryPlaces$World" 65 0 (gk_M 117) 8 1)) (gk_fc ((⟨jk_jm_min, gk_m2 (gk_mem 3 31 rfl rfl) st_jm_min⟩ : gk_cok "DryPlaces$World" 70 1 (gk_M 310) 0 2)) (gk_fc ((⟨jk_jl_bitCount, gk_m2 (gk_mem 4 186 rfl rfl) st_jl_bitCount⟩ : gk_cok "DryPlaces$World" 78 1 (gk_M 307) 0 1)) (gk_fc ((⟨jk_wo_dryOf, ⟨_, _, rfl⟩, gk_m3 (gk_mem 4 182 rfl rfl) im_wo_dryOf sl_wo_dryOf⟩ : gk_cok "DryPlaces$World" 84 0 (gk_M 122) 8 1)) (gk_fn)))))))
set_option maxRecDepth 100000 in
theorem pi_wo : ∀ e ∈ pl_wo.2.2.1, Cond.constant "DryPlaces$World" e.1 e.2 ∈ gk_TT := gk_fc (gk_mem 3 30 rfl rfl) (gk_fc (gk_mem 3 82 rfl rfl) (gk_fc (gk_mem 3 83 rfl rfl) (gk_fn)))
set_option maxRecDepth 100000 in
theorem pg_wo : ∀ e ∈ pl_wo.2.2.2.1, Cond.constantLong "DryPlaces$World" e.1 e.2 ∈ gk_TT := gk_fn
set_option maxRecDepth 100000 in
theorem pn_wo : ∀ e ∈ pl_wo.2.2.2.2, gk_nok "DryPlaces$World" e := gk_fn
theorem pk_wo : gk_pok gk_M "DryPlaces$World" pl_wo := ⟨pf_wo, pc_wo, pi_wo, pg_wo, pn_wo⟩
def pl_dp : gk_P := ([(12, 9, 0, 5), (19, 9, 1, 5), (23, 9, 2, 5), (30, 9, 3, 5), (37, 9, 4, 5), (46, 9, 5, 5), (52, 6, 0, 2), (59, 9, 6, 5), (68, 9, 7, 5), (72, 9, 8, 5), (75, 9, 9, 5), (81, 9, 10, 5), (85, 9, 11, 5), (88, 9, 12, 5), (91, 9, 13, 5), (94, 9, 14, 5), (97, 8, 6, 0), (108, 8, 0, 0), (119, 8, 8, 2), (130, 8, 3, 0), (144, 8, 5, 0), (159, 4, 4, 0), (166, 2, 1, 2), (175, 2, 2, 0), (178, 2, 3, 0), (185, 8, 9, 2), (188, 8, 10, 2), (197, 8, 11, 2), (224, 8, 12, 2), (227, 6, 2, 2), (230, 8, 7, 0), (236, 8, 4, 0), (310, 8, 1, 0), (326, 6, 4, 2), (360, 9, 15, 1), (364, 3, 2, 0)], [(3, 3, 0, 0, 0, 0, 0, 0), (11, 2, 113, 0, 0, 0, 5, 46), (18, 6, 100, 0, 0, 0, 11, 986), (29, 2, 76, 0, 0, 0, 37, 360), (36, 6, 80, 0, 0, 0, 4, 1603), (43, 2, 54, 0, 1, 0, 12, 991), (56, 2, 90, 0, 1, 0, 2, 31), (65, 2, 36, 0, 4, 0, 1, 5), (80, 6, 108, 0, 0, 0, 2, 420), (101, 0, 79, 3, 0, 0, 0, 0), (104, 1, 155, 0, 3, 1, 0, 0), (111, 0, 115, 8, 1, 1, 0, 0), (115, 0, 116, 8, 1, 1, 0, 0), (123, 1, 2, 0, 3, 2, 0, 0), (133, 0, 37, 0, 3, 1, 0, 0), (136, 0, 77, 3, 1, 0, 0, 0), (140, 0, 38, 0, 3, 0, 0, 0), (147, 0, 42, 0, 0, 1, 0, 0), (151, 0, 81, 4, 0, 1, 0, 0), (155, 0, 82, 4, 1, 0, 0, 0), (162, 0, 55, 2, 2, 1, 0, 0), (169, 0, 103, 6, 2, 0, 0, 0), (173, 0, 101, 6, 1, 1, 0, 0), (181, 1, 1, 0, 2, 1, 0, 0), (191, 0, 117, 8, 1, 1, 0, 0), (194, 0, 118, 8, 1, 1, 0, 0), (200, 0, 91, 5, 2, 1, 0, 0), (204, 0, 92, 5, 2, 1, 0, 0), (207, 1, 156, 0, 1, 1, 0, 0), (210, 1, 0, 0, 2, 1, 0, 0), (214, 1, 9, 0, 2, 1, 0, 0), (217, 0, 93, 5, 3, 1, 0, 0), (221, 1, 157, 0, 1, 1, 0, 0), (233, 0, 114, 8, 1, 0, 0, 0), (239, 0, 123, 8, 0, 1, 0, 0), (242, 1, 307, 0, 1, 1, 0, 0), (248, 1, 10, 0, 1, 1, 0, 0), (251, 1, 12, 0, 1, 1, 0, 0), (254, 1, 13, 0, 1, 1, 0, 0), (257, 1, 15, 0, 1, 1, 0, 0), (260, 1, 18, 0, 1, 2, 0, 0), (264, 1, 17, 0, 2, 2, 0, 0), (268, 1, 20, 0, 1, 1, 0, 0), (271, 1, 19, 0, 2, 2, 0, 0), (274, 1, 8, 0, 1, 1, 0, 0), (277, 1, 21, 0, 2, 2, 0, 0), (282, 1, 14, 0, 2, 2, 0, 0), (285, 1, 25, 0, 2, 1, 0, 0), (289, 1, 24, 0, 3, 1, 0, 0), (293, 1, 26, 0, 3, 1, 0, 0), (297, 1, 27, 0, 3, 1, 0, 0), (300, 1, 29, 0, 2, 1, 0, 0), (303, 1, 31, 0, 1, 1, 0, 0), (306, 1, 30, 0, 2, 1, 0, 0), (313, 0, 158, 9, 1, 1, 0, 0), (316, 0, 122, 8, 1, 1, 0, 0), (319, 0, 109, 7, 2, 1, 0, 0), (323, 0, 110, 7, 1, 1, 0, 0), (329, 0, 159, 9, 1, 1, 0, 0), (332, 1, 33, 0, 3, 1, 0, 0), (336, 1, 34, 0, 1, 1, 0, 0), (339, 0, 160, 9, 1, 1, 0, 0), (342, 1, 161, 0, 2, 1, 0, 0), (346, 0, 78, 3, 1, 1, 0, 0), (350, 0, 104, 6, 1, 0, 0, 0), (354, 4, 0, 0, 5, 0, 0, 0)], [(129, 99999)], [(280, (-1))], [(9, 8), (16, 6), (27, 3), (34, 4), (41, 2), (50, 5), (63, 0), (78, 7)])
set_option maxRecDepth 100000 in
theorem pf_dp : ∀ e ∈ pl_dp.1, gk_fok1 "DryPlaces" e := gk_fc ((⟨RX10, TX10, 16, .object "DryPlaces$World", rfl, by decide, rfl, gk_mem 2 70 rfl rfl, by decide +kernel, ⟨rfl, rfl, rfl, Or.inl ⟨_, rfl⟩⟩⟩ : gk_fok "DryPlaces" 12 9 0 5)) (gk_fc ((⟨RX10, TX10, 16, .object "DryPlaces$Texts", rfl, by decide, rfl, gk_mem 2 71 rfl rfl, by decide +kernel, ⟨rfl, rfl, rfl, Or.inl ⟨_, rfl⟩⟩⟩ : gk_fok "DryPlaces" 19 9 1 5)) (gk_fc ((⟨RX10, TX10, 16, .array (.int), rfl, by decide, rfl, gk_mem 2 72 rfl rfl, by decide +kernel, ⟨rfl, rfl, rfl, Or.inr ⟨_, rfl⟩⟩⟩ : gk_fok "DryPlaces" 23 9 2 5)) (gk_fc ((⟨RX10, TX10, 16, .object "DryPlaces$Past", rfl, by decide, rfl, gk_mem 2 73 rfl rfl, by decide +kernel, ⟨rfl, rfl, rfl, Or.inl ⟨_, rfl⟩⟩⟩ : gk_fok "DryPlaces" 30 9 3 5)) (gk_fc ((⟨RX10, TX10, 16, .object "DryPlaces$Tape", rfl, by decide, rfl, gk_mem 2 74 rfl rfl, by decide +kernel, ⟨rfl, rfl, rfl, Or.inl ⟨_, rfl⟩⟩⟩ : gk_fok "DryPlaces" 37 9 4 5)) (gk_fc ((⟨RX10, TX10, 16, .object "DryPlaces$Parser", rfl, by decide, rfl, gk_mem 2 75 rfl rfl, by decide +kernel, ⟨rfl, rfl, rfl, Or.inl ⟨_, rfl⟩⟩⟩ : gk_fok "DryPlaces" 46 9 5 5)) (gk_fc ((⟨RX7, TX7, 5, .object "DryPlaces$Law", rfl, by decide, rfl, gk_mem 1 156 rfl rfl, by decide +kernel, rfl⟩ : gk_fok "DryPlaces" 52 6 0 2)) (gk_fc ((⟨RX10, TX10, 16, .object "DryPlaces$Teller", rfl, by decide, rfl, gk_mem 2 76 rfl rfl, by decide +kernel, ⟨rfl, rfl, rfl, Or.inl ⟨_, rfl⟩⟩⟩ : gk_fok "DryPlaces" 59 9 6 5)) (gk_fc ((⟨RX10, TX10, 16, .object "DryPlaces$Keeper", rfl, by decide, rfl, gk_mem 2 77 rfl rfl, by decide +kernel, ⟨rfl, rfl, rfl, Or.inl ⟨_, rfl⟩⟩⟩ : gk_fok "DryPlaces" 68 9 7 5)) (gk_fc ((⟨RX10, TX10, 16, .object "DryPlaces$World", rfl, by decide, rfl, gk_mem 2 78 rfl rfl, by decide +kernel, ⟨rfl, rfl, rfl, Or.inl ⟨_, rfl⟩⟩⟩ : gk_fok "DryPlaces" 72 9 8 5)) (gk_fc ((⟨RX10, TX10, 16, .object "DryPlaces$Keeper", rfl, by decide, rfl, gk_mem 2 79 rfl rfl, by decide +kernel, ⟨rfl, rfl, rfl, Or.inl ⟨_, rfl⟩⟩⟩ : gk_fok "DryPlaces" 75 9 9 5)) (gk_fc ((⟨RX10, TX10, 16, .object "DryPlaces$Tour", rfl, by decide, rfl, gk_mem 2 80 rfl rfl, by decide +kernel, ⟨rfl, rfl, rfl, Or.inl ⟨_, rfl⟩⟩⟩ : gk_fok "DryPlaces" 81 9 10 5)) (gk_fc ((⟨RX10, TX10, 16, .array (.int), rfl, by decide, rfl, gk_mem 2 81 rfl rfl, by decide +kernel, ⟨rfl, rfl, rfl, Or.inr ⟨_, rfl⟩⟩⟩ : gk_fok "DryPlaces" 85 9 11 5)) (gk_fc ((⟨RX10, TX10, 16, .object "DryPlaces$World", rfl, by decide, rfl, gk_mem 2 82 rfl rfl, by decide +kernel, ⟨rfl, rfl, rfl, Or.inl ⟨_, rfl⟩⟩⟩ : gk_fok "DryPlaces" 88 9 12 5)) (gk_fc ((⟨RX10, TX10, 16, .object "DryPlaces$Texts", rfl, by decide, rfl, gk_mem 2 83 rfl rfl, by decide +kernel, ⟨rfl, rfl, rfl, Or.inl ⟨_, rfl⟩⟩⟩ : gk_fok "DryPlaces" 91 9 13 5)) (gk_fc ((⟨RX10, TX10, 16, .array (.int), rfl, by decide, rfl, gk_mem 2 84 rfl rfl, by decide +kernel, ⟨rfl, rfl, rfl, Or.inr ⟨_, rfl⟩⟩⟩ : gk_fok "DryPlaces" 94 9 14 5)) (gk_fc ((⟨RX9, TX9, 13, .int, rfl, by decide, rfl, gk_mem 1 57 rfl rfl, by decide +kernel, ⟨rfl, rfl, rfl⟩⟩ : gk_fok "DryPlaces" 97 8 6 0)) (gk_fc ((⟨RX9, TX9, 13, .int, rfl, by decide, rfl, gk_mem 1 40 rfl rfl, by decide +kernel, ⟨rfl, rfl, rfl⟩⟩ : gk_fok "DryPlaces" 108 8 0 0)) (gk_fc ((⟨RX9, TX9, 13, .array (.long), rfl, by decide, rfl, gk_mem 1 64 rfl rfl, by decide +kernel, rfl⟩ : gk_fok "DryPlaces" 119 8 8 2)) (gk_fc ((⟨RX9, TX9, 13, .int, rfl, by decide, rfl, gk_mem 1 49 rfl rfl, by decide +kernel, ⟨rfl, rfl, rfl⟩⟩ : gk_fok "DryPlaces" 130 8 3 0)) (gk_fc ((⟨RX9, TX9, 13, .int, rfl, by decide, rfl, gk_mem 1 56 rfl rfl, by decide +kernel, ⟨rfl, rfl, rfl⟩⟩ : gk_fok "DryPlaces" 144 8 5 0)) (gk_fc ((⟨RX5, TX5, 6, .int, rfl, by decide, rfl, gk_mem 1 210 rfl rfl, by decide +kernel, ⟨rfl, rfl, rfl⟩⟩ : gk_fok "DryPlaces" 159 4 4 0)) (gk_fc ((⟨RX3, TX3, 7, .object "DryPlaces$Texts", rfl, by decide, rfl, gk_mem 1 236 rfl rfl, by decide +kernel, rfl⟩ : gk_fok "DryPlaces" 166 2 1 2)) (gk_fc ((⟨RX3, TX3, 7, .int, rfl, by decide, rfl, gk_mem 1 238 rfl rfl, by decide +kernel, ⟨rfl, rfl, rfl⟩⟩ : gk_fok "DryPlaces" 175 2 2 0)) (gk_fc ((⟨RX3, TX3, 7, .int, rfl, by decide, rfl, gk_mem 2 0 rfl rfl, by decide +kernel, ⟨rfl, rfl, rfl⟩⟩ : gk_fok "DryPlaces" 178 2 3 0)) (gk_fc ((⟨RX9, TX9, 13, .array (.int), rfl, by decide, rfl, gk_mem 1 68 rfl rfl, by decide +kernel, rfl⟩ : gk_fok "DryPlaces" 185 8 9 2)) (gk_fc ((⟨RX9, TX9, 13, .array (.int), rfl, by decide, rfl, gk_mem 1 72 rfl rfl, by decide +kernel, rfl⟩ : gk_fok "DryPlaces" 188 8 10 2)) (gk_fc ((⟨RX9, TX9, 13, .array (.int), rfl, by decide, rfl, gk_mem 1 76 rfl rfl, by decide +kernel, rfl⟩ : gk_fok "DryPlaces" 197 8 11 2)) (gk_fc ((⟨RX9, TX9, 13, .array (.int), rfl, by decide, rfl, gk_mem 1 80 rfl rfl, by decide +kernel, rfl⟩ : gk_fok "DryPlaces" 224 8 12 2)) (gk_fc ((⟨RX7, TX7, 5, .array (.int), rfl, by decide, rfl, gk_mem 1 160 rfl rfl, by decide +kernel, rfl⟩ : gk_fok "DryPlaces" 227 6 2 2)) (gk_fc ((⟨RX9, TX9, 13, .int, rfl, by decide, rfl, gk_mem 1 61 rfl rfl, by decide +kernel, ⟨rfl, rfl, rfl⟩⟩ : gk_fok "DryPlaces" 230 8 7 0)) (gk_fc ((⟨RX9, TX9, 13, .int, rfl, by decide, rfl, gk_mem 1 52 rfl rfl, by decide +kernel, ⟨rfl, rfl, rfl⟩⟩ : gk_fok "DryPlaces" 236 8 4 0)) (gk_fc ((⟨RX9, TX9, 13, .int, rfl, by decide, rfl, gk_mem 1 44 rfl rfl, by decide +kernel, ⟨rfl, rfl, rfl⟩⟩ : gk_fok "DryPlaces" 310 8 1 0)) (gk_fc ((⟨RX7, TX7, 5, .array (.int), rfl, by decide, rfl, gk_mem 1 164 rfl rfl, by decide +kernel, rfl⟩ : gk_fok "DryPlaces" 326 6 4 2)) (gk_fc ((⟨RX10, TX10, 16, .boolean, rfl, by decide, rfl, gk_mem 2 85 rfl rfl, by decide +kernel, ⟨rfl, rfl, rfl⟩⟩ : gk_fok "DryPlaces" 360 9 15 1)) (gk_fc ((⟨RX4, TX4, 3, .int, rfl, by decide, rfl, gk_mem 1 188 rfl rfl, by decide +kernel, ⟨rfl, rfl, rfl⟩⟩ : gk_fok "DryPlaces" 364 3 2 0)) (gk_fn))))))))))))))))))))))))))))))))))))
set_option maxRecDepth 100000 in
theorem pc_dp : ∀ e ∈ pl_dp.2.1, gk_cok1 gk_M "DryPlaces" e := gk_fc ((gk_m3 (gk_mem 1 27 rfl rfl) (gk_mem 1 28 rfl rfl) (gk_mem 1 29 rfl rfl))) (gk_fc ((⟨jk_wo_init, rfl, rfl, gk_m2 (gk_mem 1 32 rfl rfl) im_wo_init⟩ : gk_cok "DryPlaces" 11 2 (gk_M 113) 0 0)) (gk_fc ((⟨jk_tx_init, rfl, rfl, im_tx_init, by decide +kernel⟩ : gk_cok "DryPlaces" 18 6 (gk_M 100) 0 0)) (gk_fc ((⟨jk_ps_init, rfl, rfl, gk_m2 (gk_mem 1 178 rfl rfl) im_ps_init⟩ : gk_cok "DryPlaces" 29 2 (gk_M 76) 0 0)) (gk_fc ((⟨jk_ta_init, rfl, rfl, im_ta_init, by decide +kernel⟩ : gk_cok "DryPlaces" 36 6 (gk_M 80) 0 0)) (gk_fc ((⟨jk_pa_init, rfl, rfl, gk_m2 (gk_mem 1 228 rfl rfl) im_pa_init⟩ : gk_cok "DryPlaces" 43 2 (gk_M 54) 0 1)) (gk_fc ((⟨jk_te_init, rfl, rfl, gk_m2 (gk_mem 2 21 rfl rfl) im_te_init⟩ : gk_cok "DryPlaces" 56 2 (gk_M 90) 0 1)) (gk_fc ((⟨jk_ke_init, rfl, rfl, gk_m2 (gk_mem 2 37 rfl rfl) im_ke_init⟩ : gk_cok "DryPlaces" 65 2 (gk_M 36) 0 4)) (gk_fc ((⟨jk_tr_init, rfl, rfl, im_tr_init, by decide +kernel⟩ : gk_cok "DryPlaces" 80 6 (gk_M 108) 0 0)) (gk_fc ((⟨jk_ps_forget, ⟨_, _, rfl⟩, gk_m3 (gk_mem 2 123 rfl rfl) im_ps_forget sl_ps_forget⟩ : gk_cok "DryPlaces" 101 0 (gk_M 79) 3 0)) (gk_fc ((⟨jk_dp_isWithin, gk_m2 (gk_mem 2 131 rfl rfl) st_dp_isWithin⟩ : gk_cok "DryPlaces" 104 1 (gk_M 155) 0 3)) (gk_fc ((⟨jk_wo_add, ⟨_, _, rfl⟩, gk_m3 (gk_mem 2 134 rfl rfl) im_wo_add sl_wo_add⟩ : gk_cok "DryPlaces" 111 0 (gk_M 115) 8 1)) (gk_fc ((⟨jk_wo_has, ⟨_, _, rfl⟩, gk_m3 (gk_mem 2 142 rfl rfl) im_wo_has sl_wo_has⟩ : gk_cok "DryPlaces" 115 0 (gk_M 116) 8 1)) (gk_fc ((⟨jk_gr_withRow, gk_m2 (gk_mem 2 146 rfl rfl) st_gr_withRow⟩ : gk_cok "DryPlaces" 123 1 (gk_M 2) 0 3)) (gk_fc ((⟨jk_ke_canDo, ⟨_, _, rfl⟩, gk_m3 (gk_mem 2 160 rfl rfl) im_ke_canDo sl_ke_canDo⟩ : gk_cok "DryPlaces" 133 0 (gk_M 37) 0 3)) (gk_fc ((⟨jk_ps_keep, ⟨_, _, rfl⟩, gk_m3 (gk_mem 2 239 rfl rfl) im_ps_keep sl_ps_keep⟩ : gk_cok "DryPlaces" 136 0 (gk_M 77) 3 1)) (gk_fc ((⟨jk_ke_carryOut, ⟨_, _, rfl⟩, gk_m3 (gk_mem 3 10 rfl rfl) im_ke_carryOut sl_ke_carryOut⟩ : gk_cok "DryPlaces" 140 0 (gk_M 38) 0 3)) (gk_fc ((⟨jk_ke_passDay, ⟨_, _, rfl⟩, gk_m3 (gk_mem 3 38 rfl rfl) im_ke_passDay sl_ke_passDay⟩ : gk_cok "DryPlaces" 147 0 (gk_M 42) 0 0)) (gk_fc ((⟨jk_ta_hasSpaceForFive, ⟨_, _, rfl⟩, gk_m3 (gk_mem 3 97 rfl rfl) im_ta_hasSpaceForFive sl_ta_hasSpaceForFive⟩ : gk_cok "DryPlaces" 151 0 (gk_M 81) 4 0)) (gk_fc ((⟨jk_ta_append, ⟨_, _, rfl⟩, gk_m3 (gk_mem 3 101 rfl rfl) im_ta_append sl_ta_append⟩ : gk_cok "DryPlaces" 155 0 (gk_M 82) 4 1)) (gk_fc ((⟨jk_pa_parse, ⟨_, _, rfl⟩, gk_m3 (gk_mem 3 113 rfl rfl) im_pa_parse sl_pa_parse⟩ : gk_cok "DryPlaces" 162 0 (gk_M 55) 2 2)) (gk_fc ((⟨jk_tx_copyOne, ⟨_, _, rfl⟩, gk_m3 (gk_mem 4 129 rfl rfl) im_tx_copyOne sl_tx_copyOne⟩ : gk_cok "DryPlaces" 169 0 (gk_M 103) 6 2)) (gk_fc ((⟨jk_tx_count, ⟨_, _, rfl⟩, gk_m3 (gk_mem 4 139 rfl rfl) im_tx_count sl_tx_count⟩ : gk_cok "DryPlaces" 173 0 (gk_M 101) 6 1)) (gk_fc ((⟨jk_gr_rowOf, gk_m2 (gk_mem 4 149 rfl rfl) st_gr_rowOf⟩ : gk_cok "DryPlaces" 181 1 (gk_M 1) 0 2)) (gk_fc ((⟨jk_wo_isOwned, ⟨_, _, rfl⟩, gk_m3 (gk_mem 4 152 rfl rfl) im_wo_isOwned sl_wo_isOwned⟩ : gk_cok "DryPlaces" 191 0 (gk_M 117) 8 1)) (gk_fc ((⟨jk_wo_isHosed, ⟨_, _, rfl⟩, gk_m3 (gk_mem 4 153 rfl rfl) im_wo_isHosed sl_wo_isHosed⟩ : gk_cok "DryPlaces" 194 0 (gk_M 118) 8 1)) (gk_fc ((⟨jk_te_worthOf, ⟨_, _, rfl⟩, gk_m3 (gk_mem 4 154 rfl rfl) im_te_worthOf sl_te_worthOf⟩ : gk_cok "DryPlaces" 200 0 (gk_M 91) 5 2)) (gk_fc ((⟨jk_te_comersTo, ⟨_, _, rfl⟩, gk_m3 (gk_mem 4 155 rfl rfl) im_te_comersTo sl_te_comersTo⟩ : gk_cok "DryPlaces" 204 0 (gk_M 92) 5 2)) (gk_fc ((⟨jk_dp_isCell, gk_m2 (gk_mem 4 160 rfl rfl) st_dp_isCell⟩ : gk_cok "DryPlaces" 207 1 (gk_M 156) 0 1)) (gk_fc ((⟨jk_gr_isDry, gk_m2 (gk_mem 4 161 rfl rfl) st_gr_isDry⟩ : gk_cok "DryPlaces" 210 1 (gk_M 0) 0 2)) (gk_fc ((⟨jk_gr_wetBeside, gk_m2 (gk_mem 4 162 rfl rfl) st_gr_wetBeside⟩ : gk_cok "DryPlaces" 214 1 (gk_M 9) 0 2)) (gk_fc ((⟨jk_te_chanceIn, ⟨_, _, rfl⟩, gk_m3 (gk_mem 4 163 rfl rfl) im_te_chanceIn sl_te_chanceIn⟩ : gk_cok "DryPlaces" 217 0 (gk_M 93) 5 3)) (gk_fc ((⟨jk_dp_isRoom, gk_m2 (gk_mem 4 168 rfl rfl) st_dp_isRoom⟩ : gk_cok "DryPlaces" 221 1 (gk_M 157) 0 1)) (gk_fc ((⟨jk_wo_copy, ⟨_, _, rfl⟩, gk_m3 (gk_mem 4 177 rfl rfl) im_wo_copy sl_wo_copy⟩ : gk_cok "DryPlaces" 233 0 (gk_M 114) 8 1)) (gk_fc ((⟨jk_wo_dryOfOwned, ⟨_, _, rfl⟩, gk_m3 (gk_mem 4 178 rfl rfl) im_wo_dryOfOwned sl_wo_dryOfOwned⟩ : gk_cok "DryPlaces" 239 0 (gk_M 123) 8 0)) (gk_fc ((⟨jk_jl_bitCount, gk_m2 (gk_mem 4 191 rfl rfl) st_jl_bitCount⟩ : gk_cok "DryPlaces" 242 1 (gk_M 307) 0 1)) (gk_fc ((⟨jk_gr_edges, gk_m2 (gk_mem 4 192 rfl rfl) st_gr_edges⟩ : gk_cok "DryPlaces" 248 1 (gk_M 10) 0 1)) (gk_fc ((⟨jk_gr_parts, gk_m2 (gk_mem 4 193 rfl rfl) st_gr_parts⟩ : gk_cok "DryPlaces" 251 1 (gk_M 12) 0 1)) (gk_fc ((⟨jk_gr_holes, gk_m2 (gk_mem 4 199 rfl rfl) st_gr_holes⟩ : gk_cok "DryPlaces" 254 1 (gk_M 13) 0 1)) (gk_fc ((⟨jk_gr_depth, gk_m2 (gk_mem 4 204 rfl rfl) st_gr_depth⟩ : gk_cok "DryPlaces" 257 1 (gk_M 15) 0 1)) (gk_fc ((⟨jk_gr_cornered, gk_m2 (gk_mem 4 212 rfl rfl) st_gr_cornered⟩ : gk_cok "DryPlaces" 260 1 (gk_M 18) 0 1)) (gk_fc ((⟨jk_gr_turnedBy, gk_m2 (gk_mem 4 216 rfl rfl) st_gr_turnedBy⟩ : gk_cok "DryPlaces" 264 1 (gk_M 17) 0 2)) (gk_fc ((⟨jk_gr_squareSide, gk_m2 (gk_mem 4 227 rfl rfl) st_gr_squareSide⟩ : gk_cok "DryPlaces" 268 1 (gk_M 20) 0 1)) (gk_fc ((⟨jk_gr_squareCorners, gk_m2 (gk_mem 4 233 rfl rfl) st_gr_squareCorners⟩ : gk_cok "DryPlaces" 271 1 (gk_M 19) 0 2)) (gk_fc ((⟨jk_gr_firstOf, gk_m2 (gk_mem 4 234 rfl rfl) st_gr_firstOf⟩ : gk_cok "DryPlaces" 274 1 (gk_M 8) 0 1)) (gk_fc ((⟨jk_gr_squaresFrom, gk_m2 (gk_mem 4 237 rfl rfl) st_gr_squaresFrom⟩ : gk_cok "DryPlaces" 277 1 (gk_M 21) 0 2)) (gk_fc ((⟨jk_gr_shrunk, gk_m2 (gk_mem 5 1 rfl rfl) st_gr_shrunk⟩ : gk_cok "DryPlaces" 282 1 (gk_M 14) 0 2)) (gk_fc ((⟨jk_gr_bestPush, gk_m2 (gk_mem 5 6 rfl rfl) st_gr_bestPush⟩ : gk_cok "DryPlaces" 285 1 (gk_M 25) 0 2)) (gk_fc ((⟨jk_gr_couples, gk_m2 (gk_mem 5 19 rfl rfl) st_gr_couples⟩ : gk_cok "DryPlaces" 289 1 (gk_M 24) 0 3)) (gk_fc ((⟨jk_gr_fewestSteps, gk_m2 (gk_mem 5 24 rfl rfl) st_gr_fewestSteps⟩ : gk_cok "DryPlaces" 293 1 (gk_M 26) 0 3)) (gk_fc ((⟨jk_gr_fewestTurnings, gk_m2 (gk_mem 5 27 rfl rfl) st_gr_fewestTurnings⟩ : gk_cok "DryPlaces" 297 1 (gk_M 27) 0 3)) (gk_fc ((⟨jk_gr_sumOf, gk_m2 (gk_mem 5 37 rfl rfl) st_gr_sumOf⟩ : gk_cok "DryPlaces" 300 1 (gk_M 29) 0 2)) (gk_fc ((⟨jk_gr_firstSwitch, gk_m2 (gk_mem 5 40 rfl rfl) st_gr_firstSwitch⟩ : gk_cok "DryPlaces" 303 1 (gk_M 31) 0 1)) (gk_fc ((⟨jk_gr_hasSameSums, gk_m2 (gk_mem 5 47 rfl rfl) st_gr_hasSameSums⟩ : gk_cok "DryPlaces" 306 1 (gk_M 30) 0 2)) (gk_fc ((⟨jk_dp_priceOf, ⟨_, _, rfl⟩, gk_m3 (gk_mem 5 55 rfl rfl) im_dp_priceOf sl_dp_priceOf⟩ : gk_cok "DryPlaces" 313 0 (gk_M 158) 9 1)) (gk_fc ((⟨jk_wo_dryOf, ⟨_, _, rfl⟩, gk_m3 (gk_mem 5 59 rfl rfl) im_wo_dryOf sl_wo_dryOf⟩ : gk_cok "DryPlaces" 316 0 (gk_M 122) 8 1)) (gk_fc ((⟨jk_tr_lastRoom, ⟨_, _, rfl⟩, gk_m3 (gk_mem 5 64 rfl rfl) im_tr_lastRoom sl_tr_lastRoom⟩ : gk_cok "DryPlaces" 319 0 (gk_M 109) 7 2)) (gk_fc ((⟨jk_tr_lengthTo, ⟨_, _, rfl⟩, gk_m3 (gk_mem 5 83 rfl rfl) im_tr_lengthTo sl_tr_lengthTo⟩ : gk_cok "DryPlaces" 323 0 (gk_M 110) 7 1)) (gk_fc ((⟨jk_dp_vouchersOfAll, ⟨_, _, rfl⟩, gk_m3 (gk_mem 5 88 rfl rfl) im_dp_vouchersOfAll sl_dp_vouchersOfAll⟩ : gk_cok "DryPlaces" 329 0 (gk_M 159) 9 1)) (gk_fc ((⟨jk_gr_isLie, gk_m2 (gk_mem 5 96 rfl rfl) st_gr_isLie⟩ : gk_cok "DryPlaces" 332 1 (gk_M 33) 0 3)) (gk_fc ((⟨jk_gr_standings, gk_m2 (gk_mem 5 106 rfl rfl) st_gr_standings⟩ : gk_cok "DryPlaces" 336 1 (gk_M 34) 0 1)) (gk_fc ((⟨jk_dp_heapOf, ⟨_, _, rfl⟩, gk_m3 (gk_mem 5 116 rfl rfl) im_dp_heapOf sl_dp_heapOf⟩ : gk_cok "DryPlaces" 339 0 (gk_M 160) 9 1)) (gk_fc ((⟨jk_dp_winningTake, gk_m2 (gk_mem 5 120 rfl rfl) st_dp_winningTake⟩ : gk_cok "DryPlaces" 342 1 (gk_M 161) 0 2)) (gk_fc ((⟨jk_ps_goBack, ⟨_, _, rfl⟩, gk_m3 (gk_mem 5 127 rfl rfl) im_ps_goBack sl_ps_goBack⟩ : gk_cok "DryPlaces" 346 0 (gk_M 78) 3 1)) (gk_fc ((⟨jk_tx_copyAll, ⟨_, _, rfl⟩, gk_m3 (gk_mem 5 135 rfl rfl) im_tx_copyAll sl_tx_copyAll⟩ : gk_cok "DryPlaces" 350 0 (gk_M 104) 6 1)) (gk_fc ((gk_m4 (gk_mem 5 140 rfl rfl) (gk_mem 3 9 rfl rfl) (gk_mem 3 8 rfl rfl) (gk_mem 1 16 rfl rfl))) (gk_fn))))))))))))))))))))))))))))))))))))))))))))))))))))))))))))))))))
set_option maxRecDepth 100000 in
theorem pi_dp : ∀ e ∈ pl_dp.2.2.1, Cond.constant "DryPlaces" e.1 e.2 ∈ gk_TT := gk_fc (gk_mem 2 155 rfl rfl) (gk_fn)
set_option maxRecDepth 100000 in
theorem pg_dp : ∀ e ∈ pl_dp.2.2.2.1, Cond.constantLong "DryPlaces" e.1 e.2 ∈ gk_TT := gk_fc (gk_mem 5 0 rfl rfl) (gk_fn)
set_option maxRecDepth 100000 in
theorem pn_dp : ∀ e ∈ pl_dp.2.2.2.2, gk_nok "DryPlaces" e := gk_fc ((⟨RX9, TX9, 13, rfl, gk_m3 (gk_mem 1 30 rfl rfl) (gk_mem 1 31 rfl rfl) (gk_mem 1 2 rfl rfl)⟩ : gk_nok "DryPlaces" (9, 8))) (gk_fc ((⟨RX7, TX7, 5, rfl, gk_m3 (gk_mem 1 110 rfl rfl) (gk_mem 1 111 rfl rfl) (gk_mem 1 4 rfl rfl)⟩ : gk_nok "DryPlaces" (16, 6))) (gk_fc ((⟨RX4, TX4, 3, rfl, gk_m3 (gk_mem 1 176 rfl rfl) (gk_mem 1 177 rfl rfl) (gk_mem 1 6 rfl rfl)⟩ : gk_nok "DryPlaces" (27, 3))) (gk_fc ((⟨RX5, TX5, 6, rfl, gk_m3 (gk_mem 1 196 rfl rfl) (gk_mem 1 197 rfl rfl) (gk_mem 1 7 rfl rfl)⟩ : gk_nok "DryPlaces" (34, 4))) (gk_fc ((⟨RX3, TX3, 7, rfl, gk_m3 (gk_mem 1 226 rfl rfl) (gk_mem 1 227 rfl rfl) (gk_mem 1 8 rfl rfl)⟩ : gk_nok "DryPlaces" (41, 2))) (gk_fc ((⟨RX6, TX6, 3, rfl, gk_m3 (gk_mem 2 19 rfl rfl) (gk_mem 2 20 rfl rfl) (gk_mem 1 9 rfl rfl)⟩ : gk_nok "DryPlaces" (50, 5))) (gk_fc ((⟨RX1, TX1, 5, rfl, gk_m3 (gk_mem 2 35 rfl rfl) (gk_mem 2 36 rfl rfl) (gk_mem 1 10 rfl rfl)⟩ : gk_nok "DryPlaces" (63, 0))) (gk_fc ((⟨RX8, TX8, 2, rfl, gk_m3 (gk_mem 2 57 rfl rfl) (gk_mem 2 58 rfl rfl) (gk_mem 1 11 rfl rfl)⟩ : gk_nok "DryPlaces" (78, 7))) (gk_fn))))))))
theorem pk_dp : gk_pok gk_M "DryPlaces" pl_dp := ⟨pf_dp, pc_dp, pi_dp, pg_dp, pn_dp⟩
def pl_mo : gk_P := ([(7, 10, 1, 5), (13, 10, 2, 5), (16, 10, 4, 5), (19, 10, 7, 5), (22, 10, 8, 5), (25, 10, 9, 5), (28, 10, 15, 5), (31, 10, 16, 5), (34, 10, 17, 5), (37, 10, 18, 5), (40, 10, 19, 5), (43, 10, 20, 5), (46, 10, 21, 5), (49, 10, 22, 5), (52, 10, 26, 5), (55, 10, 31, 0), (59, 10, 33, 5), (62, 10, 35, 5), (65, 10, 37, 5), (68, 10, 38, 5), (71, 10, 39, 5), (74, 10, 40, 5), (77, 10, 41, 5), (80, 10, 42, 5), (83, 10, 43, 5), (86, 10, 44, 5), (89, 10, 45, 5), (92, 10, 46, 5), (95, 10, 47, 5), (98, 10, 48, 5), (101, 10, 49, 5), (104, 10, 50, 5), (107, 10, 54, 5), (110, 10, 0, 0), (113, 10, 3, 0), (116, 10, 5, 1), (122, 10, 6, 0), (155, 10, 10, 0), (162, 10, 11, 0), (168, 10, 12, 0), (171, 10, 13, 0), (174, 10, 14, 0), (189, 10, 28, 0), (192, 10, 29, 0), (195, 10, 24, 0), (224, 10, 27, 0), (227, 10, 25, 0), (249, 10, 23, 0), (295, 10, 32, 0), (298, 10, 34, 0), (301, 10, 36, 0), (304, 10, 30, 0), (519, 10, 53, 0), (522, 10, 51, 1), (528, 10, 52, 1)], [(1, 3, 0, 0, 0, 0, 0, 0), (125, 0, 163, 10, 3, 1, 0, 0), (129, 0, 178, 10, 2, 1, 0, 0), (133, 0, 169, 10, 2, 1, 0, 0), (137, 0, 179, 10, 3, 1, 0, 0), (140, 0, 168, 10, 1, 1, 0, 0), (144, 0, 180, 10, 2, 1, 0, 0), (147, 0, 181, 10, 2, 1, 0, 0), (150, 0, 176, 10, 1, 1, 0, 0), (158, 0, 187, 10, 1, 0, 0, 0), (165, 0, 190, 10, 1, 1, 0, 0), (177, 0, 191, 10, 1, 1, 0, 0), (180, 0, 194, 10, 2, 1, 0, 0), (183, 0, 192, 10, 1, 1, 0, 0), (186, 0, 193, 10, 1, 1, 0, 0), (198, 0, 200, 10, 1, 1, 0, 0), (201, 0, 196, 10, 1, 1, 0, 0), (204, 0, 199, 10, 2, 0, 0, 0), (208, 0, 195, 10, 0, 0, 0, 0), (211, 0, 201, 10, 0, 1, 0, 0), (215, 0, 198, 10, 1, 1, 0, 0), (218, 0, 202, 10, 0, 1, 0, 0), (221, 0, 203, 10, 0, 1, 0, 0), (230, 0, 197, 10, 1, 1, 0, 0), (233, 0, 205, 10, 1, 0, 0, 0), (236, 0, 204, 10, 0, 1, 0, 0), (239, 0, 206, 10, 1, 0, 0, 0), (242, 0, 208, 10, 0, 1, 0, 0), (246, 0, 207, 10, 0, 1, 0, 0), (252, 0, 211, 10, 2, 1, 0, 0), (255, 0, 213, 10, 3, 1, 0, 0), (259, 0, 214, 10, 3, 1, 0, 0), (262, 0, 215, 10, 2, 0, 0, 0), (265, 0, 212, 10, 1, 1, 0, 0), (268, 0, 216, 10, 0, 1, 0, 0), (271, 0, 218, 10, 0, 1, 0, 0), (274, 0, 219, 10, 1, 1, 0, 0), (277, 0, 220, 10, 1, 1, 0, 0), (280, 0, 222, 10, 0, 1, 0, 0), (283, 0, 217, 10, 0, 1, 0, 0), (286, 0, 221, 10, 0, 1, 0, 0), (289, 0, 223, 10, 0, 1, 0, 0), (292, 0, 209, 10, 0, 1, 0, 0), (307, 0, 224, 10, 1, 1, 0, 0), (310, 0, 210, 10, 1, 0, 0, 0), (313, 0, 225, 10, 2, 0, 0, 0), (316, 0, 228, 10, 3, 1, 0, 0), (319, 0, 229, 10, 3, 1, 0, 0), (322, 0, 182, 10, 1, 1, 0, 0), (325, 0, 183, 10, 1, 1, 0, 0), (328, 0, 231, 10, 1, 1, 0, 0), (331, 0, 230, 10, 1, 1, 0, 0), (334, 0, 164, 10, 3, 1, 0, 0), (337, 0, 232, 10, 2, 0, 0, 0), (340, 0, 233, 10, 3, 1, 0, 0), (343, 0, 166, 10, 2, 1, 0, 0), (346, 0, 177, 10, 1, 1, 0, 0), (349, 0, 235, 10, 1, 1, 0, 0), (352, 0, 237, 10, 3, 0, 0, 0), (356, 0, 238, 10, 1, 0, 0, 0), (359, 0, 241, 10, 1, 0, 0, 0), (362, 0, 242, 10, 1, 0, 0, 0), (365, 0, 243, 10, 2, 0, 0, 0), (368, 0, 244, 10, 2, 0, 0, 0), (371, 0, 239, 10, 3, 1, 0, 0), (374, 0, 240, 10, 3, 1, 0, 0), (377, 0, 170, 10, 0, 0, 0, 0), (380, 0, 245, 10, 3, 0, 0, 0), (383, 0, 234, 10, 2, 1, 0, 0), (386, 0, 175, 10, 1, 1, 0, 0), (389, 0, 248, 10, 1, 1, 0, 0), (392, 0, 247, 10, 1, 1, 0, 0), (395, 0, 236, 10, 1, 1, 0, 0), (398, 0, 249, 10, 0, 1, 0, 0), (401, 0, 172, 10, 0, 0, 0, 0), (404, 0, 173, 10, 0, 0, 0, 0), (407, 0, 167, 10, 2, 1, 0, 0), (410, 0, 257, 10, 2, 1, 0, 0), (413, 0, 259, 10, 1, 1, 0, 0), (416, 0, 258, 10, 2, 0, 0, 0), (420, 0, 260, 10, 1, 1, 0, 0), (423, 0, 263, 10, 1, 0, 0, 0), (426, 0, 264, 10, 0, 1, 0, 0), (429, 0, 265, 10, 0, 0, 0, 0), (432, 0, 261, 10, 1, 1, 0, 0), (435, 0, 262, 10, 1, 1, 0, 0), (438, 0, 266, 10, 1, 1, 0, 0), (441, 0, 270, 10, 0, 0, 0, 0), (444, 0, 268, 10, 0, 0, 0, 0), (447, 0, 269, 10, 0, 0, 0, 0), (450, 0, 271, 10, 0, 1, 0, 0), (453, 0, 273, 10, 3, 1, 0, 0), (456, 0, 276, 10, 3, 1, 0, 0), (459, 0, 274, 10, 2, 1, 0, 0), (462, 0, 275, 10, 2, 1, 0, 0), (465, 0, 277, 10, 2, 1, 0, 0), (468, 0, 279, 10, 4, 1, 0, 0), (472, 0, 280, 10, 4, 1, 0, 0), (475, 0, 165, 10, 2, 1, 0, 0), (479, 0, 284, 10, 2, 1, 0, 0), (482, 0, 283, 10, 2, 1, 0, 0), (485, 0, 282, 10, 3, 1, 0, 0), (488, 0, 285, 10, 3, 1, 0, 0), (491, 0, 287, 10, 2, 1, 0, 0), (494, 0, 289, 10, 1, 1, 0, 0), (497, 0, 288, 10, 2, 1, 0, 0), (500, 0, 255, 10, 0, 1, 0, 0), (503, 0, 291, 10, 2, 1, 0, 0), (507, 0, 293, 10, 0, 0, 0, 0), (510, 0, 294, 10, 3, 1, 0, 0), (513, 0, 296, 10, 1, 1, 0, 0), (516, 0, 298, 10, 2, 1, 0, 0), (525, 0, 302, 10, 1, 1, 0, 0), (531, 0, 304, 10, 0, 0, 0, 0), (534, 0, 303, 10, 0, 0, 0, 0)], [(120, 1664525), (121, 1013904223), (154, 99999), (478, 100000000)], [], [])
set_option maxRecDepth 100000 in
theorem pf_mo : ∀ e ∈ pl_mo.1, gk_fok1 "DryPlacesModel" e := gk_fc ((⟨RX11, TX11, 55, .array (.int), rfl, by decide, rfl, gk_mem 5 152 rfl rfl, by decide +kernel, ⟨rfl, rfl, rfl, Or.inr ⟨_, rfl⟩⟩⟩ : gk_fok "DryPlacesModel" 7 10 1 5)) (gk_fc ((⟨RX11, TX11, 55, .array (.int), rfl, by decide, rfl, gk_mem 5 153 rfl rfl, by decide +kernel, ⟨rfl, rfl, rfl, Or.inr ⟨_, rfl⟩⟩⟩ : gk_fok "DryPlacesModel" 13 10 2 5)) (gk_fc ((⟨RX11, TX11, 55, .array (.int), rfl, by decide, rfl, gk_mem 5 155 rfl rfl, by decide +kernel, ⟨rfl, rfl, rfl, Or.inr ⟨_, rfl⟩⟩⟩ : gk_fok "DryPlacesModel" 16 10 4 5)) (gk_fc ((⟨RX11, TX11, 55, .array (.int), rfl, by decide, rfl, gk_mem 5 158 rfl rfl, by decide +kernel, ⟨rfl, rfl, rfl, Or.inr ⟨_, rfl⟩⟩⟩ : gk_fok "DryPlacesModel" 19 10 7 5)) (gk_fc ((⟨RX11, TX11, 55, .array (.int), rfl, by decide, rfl, gk_mem 5 159 rfl rfl, by decide +kernel, ⟨rfl, rfl, rfl, Or.inr ⟨_, rfl⟩⟩⟩ : gk_fok "DryPlacesModel" 22 10 8 5)) (gk_fc ((⟨RX11, TX11, 55, .array (.int), rfl, by decide, rfl, gk_mem 5 160 rfl rfl, by decide +kernel, ⟨rfl, rfl, rfl, Or.inr ⟨_, rfl⟩⟩⟩ : gk_fok "DryPlacesModel" 25 10 9 5)) (gk_fc ((⟨RX11, TX11, 55, .array (.int), rfl, by decide, rfl, gk_mem 5 166 rfl rfl, by decide +kernel, ⟨rfl, rfl, rfl, Or.inr ⟨_, rfl⟩⟩⟩ : gk_fok "DryPlacesModel" 28 10 15 5)) (gk_fc ((⟨RX11, TX11, 55, .array (.int), rfl, by decide, rfl, gk_mem 5 167 rfl rfl, by decide +kernel, ⟨rfl, rfl, rfl, Or.inr ⟨_, rfl⟩⟩⟩ : gk_fok "DryPlacesModel" 31 10 16 5)) (gk_fc ((⟨RX11, TX11, 55, .array (.int), rfl, by decide, rfl, gk_mem 5 168 rfl rfl, by decide +kernel, ⟨rfl, rfl, rfl, Or.inr ⟨_, rfl⟩⟩⟩ : gk_fok "DryPlacesModel" 34 10 17 5)) (gk_fc ((⟨RX11, TX11, 55, .array (.int), rfl, by decide, rfl, gk_mem 5 169 rfl rfl, by decide +kernel, ⟨rfl, rfl, rfl, Or.inr ⟨_, rfl⟩⟩⟩ : gk_fok "DryPlacesModel" 37 10 18 5)) (gk_fc ((⟨RX11, TX11, 55, .array (.int), rfl, by decide, rfl, gk_mem 5 170 rfl rfl, by decide +kernel, ⟨rfl, rfl, rfl, Or.inr ⟨_, rfl⟩⟩⟩ : gk_fok "DryPlacesModel" 40 10 19 5)) (gk_fc ((⟨RX11, TX11, 55, .array (.int), rfl, by decide, rfl, gk_mem 5 171 rfl rfl, by decide +kernel, ⟨rfl, rfl, rfl, Or.inr ⟨_, rfl⟩⟩⟩ : gk_fok "DryPlacesModel" 43 10 20 5)) (gk_fc ((⟨RX11, TX11, 55, .array (.int), rfl, by decide, rfl, gk_mem 5 172 rfl rfl, by decide +kernel, ⟨rfl, rfl, rfl, Or.inr ⟨_, rfl⟩⟩⟩ : gk_fok "DryPlacesModel" 46 10 21 5)) (gk_fc ((⟨RX11, TX11, 55, .array (.int), rfl, by decide, rfl, gk_mem 5 173 rfl rfl, by decide +kernel, ⟨rfl, rfl, rfl, Or.inr ⟨_, rfl⟩⟩⟩ : gk_fok "DryPlacesModel" 49 10 22 5)) (gk_fc ((⟨RX11, TX11, 55, .array (.int), rfl, by decide, rfl, gk_mem 5 177 rfl rfl, by decide +kernel, ⟨rfl, rfl, rfl, Or.inr ⟨_, rfl⟩⟩⟩ : gk_fok "DryPlacesModel" 52 10 26 5)) (gk_fc ((⟨RX11, TX11, 55, .int, rfl, by decide, rfl, gk_mem 5 182 rfl rfl, by decide +kernel, ⟨rfl, rfl, rfl⟩⟩ : gk_fok "DryPlacesModel" 55 10 31 0)) (gk_fc ((⟨RX11, TX11, 55, .array (.int), rfl, by decide, rfl, gk_mem 5 184 rfl rfl, by decide +kernel, ⟨rfl, rfl, rfl, Or.inr ⟨_, rfl⟩⟩⟩ : gk_fok "DryPlacesModel" 59 10 33 5)) (gk_fc ((⟨RX11, TX11, 55, .array (.int), rfl, by decide, rfl, gk_mem 5 186 rfl rfl, by decide +kernel, ⟨rfl, rfl, rfl, Or.inr ⟨_, rfl⟩⟩⟩ : gk_fok "DryPlacesModel" 62 10 35 5)) (gk_fc ((⟨RX11, TX11, 55, .array (.int), rfl, by decide, rfl, gk_mem 5 188 rfl rfl, by decide +kernel, ⟨rfl, rfl, rfl, Or.inr ⟨_, rfl⟩⟩⟩ : gk_fok "DryPlacesModel" 65 10 37 5)) (gk_fc ((⟨RX11, TX11, 55, .array (.int), rfl, by decide, rfl, gk_mem 5 189 rfl rfl, by decide +kernel, ⟨rfl, rfl, rfl, Or.inr ⟨_, rfl⟩⟩⟩ : gk_fok "DryPlacesModel" 68 10 38 5)) (gk_fc ((⟨RX11, TX11, 55, .array (.int), rfl, by decide, rfl, gk_mem 5 190 rfl rfl, by decide +kernel, ⟨rfl, rfl, rfl, Or.inr ⟨_, rfl⟩⟩⟩ : gk_fok "DryPlacesModel" 71 10 39 5)) (gk_fc ((⟨RX11, TX11, 55, .array (.int), rfl, by decide, rfl, gk_mem 5 191 rfl rfl, by decide +kernel, ⟨rfl, rfl, rfl, Or.inr ⟨_, rfl⟩⟩⟩ : gk_fok "DryPlacesModel" 74 10 40 5)) (gk_fc ((⟨RX11, TX11, 55, .array (.int), rfl, by decide, rfl, gk_mem 5 192 rfl rfl, by decide +kernel, ⟨rfl, rfl, rfl, Or.inr ⟨_, rfl⟩⟩⟩ : gk_fok "DryPlacesModel" 77 10 41 5)) (gk_fc ((⟨RX11, TX11, 55, .array (.int), rfl, by decide, rfl, gk_mem 5 193 rfl rfl, by decide +kernel, ⟨rfl, rfl, rfl, Or.inr ⟨_, rfl⟩⟩⟩ : gk_fok "DryPlacesModel" 80 10 42 5)) (gk_fc ((⟨RX11, TX11, 55, .array (.int), rfl, by decide, rfl, gk_mem 5 194 rfl rfl, by decide +kernel, ⟨rfl, rfl, rfl, Or.inr ⟨_, rfl⟩⟩⟩ : gk_fok "DryPlacesModel" 83 10 43 5)) (gk_fc ((⟨RX11, TX11, 55, .array (.int), rfl, by decide, rfl, gk_mem 5 195 rfl rfl, by decide +kernel, ⟨rfl, rfl, rfl, Or.inr ⟨_, rfl⟩⟩⟩ : gk_fok "DryPlacesModel" 86 10 44 5)) (gk_fc ((⟨RX11, TX11, 55, .array (.int), rfl, by decide, rfl, gk_mem 5 196 rfl rfl, by decide +kernel, ⟨rfl, rfl, rfl, Or.inr ⟨_, rfl⟩⟩⟩ : gk_fok "DryPlacesModel" 89 10 45 5)) (gk_fc ((⟨RX11, TX11, 55, .array (.int), rfl, by decide, rfl, gk_mem 5 197 rfl rfl, by decide +kernel, ⟨rfl, rfl, rfl, Or.inr ⟨_, rfl⟩⟩⟩ : gk_fok "DryPlacesModel" 92 10 46 5)) (gk_fc ((⟨RX11, TX11, 55, .array (.int), rfl, by decide, rfl, gk_mem 5 198 rfl rfl, by decide +kernel, ⟨rfl, rfl, rfl, Or.inr ⟨_, rfl⟩⟩⟩ : gk_fok "DryPlacesModel" 95 10 47 5)) (gk_fc ((⟨RX11, TX11, 55, .array (.int), rfl, by decide, rfl, gk_mem 5 199 rfl rfl, by decide +kernel, ⟨rfl, rfl, rfl, Or.inr ⟨_, rfl⟩⟩⟩ : gk_fok "DryPlacesModel" 98 10 48 5)) (gk_fc ((⟨RX11, TX11, 55, .array (.int), rfl, by decide, rfl, gk_mem 5 200 rfl rfl, by decide +kernel, ⟨rfl, rfl, rfl, Or.inr ⟨_, rfl⟩⟩⟩ : gk_fok "DryPlacesModel" 101 10 49 5)) (gk_fc ((⟨RX11, TX11, 55, .array (.int), rfl, by decide, rfl, gk_mem 5 201 rfl rfl, by decide +kernel, ⟨rfl, rfl, rfl, Or.inr ⟨_, rfl⟩⟩⟩ : gk_fok "DryPlacesModel" 104 10 50 5)) (gk_fc ((⟨RX11, TX11, 55, .array (.int), rfl, by decide, rfl, gk_mem 5 205 rfl rfl, by decide +kernel, ⟨rfl, rfl, rfl, Or.inr ⟨_, rfl⟩⟩⟩ : gk_fok "DryPlacesModel" 107 10 54 5)) (gk_fc ((⟨RX11, TX11, 55, .int, rfl, by decide, rfl, gk_mem 5 151 rfl rfl, by decide +kernel, ⟨rfl, rfl, rfl⟩⟩ : gk_fok "DryPlacesModel" 110 10 0 0)) (gk_fc ((⟨RX11, TX11, 55, .int, rfl, by decide, rfl, gk_mem 5 154 rfl rfl, by decide +kernel, ⟨rfl, rfl, rfl⟩⟩ : gk_fok "DryPlacesModel" 113 10 3 0)) (gk_fc ((⟨RX11, TX11, 55, .boolean, rfl, by decide, rfl, gk_mem 5 156 rfl rfl, by decide +kernel, ⟨rfl, rfl, rfl⟩⟩ : gk_fok "DryPlacesModel" 116 10 5 1)) (gk_fc ((⟨RX11, TX11, 55, .int, rfl, by decide, rfl, gk_mem 5 157 rfl rfl, by decide +kernel, ⟨rfl, rfl, rfl⟩⟩ : gk_fok "DryPlacesModel" 122 10 6 0)) (gk_fc ((⟨RX11, TX11, 55, .int, rfl, by decide, rfl, gk_mem 5 161 rfl rfl, by decide +kernel, ⟨rfl, rfl, rfl⟩⟩ : gk_fok "DryPlacesModel" 155 10 10 0)) (gk_fc ((⟨RX11, TX11, 55, .int, rfl, by decide, rfl, gk_mem 5 162 rfl rfl, by decide +kernel, ⟨rfl, rfl, rfl⟩⟩ : gk_fok "DryPlacesModel" 162 10 11 0)) (gk_fc ((⟨RX11, TX11, 55, .int, rfl, by decide, rfl, gk_mem 5 163 rfl rfl, by decide +kernel, ⟨rfl, rfl, rfl⟩⟩ : gk_fok "DryPlacesModel" 168 10 12 0)) (gk_fc ((⟨RX11, TX11, 55, .int, rfl, by decide, rfl, gk_mem 5 164 rfl rfl, by decide +kernel, ⟨rfl, rfl, rfl⟩⟩ : gk_fok "DryPlacesModel" 171 10 13 0)) (gk_fc ((⟨RX11, TX11, 55, .int, rfl, by decide, rfl, gk_mem 5 165 rfl rfl, by decide +kernel, ⟨rfl, rfl, rfl⟩⟩ : gk_fok "DryPlacesModel" 174 10 14 0)) (gk_fc ((⟨RX11, TX11, 55, .int, rfl, by decide, rfl, gk_mem 5 179 rfl rfl, by decide +kernel, ⟨rfl, rfl, rfl⟩⟩ : gk_fok "DryPlacesModel" 189 10 28 0)) (gk_fc ((⟨RX11, TX11, 55, .int, rfl, by decide, rfl, gk_mem 5 180 rfl rfl, by decide +kernel, ⟨rfl, rfl, rfl⟩⟩ : gk_fok "DryPlacesModel" 192 10 29 0)) (gk_fc ((⟨RX11, TX11, 55, .int, rfl, by decide, rfl, gk_mem 5 175 rfl rfl, by decide +kernel, ⟨rfl, rfl, rfl⟩⟩ : gk_fok "DryPlacesModel" 195 10 24 0)) (gk_fc ((⟨RX11, TX11, 55, .int, rfl, by decide, rfl, gk_mem 5 178 rfl rfl, by decide +kernel, ⟨rfl, rfl, rfl⟩⟩ : gk_fok "DryPlacesModel" 224 10 27 0)) (gk_fc ((⟨RX11, TX11, 55, .int, rfl, by decide, rfl, gk_mem 5 176 rfl rfl, by decide +kernel, ⟨rfl, rfl, rfl⟩⟩ : gk_fok "DryPlacesModel" 227 10 25 0)) (gk_fc ((⟨RX11, TX11, 55, .int, rfl, by decide, rfl, gk_mem 5 174 rfl rfl, by decide +kernel, ⟨rfl, rfl, rfl⟩⟩ : gk_fok "DryPlacesModel" 249 10 23 0)) (gk_fc ((⟨RX11, TX11, 55, .int, rfl, by decide, rfl, gk_mem 5 183 rfl rfl, by decide +kernel, ⟨rfl, rfl, rfl⟩⟩ : gk_fok "DryPlacesModel" 295 10 32 0)) (gk_fc ((⟨RX11, TX11, 55, .int, rfl, by decide, rfl, gk_mem 5 185 rfl rfl, by decide +kernel, ⟨rfl, rfl, rfl⟩⟩ : gk_fok "DryPlacesModel" 298 10 34 0)) (gk_fc ((⟨RX11, TX11, 55, .int, rfl, by decide, rfl, gk_mem 5 187 rfl rfl, by decide +kernel, ⟨rfl, rfl, rfl⟩⟩ : gk_fok "DryPlacesModel" 301 10 36 0)) (gk_fc ((⟨RX11, TX11, 55, .int, rfl, by decide, rfl, gk_mem 5 181 rfl rfl, by decide +kernel, ⟨rfl, rfl, rfl⟩⟩ : gk_fok "DryPlacesModel" 304 10 30 0)) (gk_fc ((⟨RX11, TX11, 55, .int, rfl, by decide, rfl, gk_mem 5 204 rfl rfl, by decide +kernel, ⟨rfl, rfl, rfl⟩⟩ : gk_fok "DryPlacesModel" 519 10 53 0)) (gk_fc ((⟨RX11, TX11, 55, .boolean, rfl, by decide, rfl, gk_mem 5 202 rfl rfl, by decide +kernel, ⟨rfl, rfl, rfl⟩⟩ : gk_fok "DryPlacesModel" 522 10 51 1)) (gk_fc ((⟨RX11, TX11, 55, .boolean, rfl, by decide, rfl, gk_mem 5 203 rfl rfl, by decide +kernel, ⟨rfl, rfl, rfl⟩⟩ : gk_fok "DryPlacesModel" 528 10 52 1)) (gk_fn)))))))))))))))))))))))))))))))))))))))))))))))))))))))
set_option maxRecDepth 100000 in
theorem pc_mo : ∀ e ∈ pl_mo.2.1, gk_cok1 gk_M "DryPlacesModel" e := gk_fc ((gk_m3 (gk_mem 5 150 rfl rfl) (gk_mem 1 28 rfl rfl) (gk_mem 1 29 rfl rfl))) (gk_fc ((⟨jk_mo_isIn, ⟨_, _, rfl⟩, gk_m3 (gk_mem 6 89 rfl rfl) im_mo_isIn sl_mo_isIn⟩ : gk_cok "DryPlacesModel" 125 0 (gk_M 163) 10 3)) (gk_fc ((⟨jk_mo_rowAt, ⟨_, _, rfl⟩, gk_m3 (gk_mem 6 93 rfl rfl) im_mo_rowAt sl_mo_rowAt⟩ : gk_cok "DryPlacesModel" 129 0 (gk_M 178) 10 2)) (gk_fc ((⟨jk_mo_has, ⟨_, _, rfl⟩, gk_m3 (gk_mem 7 74 rfl rfl) im_mo_has sl_mo_has⟩ : gk_cok "DryPlacesModel" 133 0 (gk_M 169) 10 2)) (gk_fc ((⟨jk_mo_isDry, ⟨_, _, rfl⟩, gk_m3 (gk_mem 7 82 rfl rfl) im_mo_isDry sl_mo_isDry⟩ : gk_cok "DryPlacesModel" 137 0 (gk_M 179) 10 3)) (gk_fc ((⟨jk_mo_onesOf, ⟨_, _, rfl⟩, gk_m3 (gk_mem 7 62 rfl rfl) im_mo_onesOf sl_mo_onesOf⟩ : gk_cok "DryPlacesModel" 140 0 (gk_M 168) 10 1)) (gk_fc ((⟨jk_mo_isDryCell, ⟨_, _, rfl⟩, gk_m3 (gk_mem 7 70 rfl rfl) im_mo_isDryCell sl_mo_isDryCell⟩ : gk_cok "DryPlacesModel" 144 0 (gk_M 180) 10 2)) (gk_fc ((⟨jk_mo_wetBeside, ⟨_, _, rfl⟩, gk_m3 (gk_mem 7 78 rfl rfl) im_mo_wetBeside sl_mo_wetBeside⟩ : gk_cok "DryPlacesModel" 147 0 (gk_M 181) 10 2)) (gk_fc ((⟨jk_mo_isPlace, ⟨_, _, rfl⟩, gk_m3 (gk_mem 6 101 rfl rfl) im_mo_isPlace sl_mo_isPlace⟩ : gk_cok "DryPlacesModel" 150 0 (gk_M 176) 10 1)) (gk_fc ((⟨jk_mo_types, ⟨_, _, rfl⟩, gk_m3 (gk_mem 6 114 rfl rfl) im_mo_types sl_mo_types⟩ : gk_cok "DryPlacesModel" 158 0 (gk_M 187) 10 1)) (gk_fc ((⟨jk_mo_raw, ⟨_, _, rfl⟩, gk_m3 (gk_mem 6 134 rfl rfl) im_mo_raw sl_mo_raw⟩ : gk_cok "DryPlacesModel" 165 0 (gk_M 190) 10 1)) (gk_fc ((⟨jk_mo_isLetter, ⟨_, _, rfl⟩, gk_m3 (gk_mem 6 138 rfl rfl) im_mo_isLetter sl_mo_isLetter⟩ : gk_cok "DryPlacesModel" 177 0 (gk_M 191) 10 1)) (gk_fc ((⟨jk_mo_wordAt, ⟨_, _, rfl⟩, gk_m3 (gk_mem 6 142 rfl rfl) im_mo_wordAt sl_mo_wordAt⟩ : gk_cok "DryPlacesModel" 180 0 (gk_M 194) 10 2)) (gk_fc ((⟨jk_mo_isDigit, ⟨_, _, rfl⟩, gk_m3 (gk_mem 6 146 rfl rfl) im_mo_isDigit sl_mo_isDigit⟩ : gk_cok "DryPlacesModel" 183 0 (gk_M 192) 10 1)) (gk_fc ((⟨jk_mo_isMarkSign, ⟨_, _, rfl⟩, gk_m3 (gk_mem 6 150 rfl rfl) im_mo_isMarkSign sl_mo_isMarkSign⟩ : gk_cok "DryPlacesModel" 186 0 (gk_M 193) 10 1)) (gk_fc ((⟨jk_mo_canAsk, ⟨_, _, rfl⟩, gk_m3 (gk_mem 6 238 rfl rfl) im_mo_canAsk sl_mo_canAsk⟩ : gk_cok "DryPlacesModel" 198 0 (gk_M 200) 10 1)) (gk_fc ((⟨jk_mo_errs, ⟨_, _, rfl⟩, gk_m3 (gk_mem 6 162 rfl rfl) im_mo_errs sl_mo_errs⟩ : gk_cok "DryPlacesModel" 201 0 (gk_M 196) 10 1)) (gk_fc ((⟨jk_mo_emits, ⟨_, _, rfl⟩, gk_m3 (gk_mem 7 2 rfl rfl) im_mo_emits sl_mo_emits⟩ : gk_cok "DryPlacesModel" 204 0 (gk_M 199) 10 2)) (gk_fc ((⟨jk_mo_reads, ⟨_, _, rfl⟩, gk_m3 (gk_mem 6 130 rfl rfl) im_mo_reads sl_mo_reads⟩ : gk_cok "DryPlacesModel" 208 0 (gk_M 195) 10 0)) (gk_fc ((⟨jk_mo_readUnit, ⟨_, _, rfl⟩, gk_m3 (gk_mem 6 234 rfl rfl) im_mo_readUnit sl_mo_readUnit⟩ : gk_cok "DryPlacesModel" 211 0 (gk_M 201) 10 0)) (gk_fc ((⟨jk_mo_isSign, ⟨_, _, rfl⟩, gk_m3 (gk_mem 6 190 rfl rfl) im_mo_isSign sl_mo_isSign⟩ : gk_cok "DryPlacesModel" 215 0 (gk_M 198) 10 1)) (gk_fc ((⟨jk_mo_readProduct, ⟨_, _, rfl⟩, gk_m3 (gk_mem 6 230 rfl rfl) im_mo_readProduct sl_mo_readProduct⟩ : gk_cok "DryPlacesModel" 218 0 (gk_M 202) 10 0)) (gk_fc ((⟨jk_mo_readSum, ⟨_, _, rfl⟩, gk_m3 (gk_mem 6 226 rfl rfl) im_mo_readSum sl_mo_readSum⟩ : gk_cok "DryPlacesModel" 221 0 (gk_M 203) 10 0)) (gk_fc ((⟨jk_mo_isWord, ⟨_, _, rfl⟩, gk_m3 (gk_mem 6 158 rfl rfl) im_mo_isWord sl_mo_isWord⟩ : gk_cok "DryPlacesModel" 230 0 (gk_M 197) 10 1)) (gk_fc ((⟨jk_mo_waits, ⟨_, _, rfl⟩, gk_m3 (gk_mem 7 10 rfl rfl) im_mo_waits sl_mo_waits⟩ : gk_cok "DryPlacesModel" 233 0 (gk_M 205) 10 1)) (gk_fc ((⟨jk_mo_readCompared, ⟨_, _, rfl⟩, gk_m3 (gk_mem 7 14 rfl rfl) im_mo_readCompared sl_mo_readCompared⟩ : gk_cok "DryPlacesModel" 236 0 (gk_M 204) 10 0)) (gk_fc ((⟨jk_mo_settles, ⟨_, _, rfl⟩, gk_m3 (gk_mem 7 18 rfl rfl) im_mo_settles sl_mo_settles⟩ : gk_cok "DryPlacesModel" 239 0 (gk_M 206) 10 1)) (gk_fc ((⟨jk_mo_isLineWord, ⟨_, _, rfl⟩, gk_m3 (gk_mem 6 222 rfl rfl) im_mo_isLineWord sl_mo_isLineWord⟩ : gk_cok "DryPlacesModel" 242 0 (gk_M 208) 10 0)) (gk_fc ((⟨jk_mo_readAny, ⟨_, _, rfl⟩, gk_m3 (gk_mem 7 6 rfl rfl) im_mo_readAny sl_mo_readAny⟩ : gk_cok "DryPlacesModel" 246 0 (gk_M 207) 10 0)) (gk_fc ((⟨jk_mo_readNumber, ⟨_, _, rfl⟩, gk_m3 (gk_mem 6 174 rfl rfl) im_mo_readNumber sl_mo_readNumber⟩ : gk_cok "DryPlacesModel" 252 0 (gk_M 211) 10 2)) (gk_fc ((⟨jk_mo_readTold, ⟨_, _, rfl⟩, gk_m3 (gk_mem 6 170 rfl rfl) im_mo_readTold sl_mo_readTold⟩ : gk_cok "DryPlacesModel" 255 0 (gk_M 213) 10 3)) (gk_fc ((⟨jk_mo_readOther, ⟨_, _, rfl⟩, gk_m3 (gk_mem 6 178 rfl rfl) im_mo_readOther sl_mo_readOther⟩ : gk_cok "DryPlacesModel" 259 0 (gk_M 214) 10 3)) (gk_fc ((⟨jk_mo_takesPassage, ⟨_, _, rfl⟩, gk_m3 (gk_mem 6 182 rfl rfl) im_mo_takesPassage sl_mo_takesPassage⟩ : gk_cok "DryPlacesModel" 262 0 (gk_M 215) 10 2)) (gk_fc ((⟨jk_mo_readMark, ⟨_, _, rfl⟩, gk_m3 (gk_mem 6 186 rfl rfl) im_mo_readMark sl_mo_readMark⟩ : gk_cok "DryPlacesModel" 265 0 (gk_M 212) 10 1)) (gk_fc ((⟨jk_mo_readPassage, ⟨_, _, rfl⟩, gk_m3 (gk_mem 6 166 rfl rfl) im_mo_readPassage sl_mo_readPassage⟩ : gk_cok "DryPlacesModel" 268 0 (gk_M 216) 10 0)) (gk_fc ((⟨jk_mo_kindOfDeed, ⟨_, _, rfl⟩, gk_m3 (gk_mem 6 202 rfl rfl) im_mo_kindOfDeed sl_mo_kindOfDeed⟩ : gk_cok "DryPlacesModel" 271 0 (gk_M 218) 10 0)) (gk_fc ((⟨jk_mo_readDeedMore, ⟨_, _, rfl⟩, gk_m3 (gk_mem 6 206 rfl rfl) im_mo_readDeedMore sl_mo_readDeedMore⟩ : gk_cok "DryPlacesModel" 274 0 (gk_M 219) 10 1)) (gk_fc ((⟨jk_mo_readDeed, ⟨_, _, rfl⟩, gk_m3 (gk_mem 6 198 rfl rfl) im_mo_readDeed sl_mo_readDeed⟩ : gk_cok "DryPlacesModel" 277 0 (gk_M 220) 10 1)) (gk_fc ((⟨jk_mo_readVouch, ⟨_, _, rfl⟩, gk_m3 (gk_mem 6 214 rfl rfl) im_mo_readVouch sl_mo_readVouch⟩ : gk_cok "DryPlacesModel" 280 0 (gk_M 222) 10 0)) (gk_fc ((⟨jk_mo_readPassages, ⟨_, _, rfl⟩, gk_m3 (gk_mem 6 154 rfl rfl) im_mo_readPassages sl_mo_readPassages⟩ : gk_cok "DryPlacesModel" 283 0 (gk_M 217) 10 0)) (gk_fc ((⟨jk_mo_readDiary, ⟨_, _, rfl⟩, gk_m3 (gk_mem 6 194 rfl rfl) im_mo_readDiary sl_mo_readDiary⟩ : gk_cok "DryPlacesModel" 286 0 (gk_M 221) 10 0)) (gk_fc ((⟨jk_mo_readVouches, ⟨_, _, rfl⟩, gk_m3 (gk_mem 6 210 rfl rfl) im_mo_readVouches sl_mo_readVouches⟩ : gk_cok "DryPlacesModel" 289 0 (gk_M 223) 10 0)) (gk_fc ((⟨jk_mo_readLaw, ⟨_, _, rfl⟩, gk_m3 (gk_mem 6 218 rfl rfl) im_mo_readLaw sl_mo_readLaw⟩ : gk_cok "DryPlacesModel" 292 0 (gk_M 209) 10 0)) (gk_fc ((⟨jk_mo_readsText, ⟨_, _, rfl⟩, gk_m3 (gk_mem 6 126 rfl rfl) im_mo_readsText sl_mo_readsText⟩ : gk_cok "DryPlacesModel" 307 0 (gk_M 224) 10 1)) (gk_fc ((⟨jk_mo_takesLaw, ⟨_, _, rfl⟩, gk_m3 (gk_mem 7 22 rfl rfl) im_mo_takesLaw sl_mo_takesLaw⟩ : gk_cok "DryPlacesModel" 310 0 (gk_M 210) 10 1)) (gk_fc ((⟨jk_mo_takesOther, ⟨_, _, rfl⟩, gk_m3 (gk_mem 7 26 rfl rfl) im_mo_takesOther sl_mo_takesOther⟩ : gk_cok "DryPlacesModel" 313 0 (gk_M 225) 10 2)) (gk_fc ((⟨jk_mo_twoOf, ⟨_, _, rfl⟩, gk_m3 (gk_mem 7 102 rfl rfl) im_mo_twoOf sl_mo_twoOf⟩ : gk_cok "DryPlacesModel" 316 0 (gk_M 228) 10 3)) (gk_fc ((⟨jk_mo_runs, ⟨_, _, rfl⟩, gk_m3 (gk_mem 7 98 rfl rfl) im_mo_runs sl_mo_runs⟩ : gk_cok "DryPlacesModel" 319 0 (gk_M 229) 10 3)) (gk_fc ((⟨jk_mo_dryOf, ⟨_, _, rfl⟩, gk_m3 (gk_mem 7 58 rfl rfl) im_mo_dryOf sl_mo_dryOf⟩ : gk_cok "DryPlacesModel" 322 0 (gk_M 182) 10 1)) (gk_fc ((⟨jk_mo_edgesOf, ⟨_, _, rfl⟩, gk_m3 (gk_mem 7 66 rfl rfl) im_mo_edgesOf sl_mo_edgesOf⟩ : gk_cok "DryPlacesModel" 325 0 (gk_M 183) 10 1)) (gk_fc ((⟨jk_mo_lightOf, ⟨_, _, rfl⟩, gk_m3 (gk_mem 7 86 rfl rfl) im_mo_lightOf sl_mo_lightOf⟩ : gk_cok "DryPlacesModel" 328 0 (gk_M 231) 10 1)) (gk_fc ((⟨jk_mo_lineOf, ⟨_, _, rfl⟩, gk_m3 (gk_mem 7 94 rfl rfl) im_mo_lineOf sl_mo_lineOf⟩ : gk_cok "DryPlacesModel" 331 0 (gk_M 230) 10 1)) (gk_fc ((⟨jk_mo_held, ⟨_, _, rfl⟩, gk_m3 (gk_mem 7 106 rfl rfl) im_mo_held sl_mo_held⟩ : gk_cok "DryPlacesModel" 334 0 (gk_M 164) 10 3)) (gk_fc ((⟨jk_mo_asks, ⟨_, _, rfl⟩, gk_m3 (gk_mem 7 54 rfl rfl) im_mo_asks sl_mo_asks⟩ : gk_cok "DryPlacesModel" 337 0 (gk_M 232) 10 2)) (gk_fc ((⟨jk_mo_lawTells, ⟨_, _, rfl⟩, gk_m3 (gk_mem 7 90 rfl rfl) im_mo_lawTells sl_mo_lawTells⟩ : gk_cok "DryPlacesModel" 340 0 (gk_M 233) 10 3)) (gk_fc ((⟨jk_mo_lesser, ⟨_, _, rfl⟩, gk_m3 (gk_mem 7 134 rfl rfl) im_mo_lesser sl_mo_lesser⟩ : gk_cok "DryPlacesModel" 343 0 (gk_M 166) 10 2)) (gk_fc ((⟨jk_mo_isCell, ⟨_, _, rfl⟩, gk_m3 (gk_mem 7 42 rfl rfl) im_mo_isCell sl_mo_isCell⟩ : gk_cok "DryPlacesModel" 346 0 (gk_M 177) 10 1)) (gk_fc ((⟨jk_mo_worthOf, ⟨_, _, rfl⟩, gk_m3 (gk_mem 7 50 rfl rfl) im_mo_worthOf sl_mo_worthOf⟩ : gk_cok "DryPlacesModel" 349 0 (gk_M 235) 10 1)) (gk_fc ((⟨jk_mo_notes, ⟨_, _, rfl⟩, gk_m3 (gk_mem 7 122 rfl rfl) im_mo_notes sl_mo_notes⟩ : gk_cok "DryPlacesModel" 352 0 (gk_M 237) 10 3)) (gk_fc ((⟨jk_mo_getsPaid, ⟨_, _, rfl⟩, gk_m3 (gk_mem 7 130 rfl rfl) im_mo_getsPaid sl_mo_getsPaid⟩ : gk_cok "DryPlacesModel" 356 0 (gk_M 238) 10 1)) (gk_fc ((⟨jk_mo_isBought, ⟨_, _, rfl⟩, gk_m3 (gk_mem 7 118 rfl rfl) im_mo_isBought sl_mo_isBought⟩ : gk_cok "DryPlacesModel" 359 0 (gk_M 241) 10 1)) (gk_fc ((⟨jk_mo_sells, ⟨_, _, rfl⟩, gk_m3 (gk_mem 7 126 rfl rfl) im_mo_sells sl_mo_sells⟩ : gk_cok "DryPlacesModel" 362 0 (gk_M 242) 10 1)) (gk_fc ((⟨jk_mo_hoses, ⟨_, _, rfl⟩, gk_m3 (gk_mem 7 138 rfl rfl) im_mo_hoses sl_mo_hoses⟩ : gk_cok "DryPlacesModel" 365 0 (gk_M 243) 10 2)) (gk_fc ((⟨jk_mo_wets, ⟨_, _, rfl⟩, gk_m3 (gk_mem 7 142 rfl rfl) im_mo_wets sl_mo_wets⟩ : gk_cok "DryPlacesModel" 368 0 (gk_M 244) 10 2)) (gk_fc ((⟨jk_mo_isTold, ⟨_, _, rfl⟩, gk_m3 (gk_mem 7 38 rfl rfl) im_mo_isTold sl_mo_isTold⟩ : gk_cok "DryPlacesModel" 371 0 (gk_M 239) 10 3)) (gk_fc ((⟨jk_mo_canAct, ⟨_, _, rfl⟩, gk_m3 (gk_mem 7 46 rfl rfl) im_mo_canAct sl_mo_canAct⟩ : gk_cok "DryPlacesModel" 374 0 (gk_M 240) 10 3)) (gk_fc ((⟨jk_mo_keepsAhead, ⟨_, _, rfl⟩, gk_m3 (gk_mem 7 110 rfl rfl) im_mo_keepsAhead sl_mo_keepsAhead⟩ : gk_cok "DryPlacesModel" 377 0 (gk_M 170) 10 0)) (gk_fc ((⟨jk_mo_acts, ⟨_, _, rfl⟩, gk_m3 (gk_mem 7 114 rfl rfl) im_mo_acts sl_mo_acts⟩ : gk_cok "DryPlacesModel" 380 0 (gk_M 245) 10 3)) (gk_fc ((⟨jk_mo_creepsOf, ⟨_, _, rfl⟩, gk_m3 (gk_mem 7 162 rfl rfl) im_mo_creepsOf sl_mo_creepsOf⟩ : gk_cok "DryPlacesModel" 383 0 (gk_M 234) 10 2)) (gk_fc ((⟨jk_mo_draw, ⟨_, _, rfl⟩, gk_m3 (gk_mem 7 166 rfl rfl) im_mo_draw sl_mo_draw⟩ : gk_cok "DryPlacesModel" 386 0 (gk_M 175) 10 1)) (gk_fc ((⟨jk_mo_isShown, ⟨_, _, rfl⟩, gk_m3 (gk_mem 7 154 rfl rfl) im_mo_isShown sl_mo_isShown⟩ : gk_cok "DryPlacesModel" 389 0 (gk_M 248) 10 1)) (gk_fc ((⟨jk_mo_creepsOn, ⟨_, _, rfl⟩, gk_m3 (gk_mem 7 158 rfl rfl) im_mo_creepsOn sl_mo_creepsOn⟩ : gk_cok "DryPlacesModel" 392 0 (gk_M 247) 10 1)) (gk_fc ((⟨jk_mo_comesOf, ⟨_, _, rfl⟩, gk_m3 (gk_mem 7 172 rfl rfl) im_mo_comesOf sl_mo_comesOf⟩ : gk_cok "DryPlacesModel" 395 0 (gk_M 236) 10 1)) (gk_fc ((⟨jk_mo_goesBy, ⟨_, _, rfl⟩, gk_m3 (gk_mem 7 150 rfl rfl) im_mo_goesBy sl_mo_goesBy⟩ : gk_cok "DryPlacesModel" 398 0 (gk_M 249) 10 0)) (gk_fc ((⟨jk_mo_thinks, ⟨_, _, rfl⟩, gk_m3 (gk_mem 7 196 rfl rfl) im_mo_thinks sl_mo_thinks⟩ : gk_cok "DryPlacesModel" 401 0 (gk_M 172) 10 0)) (gk_fc ((⟨jk_mo_endsThought, ⟨_, _, rfl⟩, gk_m3 (gk_mem 7 200 rfl rfl) im_mo_endsThought sl_mo_endsThought⟩ : gk_cok "DryPlacesModel" 404 0 (gk_M 173) 10 0)) (gk_fc ((⟨jk_mo_apart, ⟨_, _, rfl⟩, gk_m3 (gk_mem 7 220 rfl rfl) im_mo_apart sl_mo_apart⟩ : gk_cok "DryPlacesModel" 407 0 (gk_M 167) 10 2)) (gk_fc ((⟨jk_mo_isBeside, ⟨_, _, rfl⟩, gk_m3 (gk_mem 7 216 rfl rfl) im_mo_isBeside sl_mo_isBeside⟩ : gk_cok "DryPlacesModel" 410 0 (gk_M 257) 10 2)) (gk_fc ((⟨jk_mo_isAtEdge, ⟨_, _, rfl⟩, gk_m3 (gk_mem 7 232 rfl rfl) im_mo_isAtEdge sl_mo_isAtEdge⟩ : gk_cok "DryPlacesModel" 413 0 (gk_M 259) 10 1)) (gk_fc ((⟨jk_mo_findsParts, ⟨_, _, rfl⟩, gk_m3 (gk_mem 7 212 rfl rfl) im_mo_findsParts sl_mo_findsParts⟩ : gk_cok "DryPlacesModel" 416 0 (gk_M 258) 10 2)) (gk_fc ((⟨jk_mo_comesOut, ⟨_, _, rfl⟩, gk_m3 (gk_mem 7 228 rfl rfl) im_mo_comesOut sl_mo_comesOut⟩ : gk_cok "DryPlacesModel" 420 0 (gk_M 260) 10 1)) (gk_fc ((⟨jk_mo_takesOwn, ⟨_, _, rfl⟩, gk_m3 (gk_mem 8 0 rfl rfl) im_mo_takesOwn sl_mo_takesOwn⟩ : gk_cok "DryPlacesModel" 423 0 (gk_M 263) 10 1)) (gk_fc ((⟨jk_mo_isOwnLeft, ⟨_, _, rfl⟩, gk_m3 (gk_mem 8 4 rfl rfl) im_mo_isOwnLeft sl_mo_isOwnLeft⟩ : gk_cok "DryPlacesModel" 426 0 (gk_M 264) 10 0)) (gk_fc ((⟨jk_mo_shrinks, ⟨_, _, rfl⟩, gk_m3 (gk_mem 8 8 rfl rfl) im_mo_shrinks sl_mo_shrinks⟩ : gk_cok "DryPlacesModel" 429 0 (gk_M 265) 10 0)) (gk_fc ((⟨jk_mo_islandsOf, ⟨_, _, rfl⟩, gk_m3 (gk_mem 7 208 rfl rfl) im_mo_islandsOf sl_mo_islandsOf⟩ : gk_cok "DryPlacesModel" 432 0 (gk_M 261) 10 1)) (gk_fc ((⟨jk_mo_holesOf, ⟨_, _, rfl⟩, gk_m3 (gk_mem 7 224 rfl rfl) im_mo_holesOf sl_mo_holesOf⟩ : gk_cok "DryPlacesModel" 435 0 (gk_M 262) 10 1)) (gk_fc ((⟨jk_mo_depthOf, ⟨_, _, rfl⟩, gk_m3 (gk_mem 7 236 rfl rfl) im_mo_depthOf sl_mo_depthOf⟩ : gk_cok "DryPlacesModel" 438 0 (gk_M 266) 10 1)) (gk_fc ((⟨jk_mo_pushes, ⟨_, _, rfl⟩, gk_m3 (gk_mem 8 16 rfl rfl) im_mo_pushes sl_mo_pushes⟩ : gk_cok "DryPlacesModel" 441 0 (gk_M 270) 10 0)) (gk_fc ((⟨jk_mo_mirrors, ⟨_, _, rfl⟩, gk_m3 (gk_mem 8 20 rfl rfl) im_mo_mirrors sl_mo_mirrors⟩ : gk_cok "DryPlacesModel" 444 0 (gk_M 268) 10 0)) (gk_fc ((⟨jk_mo_turnsRight, ⟨_, _, rfl⟩, gk_m3 (gk_mem 8 24 rfl rfl) im_mo_turnsRight sl_mo_turnsRight⟩ : gk_cok "DryPlacesModel" 447 0 (gk_M 269) 10 0)) (gk_fc ((⟨jk_mo_isAim, ⟨_, _, rfl⟩, gk_m3 (gk_mem 8 28 rfl rfl) im_mo_isAim sl_mo_isAim⟩ : gk_cok "DryPlacesModel" 450 0 (gk_M 271) 10 0)) (gk_fc ((⟨jk_mo_isSquare, ⟨_, _, rfl⟩, gk_m3 (gk_mem 8 40 rfl rfl) im_mo_isSquare sl_mo_isSquare⟩ : gk_cok "DryPlacesModel" 453 0 (gk_M 273) 10 3)) (gk_fc ((⟨jk_mo_isRound, ⟨_, _, rfl⟩, gk_m3 (gk_mem 8 52 rfl rfl) im_mo_isRound sl_mo_isRound⟩ : gk_cok "DryPlacesModel" 456 0 (gk_M 276) 10 3)) (gk_fc ((⟨jk_mo_firstSquare, ⟨_, _, rfl⟩, gk_m3 (gk_mem 8 36 rfl rfl) im_mo_firstSquare sl_mo_firstSquare⟩ : gk_cok "DryPlacesModel" 459 0 (gk_M 274) 10 2)) (gk_fc ((⟨jk_mo_restOf, ⟨_, _, rfl⟩, gk_m3 (gk_mem 8 44 rfl rfl) im_mo_restOf sl_mo_restOf⟩ : gk_cok "DryPlacesModel" 462 0 (gk_M 275) 10 2)) (gk_fc ((⟨jk_mo_firstRound, ⟨_, _, rfl⟩, gk_m3 (gk_mem 8 48 rfl rfl) im_mo_firstRound sl_mo_firstRound⟩ : gk_cok "DryPlacesModel" 465 0 (gk_M 277) 10 2)) (gk_fc ((⟨jk_mo_pushedRow, ⟨_, _, rfl⟩, gk_m3 (gk_mem 8 64 rfl rfl) im_mo_pushedRow sl_mo_pushedRow⟩ : gk_cok "DryPlacesModel" 468 0 (gk_M 279) 10 4)) (gk_fc ((⟨jk_mo_couplesBy, ⟨_, _, rfl⟩, gk_m3 (gk_mem 8 60 rfl rfl) im_mo_couplesBy sl_mo_couplesBy⟩ : gk_cok "DryPlacesModel" 472 0 (gk_M 280) 10 4)) (gk_fc ((⟨jk_mo_greater, ⟨_, _, rfl⟩, gk_m3 (gk_mem 8 68 rfl rfl) im_mo_greater sl_mo_greater⟩ : gk_cok "DryPlacesModel" 475 0 (gk_M 165) 10 2)) (gk_fc ((⟨jk_mo_comesTo, ⟨_, _, rfl⟩, gk_m3 (gk_mem 8 85 rfl rfl) im_mo_comesTo sl_mo_comesTo⟩ : gk_cok "DryPlacesModel" 479 0 (gk_M 284) 10 2)) (gk_fc ((⟨jk_mo_beside, ⟨_, _, rfl⟩, gk_m3 (gk_mem 8 89 rfl rfl) im_mo_beside sl_mo_beside⟩ : gk_cok "DryPlacesModel" 482 0 (gk_M 283) 10 2)) (gk_fc ((⟨jk_mo_stepsBy, ⟨_, _, rfl⟩, gk_m3 (gk_mem 8 76 rfl rfl) im_mo_stepsBy sl_mo_stepsBy⟩ : gk_cok "DryPlacesModel" 485 0 (gk_M 282) 10 3)) (gk_fc ((⟨jk_mo_turnsBy, ⟨_, _, rfl⟩, gk_m3 (gk_mem 8 81 rfl rfl) im_mo_turnsBy sl_mo_turnsBy⟩ : gk_cok "DryPlacesModel" 488 0 (gk_M 285) 10 3)) (gk_fc ((⟨jk_mo_sumOf, ⟨_, _, rfl⟩, gk_m3 (gk_mem 8 97 rfl rfl) im_mo_sumOf sl_mo_sumOf⟩ : gk_cok "DryPlacesModel" 491 0 (gk_M 287) 10 2)) (gk_fc ((⟨jk_mo_switchOf, ⟨_, _, rfl⟩, gk_m3 (gk_mem 8 101 rfl rfl) im_mo_switchOf sl_mo_switchOf⟩ : gk_cok "DryPlacesModel" 494 0 (gk_M 289) 10 1)) (gk_fc ((⟨jk_mo_areLike, ⟨_, _, rfl⟩, gk_m3 (gk_mem 8 105 rfl rfl) im_mo_areLike sl_mo_areLike⟩ : gk_cok "DryPlacesModel" 497 0 (gk_M 288) 10 2)) (gk_fc ((⟨jk_mo_ownedSet, ⟨_, _, rfl⟩, gk_m3 (gk_mem 8 113 rfl rfl) im_mo_ownedSet sl_mo_ownedSet⟩ : gk_cok "DryPlacesModel" 500 0 (gk_M 255) 10 0)) (gk_fc ((⟨jk_mo_sumOver, ⟨_, _, rfl⟩, gk_m3 (gk_mem 8 117 rfl rfl) im_mo_sumOver sl_mo_sumOver⟩ : gk_cok "DryPlacesModel" 503 0 (gk_M 291) 10 2)) (gk_fc ((⟨jk_mo_findsWays, ⟨_, _, rfl⟩, gk_m3 (gk_mem 8 125 rfl rfl) im_mo_findsWays sl_mo_findsWays⟩ : gk_cok "DryPlacesModel" 507 0 (gk_M 293) 10 0)) (gk_fc ((⟨jk_mo_leastTo, ⟨_, _, rfl⟩, gk_m3 (gk_mem 8 129 rfl rfl) im_mo_leastTo sl_mo_leastTo⟩ : gk_cok "DryPlacesModel" 510 0 (gk_M 294) 10 3)) (gk_fc ((⟨jk_mo_vouchersOf, ⟨_, _, rfl⟩, gk_m3 (gk_mem 8 137 rfl rfl) im_mo_vouchersOf sl_mo_vouchersOf⟩ : gk_cok "DryPlacesModel" 513 0 (gk_M 296) 10 1)) (gk_fc ((⟨jk_mo_isLie, ⟨_, _, rfl⟩, gk_m3 (gk_mem 8 145 rfl rfl) im_mo_isLie sl_mo_isLie⟩ : gk_cok "DryPlacesModel" 516 0 (gk_M 298) 10 2)) (gk_fc ((⟨jk_mo_keeps, ⟨_, _, rfl⟩, gk_m3 (gk_mem 8 161 rfl rfl) im_mo_keeps sl_mo_keeps⟩ : gk_cok "DryPlacesModel" 525 0 (gk_M 302) 10 1)) (gk_fc ((⟨jk_mo_keepsTold, ⟨_, _, rfl⟩, gk_m3 (gk_mem 8 165 rfl rfl) im_mo_keepsTold sl_mo_keepsTold⟩ : gk_cok "DryPlacesModel" 531 0 (gk_M 304) 10 0)) (gk_fc ((⟨jk_mo_keepsLaw, ⟨_, _, rfl⟩, gk_m3 (gk_mem 8 169 rfl rfl) im_mo_keepsLaw sl_mo_keepsLaw⟩ : gk_cok "DryPlacesModel" 534 0 (gk_M 303) 10 0)) (gk_fn)))))))))))))))))))))))))))))))))))))))))))))))))))))))))))))))))))))))))))))))))))))))))))))))))))))))))))))))))))
set_option maxRecDepth 100000 in
theorem pi_mo : ∀ e ∈ pl_mo.2.2.1, Cond.constant "DryPlacesModel" e.1 e.2 ∈ gk_TT := gk_fc (gk_mem 7 170 rfl rfl) (gk_fc (gk_mem 7 171 rfl rfl) (gk_fc (gk_mem 6 109 rfl rfl) (gk_fc (gk_mem 8 80 rfl rfl) (gk_fn))))
set_option maxRecDepth 100000 in
theorem pg_mo : ∀ e ∈ pl_mo.2.2.2.1, Cond.constantLong "DryPlacesModel" e.1 e.2 ∈ gk_TT := gk_fn
set_option maxRecDepth 100000 in
theorem pn_mo : ∀ e ∈ pl_mo.2.2.2.2, gk_nok "DryPlacesModel" e := gk_fn
theorem pk_mo : gk_pok gk_M "DryPlacesModel" pl_mo := ⟨pf_mo, pc_mo, pi_mo, pg_mo, pn_mo⟩
def pl_jl : gk_P := ([], [], [], [(314, 6148914691236517205), (316, 3689348814741910323), (318, 1085102592571150095)], [])
set_option maxRecDepth 100000 in
theorem pf_jl : ∀ e ∈ pl_jl.1, gk_fok1 "java/lang/Long" e := gk_fn
set_option maxRecDepth 100000 in
theorem pc_jl : ∀ e ∈ pl_jl.2.1, gk_cok1 gk_M "java/lang/Long" e := gk_fn
set_option maxRecDepth 100000 in
theorem pi_jl : ∀ e ∈ pl_jl.2.2.1, Cond.constant "java/lang/Long" e.1 e.2 ∈ gk_TT := gk_fn
set_option maxRecDepth 100000 in
theorem pg_jl : ∀ e ∈ pl_jl.2.2.2.1, Cond.constantLong "java/lang/Long" e.1 e.2 ∈ gk_TT := gk_fc (gk_mem 2 184 rfl rfl) (gk_fc (gk_mem 2 185 rfl rfl) (gk_fc (gk_mem 2 186 rfl rfl) (gk_fn)))
set_option maxRecDepth 100000 in
theorem pn_jl : ∀ e ∈ pl_jl.2.2.2.2, gk_nok "java/lang/Long" e := gk_fn
theorem pk_jl : gk_pok gk_M "java/lang/Long" pl_jl := ⟨pf_jl, pc_jl, pi_jl, pg_jl, pn_jl⟩
def pl_jm : gk_P := ([], [], [], [], [])
set_option maxRecDepth 100000 in
theorem pf_jm : ∀ e ∈ pl_jm.1, gk_fok1 "java/lang/Math" e := gk_fn
set_option maxRecDepth 100000 in
theorem pc_jm : ∀ e ∈ pl_jm.2.1, gk_cok1 gk_M "java/lang/Math" e := gk_fn
set_option maxRecDepth 100000 in
theorem pi_jm : ∀ e ∈ pl_jm.2.2.1, Cond.constant "java/lang/Math" e.1 e.2 ∈ gk_TT := gk_fn
set_option maxRecDepth 100000 in
theorem pg_jm : ∀ e ∈ pl_jm.2.2.2.1, Cond.constantLong "java/lang/Math" e.1 e.2 ∈ gk_TT := gk_fn
set_option maxRecDepth 100000 in
theorem pn_jm : ∀ e ∈ pl_jm.2.2.2.2, gk_nok "java/lang/Math" e := gk_fn
theorem pk_jm : gk_pok gk_M "java/lang/Math" pl_jm := ⟨pf_jm, pc_jm, pi_jm, pg_jm, pn_jm⟩
def pl_js : gk_P := ([(9, 0, 0, 3), (15, 0, 0, 4)], [(335, 7, 315, 0, 0, 1, 0, 0), (492, 7, 316, 0, 0, 1, 0, 0), (495, 1, 318, 0, 2, 1, 0, 0), (505, 7, 311, 0, 0, 1, 0, 0), (633, 7, 314, 0, 2, 1, 0, 0), (637, 1, 320, 0, 4, 1, 0, 0), (1059, 1, 323, 0, 3, 1, 0, 0)], [], [], [])
set_option maxRecDepth 100000 in
theorem pf_js : ∀ e ∈ pl_js.1, gk_fok1 "java/lang/String" e := gk_fc (gk_mem 8 177 rfl rfl) (gk_fc (gk_mem 8 178 rfl rfl) (gk_fn))
set_option maxRecDepth 100000 in
theorem pc_js : ∀ e ∈ pl_js.2.1, gk_cok1 gk_M "java/lang/String" e := gk_fc ((⟨jk_js_coder, rfl, gk_m3 (gk_mem 3 147 rfl rfl) im_js_coder sl_js_coder⟩ : gk_cok "java/lang/String" 335 7 (gk_M 315) 0 0)) (gk_fc ((⟨jk_js_isLatin1, rfl, gk_m3 (gk_mem 3 157 rfl rfl) im_js_isLatin1 sl_js_isLatin1⟩ : gk_cok "java/lang/String" 492 7 (gk_M 316) 0 0)) (gk_fc ((⟨jk_jt_charAt, gk_m2 (gk_mem 3 161 rfl rfl) st_jt_charAt⟩ : gk_cok "java/lang/String" 495 1 (gk_M 318) 0 2)) (gk_fc ((⟨jk_js_length, rfl, gk_m3 (gk_mem 3 212 rfl rfl) im_js_length sl_js_length⟩ : gk_cok "java/lang/String" 505 7 (gk_M 311) 0 0)) (gk_fc ((⟨jk_js_indexOf2, rfl, gk_m3 (gk_mem 3 208 rfl rfl) im_js_indexOf2 sl_js_indexOf2⟩ : gk_cok "java/lang/String" 633 7 (gk_M 314) 0 2)) (gk_fc ((⟨jk_jt_indexOf, gk_m2 (gk_mem 3 213 rfl rfl) st_jt_indexOf⟩ : gk_cok "java/lang/String" 637 1 (gk_M 320) 0 4)) (gk_fc ((⟨jk_jp_checkIndex, gk_m2 (gk_mem 3 169 rfl rfl) st_jp_checkIndex⟩ : gk_cok "java/lang/String" 1059 1 (gk_M 323) 0 3)) (gk_fn)))))))
set_option maxRecDepth 100000 in
theorem pi_js : ∀ e ∈ pl_js.2.2.1, Cond.constant "java/lang/String" e.1 e.2 ∈ gk_TT := gk_fn
set_option maxRecDepth 100000 in
theorem pg_js : ∀ e ∈ pl_js.2.2.2.1, Cond.constantLong "java/lang/String" e.1 e.2 ∈ gk_TT := gk_fn
set_option maxRecDepth 100000 in
theorem pn_js : ∀ e ∈ pl_js.2.2.2.2, gk_nok "java/lang/String" e := gk_fn
theorem pk_js : gk_pok gk_M "java/lang/String" pl_js := ⟨pf_js, pc_js, pi_js, pg_js, pn_js⟩
def pl_jt : gk_P := ([], [(9, 1, 317, 0, 2, 0, 0, 0), (38, 1, 310, 0, 2, 1, 0, 0), (88, 1, 319, 0, 1, 1, 0, 0), (92, 1, 309, 0, 2, 1, 0, 0), (95, 1, 321, 0, 4, 1, 0, 0)], [], [], [])
set_option maxRecDepth 100000 in
theorem pf_jt : ∀ e ∈ pl_jt.1, gk_fok1 "java/lang/StringLatin1" e := gk_fn
set_option maxRecDepth 100000 in
theorem pc_jt : ∀ e ∈ pl_jt.2.1, gk_cok1 gk_M "java/lang/StringLatin1" e := gk_fc ((⟨jk_js_checkIndex, gk_m2 (gk_mem 3 164 rfl rfl) st_js_checkIndex⟩ : gk_cok "java/lang/StringLatin1" 9 1 (gk_M 317) 0 2)) (gk_fc ((⟨jk_jm_min, gk_m2 (gk_mem 3 220 rfl rfl) st_jm_min⟩ : gk_cok "java/lang/StringLatin1" 38 1 (gk_M 310) 0 2)) (gk_fc ((⟨jk_jt_canEncode, gk_m2 (gk_mem 3 216 rfl rfl) st_jt_canEncode⟩ : gk_cok "java/lang/StringLatin1" 88 1 (gk_M 319) 0 1)) (gk_fc ((⟨jk_jm_max, gk_m2 (gk_mem 3 219 rfl rfl) st_jm_max⟩ : gk_cok "java/lang/StringLatin1" 92 1 (gk_M 309) 0 2)) (gk_fc ((⟨jk_jt_indexOfChar, gk_m2 (gk_mem 3 221 rfl rfl) st_jt_indexOfChar⟩ : gk_cok "java/lang/StringLatin1" 95 1 (gk_M 321) 0 4)) (gk_fn)))))
set_option maxRecDepth 100000 in
theorem pi_jt : ∀ e ∈ pl_jt.2.2.1, Cond.constant "java/lang/StringLatin1" e.1 e.2 ∈ gk_TT := gk_fn
set_option maxRecDepth 100000 in
theorem pg_jt : ∀ e ∈ pl_jt.2.2.2.1, Cond.constantLong "java/lang/StringLatin1" e.1 e.2 ∈ gk_TT := gk_fn
set_option maxRecDepth 100000 in
theorem pn_jt : ∀ e ∈ pl_jt.2.2.2.2, gk_nok "java/lang/StringLatin1" e := gk_fn
theorem pk_jt : gk_pok gk_M "java/lang/StringLatin1" pl_jt := ⟨pf_jt, pc_jt, pi_jt, pg_jt, pn_jt⟩
def pl_ja : gk_P := ([], [], [], [], [])
set_option maxRecDepth 100000 in
theorem pf_ja : ∀ e ∈ pl_ja.1, gk_fok1 "java/util/Arrays" e := gk_fn
set_option maxRecDepth 100000 in
theorem pc_ja : ∀ e ∈ pl_ja.2.1, gk_cok1 gk_M "java/util/Arrays" e := gk_fn
set_option maxRecDepth 100000 in
theorem pi_ja : ∀ e ∈ pl_ja.2.2.1, Cond.constant "java/util/Arrays" e.1 e.2 ∈ gk_TT := gk_fn
set_option maxRecDepth 100000 in
theorem pg_ja : ∀ e ∈ pl_ja.2.2.2.1, Cond.constantLong "java/util/Arrays" e.1 e.2 ∈ gk_TT := gk_fn
set_option maxRecDepth 100000 in
theorem pn_ja : ∀ e ∈ pl_ja.2.2.2.2, gk_nok "java/util/Arrays" e := gk_fn
theorem pk_ja : gk_pok gk_M "java/util/Arrays" pl_ja := ⟨pf_ja, pc_ja, pi_ja, pg_ja, pn_ja⟩
def pl_jp : gk_P := ([], [], [], [], [])
set_option maxRecDepth 100000 in
theorem pf_jp : ∀ e ∈ pl_jp.1, gk_fok1 "jdk/internal/util/Preconditions" e := gk_fn
set_option maxRecDepth 100000 in
theorem pc_jp : ∀ e ∈ pl_jp.2.1, gk_cok1 gk_M "jdk/internal/util/Preconditions" e := gk_fn
set_option maxRecDepth 100000 in
theorem pi_jp : ∀ e ∈ pl_jp.2.2.1, Cond.constant "jdk/internal/util/Preconditions" e.1 e.2 ∈ gk_TT := gk_fn
set_option maxRecDepth 100000 in
theorem pg_jp : ∀ e ∈ pl_jp.2.2.2.1, Cond.constantLong "jdk/internal/util/Preconditions" e.1 e.2 ∈ gk_TT := gk_fn
set_option maxRecDepth 100000 in
theorem pn_jp : ∀ e ∈ pl_jp.2.2.2.2, gk_nok "jdk/internal/util/Preconditions" e := gk_fn
theorem pk_jp : gk_pok gk_M "jdk/internal/util/Preconditions" pl_jp := ⟨pf_jp, pc_jp, pi_jp, pg_jp, pn_jp⟩
def pl_lw : gk_P := ([], [(9, 2, 124, 0, 0, 0, 111, 6815), (12, 2, 162, 0, 0, 0, 32, 8617), (13, 0, 125, 9, 1, 1, 0, 0), (17, 0, 174, 10, 1, 1, 0, 0), (18, 0, 126, 9, 1, 1, 0, 0), (21, 0, 184, 10, 1, 1, 0, 0), (22, 0, 127, 9, 3, 1, 0, 0), (26, 0, 185, 10, 3, 1, 0, 0), (27, 0, 128, 9, 1, 1, 0, 0), (31, 0, 186, 10, 1, 1, 0, 0), (32, 0, 129, 9, 3, 1, 0, 0), (35, 0, 246, 10, 3, 1, 0, 0), (36, 0, 130, 9, 1, 1, 0, 0), (39, 0, 250, 10, 1, 1, 0, 0), (40, 0, 131, 9, 5, 1, 0, 0), (44, 0, 188, 10, 5, 1, 0, 0), (45, 0, 132, 9, 1, 1, 0, 0), (48, 0, 189, 10, 1, 1, 0, 0), (49, 0, 133, 9, 1, 1, 0, 0), (52, 0, 226, 10, 1, 1, 0, 0), (53, 0, 134, 9, 1, 1, 0, 0), (56, 0, 227, 10, 1, 1, 0, 0), (57, 0, 135, 9, 2, 1, 0, 0), (61, 0, 251, 10, 2, 1, 0, 0), (62, 0, 136, 9, 2, 1, 0, 0), (65, 0, 252, 10, 2, 1, 0, 0), (66, 0, 137, 9, 2, 1, 0, 0), (69, 0, 253, 10, 2, 1, 0, 0), (70, 0, 138, 9, 2, 1, 0, 0), (73, 0, 254, 10, 2, 1, 0, 0), (74, 0, 139, 9, 2, 1, 0, 0), (77, 0, 256, 10, 2, 1, 0, 0), (78, 0, 140, 9, 2, 1, 0, 0), (81, 0, 267, 10, 2, 1, 0, 0), (82, 0, 141, 9, 2, 1, 0, 0), (85, 0, 272, 10, 2, 1, 0, 0), (86, 0, 142, 9, 2, 1, 0, 0), (89, 0, 278, 10, 2, 1, 0, 0), (90, 0, 143, 9, 3, 1, 0, 0), (94, 0, 281, 10, 3, 1, 0, 0), (95, 0, 144, 9, 4, 1, 0, 0), (99, 0, 286, 10, 4, 1, 0, 0), (100, 0, 145, 9, 2, 1, 0, 0), (103, 0, 290, 10, 2, 1, 0, 0), (104, 0, 146, 9, 2, 1, 0, 0), (107, 0, 292, 10, 2, 1, 0, 0), (108, 0, 147, 9, 2, 1, 0, 0), (111, 0, 295, 10, 2, 1, 0, 0), (112, 0, 148, 9, 1, 1, 0, 0), (115, 0, 297, 10, 1, 1, 0, 0), (116, 0, 149, 9, 3, 1, 0, 0), (119, 0, 299, 10, 3, 1, 0, 0), (120, 0, 150, 9, 1, 1, 0, 0), (123, 0, 300, 10, 1, 1, 0, 0), (124, 0, 151, 9, 1, 1, 0, 0), (127, 0, 301, 10, 1, 1, 0, 0), (128, 0, 152, 9, 0, 1, 0, 0), (132, 0, 171, 10, 0, 1, 0, 0), (133, 0, 153, 9, 1, 1, 0, 0), (137, 0, 305, 10, 1, 1, 0, 0), (138, 0, 154, 9, 1, 1, 0, 0), (141, 0, 306, 10, 1, 1, 0, 0)], [], [], [(7, 9), (10, 10)])
set_option maxRecDepth 100000 in
theorem pf_lw : ∀ e ∈ pl_lw.1, gk_fok1 "DryPlacesLaw" e := gk_fn
set_option maxRecDepth 100000 in
theorem pc_lw : ∀ e ∈ pl_lw.2.1, gk_cok1 gk_M "DryPlacesLaw" e := gk_fc ((⟨jk_dp_init, rfl, rfl, gk_m2 (gk_mem 1 24 rfl rfl) im_dp_init⟩ : gk_cok "DryPlacesLaw" 9 2 (gk_M 124) 0 0)) (gk_fc ((⟨jk_mo_init, rfl, rfl, gk_m2 (gk_mem 5 147 rfl rfl) im_mo_init⟩ : gk_cok "DryPlacesLaw" 12 2 (gk_M 162) 0 0)) (gk_fc ((⟨jk_dp_state, ⟨_, _, rfl⟩, gk_m3 (gk_mem 2 119 rfl rfl) im_dp_state sl_dp_state⟩ : gk_cok "DryPlacesLaw" 13 0 (gk_M 125) 9 1)) (gk_fc ((⟨jk_mo_state, ⟨_, _, rfl⟩, gk_m3 (gk_mem 6 81 rfl rfl) im_mo_state sl_mo_state⟩ : gk_cok "DryPlacesLaw" 17 0 (gk_M 174) 10 1)) (gk_fc ((⟨jk_dp_place, ⟨_, _, rfl⟩, gk_m3 (gk_mem 2 127 rfl rfl) im_dp_place sl_dp_place⟩ : gk_cok "DryPlacesLaw" 18 0 (gk_M 126) 9 1)) (gk_fc ((⟨jk_mo_place, ⟨_, _, rfl⟩, gk_m3 (gk_mem 6 85 rfl rfl) im_mo_place sl_mo_place⟩ : gk_cok "DryPlacesLaw" 21 0 (gk_M 184) 10 1)) (gk_fc ((⟨jk_dp_row, ⟨_, _, rfl⟩, gk_m3 (gk_mem 2 138 rfl rfl) im_dp_row sl_dp_row⟩ : gk_cok "DryPlacesLaw" 22 0 (gk_M 127) 9 3)) (gk_fc ((⟨jk_mo_row, ⟨_, _, rfl⟩, gk_m3 (gk_mem 6 97 rfl rfl) im_mo_row sl_mo_row⟩ : gk_cok "DryPlacesLaw" 26 0 (gk_M 185) 10 3)) (gk_fc ((⟨jk_dp_purse, ⟨_, _, rfl⟩, gk_m3 (gk_mem 2 151 rfl rfl) im_dp_purse sl_dp_purse⟩ : gk_cok "DryPlacesLaw" 27 0 (gk_M 128) 9 1)) (gk_fc ((⟨jk_mo_purse, ⟨_, _, rfl⟩, gk_m3 (gk_mem 6 105 rfl rfl) im_mo_purse sl_mo_purse⟩ : gk_cok "DryPlacesLaw" 31 0 (gk_M 186) 10 1)) (gk_fc ((⟨jk_dp_act, ⟨_, _, rfl⟩, gk_m3 (gk_mem 2 156 rfl rfl) im_dp_act sl_dp_act⟩ : gk_cok "DryPlacesLaw" 32 0 (gk_M 129) 9 3)) (gk_fc ((⟨jk_mo_act, ⟨_, _, rfl⟩, gk_m3 (gk_mem 7 34 rfl rfl) im_mo_act sl_mo_act⟩ : gk_cok "DryPlacesLaw" 35 0 (gk_M 246) 10 3)) (gk_fc ((⟨jk_dp_days, ⟨_, _, rfl⟩, gk_m3 (gk_mem 3 34 rfl rfl) im_dp_days sl_dp_days⟩ : gk_cok "DryPlacesLaw" 36 0 (gk_M 130) 9 1)) (gk_fc ((⟨jk_mo_days, ⟨_, _, rfl⟩, gk_m3 (gk_mem 7 146 rfl rfl) im_mo_days sl_mo_days⟩ : gk_cok "DryPlacesLaw" 39 0 (gk_M 250) 10 1)) (gk_fc ((⟨jk_dp_feed, ⟨_, _, rfl⟩, gk_m3 (gk_mem 3 93 rfl rfl) im_dp_feed sl_dp_feed⟩ : gk_cok "DryPlacesLaw" 40 0 (gk_M 131) 9 5)) (gk_fc ((⟨jk_mo_feed, ⟨_, _, rfl⟩, gk_m3 (gk_mem 6 110 rfl rfl) im_mo_feed sl_mo_feed⟩ : gk_cok "DryPlacesLaw" 44 0 (gk_M 188) 10 5)) (gk_fc ((⟨jk_dp_end, ⟨_, _, rfl⟩, gk_m3 (gk_mem 3 105 rfl rfl) im_dp_end sl_dp_end⟩ : gk_cok "DryPlacesLaw" 45 0 (gk_M 132) 9 1)) (gk_fc ((⟨jk_mo_end, ⟨_, _, rfl⟩, gk_m3 (gk_mem 6 118 rfl rfl) im_mo_end sl_mo_end⟩ : gk_cok "DryPlacesLaw" 48 0 (gk_M 189) 10 1)) (gk_fc ((⟨jk_dp_text, ⟨_, _, rfl⟩, gk_m3 (gk_mem 3 109 rfl rfl) im_dp_text sl_dp_text⟩ : gk_cok "DryPlacesLaw" 49 0 (gk_M 133) 9 1)) (gk_fc ((⟨jk_mo_text, ⟨_, _, rfl⟩, gk_m3 (gk_mem 6 122 rfl rfl) im_mo_text sl_mo_text⟩ : gk_cok "DryPlacesLaw" 52 0 (gk_M 226) 10 1)) (gk_fc ((⟨jk_dp_fault, ⟨_, _, rfl⟩, gk_m3 (gk_mem 4 141 rfl rfl) im_dp_fault sl_dp_fault⟩ : gk_cok "DryPlacesLaw" 53 0 (gk_M 134) 9 1)) (gk_fc ((⟨jk_mo_fault, ⟨_, _, rfl⟩, gk_m3 (gk_mem 7 30 rfl rfl) im_mo_fault sl_mo_fault⟩ : gk_cok "DryPlacesLaw" 56 0 (gk_M 227) 10 1)) (gk_fc ((⟨jk_dp_of, ⟨_, _, rfl⟩, gk_m3 (gk_mem 4 145 rfl rfl) im_dp_of sl_dp_of⟩ : gk_cok "DryPlacesLaw" 57 0 (gk_M 135) 9 2)) (gk_fc ((⟨jk_mo_of, ⟨_, _, rfl⟩, gk_m3 (gk_mem 7 176 rfl rfl) im_mo_of sl_mo_of⟩ : gk_cok "DryPlacesLaw" 61 0 (gk_M 251) 10 2)) (gk_fc ((⟨jk_dp_creeps, ⟨_, _, rfl⟩, gk_m3 (gk_mem 4 156 rfl rfl) im_dp_creeps sl_dp_creeps⟩ : gk_cok "DryPlacesLaw" 62 0 (gk_M 136) 9 2)) (gk_fc ((⟨jk_mo_creeps, ⟨_, _, rfl⟩, gk_m3 (gk_mem 7 180 rfl rfl) im_mo_creeps sl_mo_creeps⟩ : gk_cok "DryPlacesLaw" 65 0 (gk_M 252) 10 2)) (gk_fc ((⟨jk_dp_room, ⟨_, _, rfl⟩, gk_m3 (gk_mem 4 164 rfl rfl) im_dp_room sl_dp_room⟩ : gk_cok "DryPlacesLaw" 66 0 (gk_M 137) 9 2)) (gk_fc ((⟨jk_mo_room, ⟨_, _, rfl⟩, gk_m3 (gk_mem 7 184 rfl rfl) im_mo_room sl_mo_room⟩ : gk_cok "DryPlacesLaw" 69 0 (gk_M 253) 10 2)) (gk_fc ((⟨jk_dp_book, ⟨_, _, rfl⟩, gk_m3 (gk_mem 4 169 rfl rfl) im_dp_book sl_dp_book⟩ : gk_cok "DryPlacesLaw" 70 0 (gk_M 138) 9 2)) (gk_fc ((⟨jk_mo_book, ⟨_, _, rfl⟩, gk_m3 (gk_mem 7 188 rfl rfl) im_mo_book sl_mo_book⟩ : gk_cok "DryPlacesLaw" 73 0 (gk_M 254) 10 2)) (gk_fc ((⟨jk_dp_goes, ⟨_, _, rfl⟩, gk_m3 (gk_mem 4 173 rfl rfl) im_dp_goes sl_dp_goes⟩ : gk_cok "DryPlacesLaw" 74 0 (gk_M 139) 9 2)) (gk_fc ((⟨jk_mo_goes, ⟨_, _, rfl⟩, gk_m3 (gk_mem 7 192 rfl rfl) im_mo_goes sl_mo_goes⟩ : gk_cok "DryPlacesLaw" 77 0 (gk_M 256) 10 2)) (gk_fc ((⟨jk_dp_shape, ⟨_, _, rfl⟩, gk_m3 (gk_mem 4 187 rfl rfl) im_dp_shape sl_dp_shape⟩ : gk_cok "DryPlacesLaw" 78 0 (gk_M 140) 9 2)) (gk_fc ((⟨jk_mo_shape, ⟨_, _, rfl⟩, gk_m3 (gk_mem 7 204 rfl rfl) im_mo_shape sl_mo_shape⟩ : gk_cok "DryPlacesLaw" 81 0 (gk_M 267) 10 2)) (gk_fc ((⟨jk_dp_turned, ⟨_, _, rfl⟩, gk_m3 (gk_mem 4 208 rfl rfl) im_dp_turned sl_dp_turned⟩ : gk_cok "DryPlacesLaw" 82 0 (gk_M 141) 9 2)) (gk_fc ((⟨jk_mo_turned, ⟨_, _, rfl⟩, gk_m3 (gk_mem 8 12 rfl rfl) im_mo_turned sl_mo_turned⟩ : gk_cok "DryPlacesLaw" 85 0 (gk_M 272) 10 2)) (gk_fc ((⟨jk_dp_square, ⟨_, _, rfl⟩, gk_m3 (gk_mem 4 223 rfl rfl) im_dp_square sl_dp_square⟩ : gk_cok "DryPlacesLaw" 86 0 (gk_M 142) 9 2)) (gk_fc ((⟨jk_mo_square, ⟨_, _, rfl⟩, gk_m3 (gk_mem 8 32 rfl rfl) im_mo_square sl_mo_square⟩ : gk_cok "DryPlacesLaw" 89 0 (gk_M 278) 10 2)) (gk_fc ((⟨jk_dp_fit, ⟨_, _, rfl⟩, gk_m3 (gk_mem 5 2 rfl rfl) im_dp_fit sl_dp_fit⟩ : gk_cok "DryPlacesLaw" 90 0 (gk_M 143) 9 3)) (gk_fc ((⟨jk_mo_fit, ⟨_, _, rfl⟩, gk_m3 (gk_mem 8 56 rfl rfl) im_mo_fit sl_mo_fit⟩ : gk_cok "DryPlacesLaw" 94 0 (gk_M 281) 10 3)) (gk_fc ((⟨jk_dp_walk, ⟨_, _, rfl⟩, gk_m3 (gk_mem 5 20 rfl rfl) im_dp_walk sl_dp_walk⟩ : gk_cok "DryPlacesLaw" 95 0 (gk_M 144) 9 4)) (gk_fc ((⟨jk_mo_walk, ⟨_, _, rfl⟩, gk_m3 (gk_mem 8 72 rfl rfl) im_mo_walk sl_mo_walk⟩ : gk_cok "DryPlacesLaw" 99 0 (gk_M 286) 10 4)) (gk_fc ((⟨jk_dp_sums, ⟨_, _, rfl⟩, gk_m3 (gk_mem 5 33 rfl rfl) im_dp_sums sl_dp_sums⟩ : gk_cok "DryPlacesLaw" 100 0 (gk_M 145) 9 2)) (gk_fc ((⟨jk_mo_sums, ⟨_, _, rfl⟩, gk_m3 (gk_mem 8 93 rfl rfl) im_mo_sums sl_mo_sums⟩ : gk_cok "DryPlacesLaw" 103 0 (gk_M 290) 10 2)) (gk_fc ((⟨jk_dp_buys, ⟨_, _, rfl⟩, gk_m3 (gk_mem 5 51 rfl rfl) im_dp_buys sl_dp_buys⟩ : gk_cok "DryPlacesLaw" 104 0 (gk_M 146) 9 2)) (gk_fc ((⟨jk_mo_buys, ⟨_, _, rfl⟩, gk_m3 (gk_mem 8 109 rfl rfl) im_mo_buys sl_mo_buys⟩ : gk_cok "DryPlacesLaw" 107 0 (gk_M 292) 10 2)) (gk_fc ((⟨jk_dp_tour, ⟨_, _, rfl⟩, gk_m3 (gk_mem 5 60 rfl rfl) im_dp_tour sl_dp_tour⟩ : gk_cok "DryPlacesLaw" 108 0 (gk_M 147) 9 2)) (gk_fc ((⟨jk_mo_tour, ⟨_, _, rfl⟩, gk_m3 (gk_mem 8 121 rfl rfl) im_mo_tour sl_mo_tour⟩ : gk_cok "DryPlacesLaw" 111 0 (gk_M 295) 10 2)) (gk_fc ((⟨jk_dp_vouched, ⟨_, _, rfl⟩, gk_m3 (gk_mem 5 84 rfl rfl) im_dp_vouched sl_dp_vouched⟩ : gk_cok "DryPlacesLaw" 112 0 (gk_M 148) 9 1)) (gk_fc ((⟨jk_mo_vouched, ⟨_, _, rfl⟩, gk_m3 (gk_mem 8 133 rfl rfl) im_mo_vouched sl_mo_vouched⟩ : gk_cok "DryPlacesLaw" 115 0 (gk_M 297) 10 1)) (gk_fc ((⟨jk_dp_lie, ⟨_, _, rfl⟩, gk_m3 (gk_mem 5 92 rfl rfl) im_dp_lie sl_dp_lie⟩ : gk_cok "DryPlacesLaw" 116 0 (gk_M 149) 9 3)) (gk_fc ((⟨jk_mo_lie, ⟨_, _, rfl⟩, gk_m3 (gk_mem 8 141 rfl rfl) im_mo_lie sl_mo_lie⟩ : gk_cok "DryPlacesLaw" 119 0 (gk_M 299) 10 3)) (gk_fc ((⟨jk_dp_feet, ⟨_, _, rfl⟩, gk_m3 (gk_mem 5 102 rfl rfl) im_dp_feet sl_dp_feet⟩ : gk_cok "DryPlacesLaw" 120 0 (gk_M 150) 9 1)) (gk_fc ((⟨jk_mo_feet, ⟨_, _, rfl⟩, gk_m3 (gk_mem 8 149 rfl rfl) im_mo_feet sl_mo_feet⟩ : gk_cok "DryPlacesLaw" 123 0 (gk_M 300) 10 1)) (gk_fc ((⟨jk_dp_game, ⟨_, _, rfl⟩, gk_m3 (gk_mem 5 112 rfl rfl) im_dp_game sl_dp_game⟩ : gk_cok "DryPlacesLaw" 124 0 (gk_M 151) 9 1)) (gk_fc ((⟨jk_mo_game, ⟨_, _, rfl⟩, gk_m3 (gk_mem 8 153 rfl rfl) im_mo_game sl_mo_game⟩ : gk_cok "DryPlacesLaw" 127 0 (gk_M 301) 10 1)) (gk_fc ((⟨jk_dp_undo, ⟨_, _, rfl⟩, gk_m3 (gk_mem 5 123 rfl rfl) im_dp_undo sl_dp_undo⟩ : gk_cok "DryPlacesLaw" 128 0 (gk_M 152) 9 0)) (gk_fc ((⟨jk_mo_undo, ⟨_, _, rfl⟩, gk_m3 (gk_mem 6 77 rfl rfl) im_mo_undo sl_mo_undo⟩ : gk_cok "DryPlacesLaw" 132 0 (gk_M 171) 10 0)) (gk_fc ((⟨jk_dp_image, ⟨_, _, rfl⟩, gk_m3 (gk_mem 5 131 rfl rfl) im_dp_image sl_dp_image⟩ : gk_cok "DryPlacesLaw" 133 0 (gk_M 153) 9 1)) (gk_fc ((⟨jk_mo_image, ⟨_, _, rfl⟩, gk_m3 (gk_mem 8 157 rfl rfl) im_mo_image sl_mo_image⟩ : gk_cok "DryPlacesLaw" 137 0 (gk_M 305) 10 1)) (gk_fc ((⟨jk_dp_look, ⟨_, _, rfl⟩, gk_m3 (gk_mem 5 141 rfl rfl) im_dp_look sl_dp_look⟩ : gk_cok "DryPlacesLaw" 138 0 (gk_M 154) 9 1)) (gk_fc ((⟨jk_mo_look, ⟨_, _, rfl⟩, gk_m3 (gk_mem 8 173 rfl rfl) im_mo_look sl_mo_look⟩ : gk_cok "DryPlacesLaw" 141 0 (gk_M 306) 10 1)) (gk_fn))))))))))))))))))))))))))))))))))))))))))))))))))))))))))))))
set_option maxRecDepth 100000 in
theorem pi_lw : ∀ e ∈ pl_lw.2.2.1, Cond.constant "DryPlacesLaw" e.1 e.2 ∈ gk_TT := gk_fn
set_option maxRecDepth 100000 in
theorem pg_lw : ∀ e ∈ pl_lw.2.2.2.1, Cond.constantLong "DryPlacesLaw" e.1 e.2 ∈ gk_TT := gk_fn
set_option maxRecDepth 100000 in
theorem pn_lw : ∀ e ∈ pl_lw.2.2.2.2, gk_nok "DryPlacesLaw" e := gk_fc ((⟨RX10, TX10, 16, rfl, gk_m3 (gk_mem 1 22 rfl rfl) (gk_mem 1 23 rfl rfl) (gk_mem 1 1 rfl rfl)⟩ : gk_nok "DryPlacesLaw" (7, 9))) (gk_fc ((⟨RX11, TX11, 55, rfl, gk_m3 (gk_mem 5 145 rfl rfl) (gk_mem 5 146 rfl rfl) (gk_mem 1 12 rfl rfl)⟩ : gk_nok "DryPlacesLaw" (10, 10))) (gk_fn))
theorem pk_lw : gk_pok gk_M "DryPlacesLaw" pl_lw := ⟨pf_lw, pc_lw, pi_lw, pg_lw, pn_lw⟩
end
section
/-! the instructions (written by a program) -/
def gk_xokb (own : String) (P : gk_P) (sw : List (Nat × List (Int32 × Nat) × Nat)) (q : Nat × Instr × Nat × Nat) : Bool := match q.2.1 with
  | .tableswitch a b c e => match gk_lk sw q.1 with
    | some z => gk_tokb q.1 a b c e z.1 z.2
    | none => true
  | .lookupswitch a b => match gk_lk sw q.1 with
    | some z => gk_lokb q.1 a b z.1 z.2
    | none => true
  | .getstatic _ => false
  | .ldc idx => (gk_lk P.2.2.1 idx).isSome || decide (own = "DryPlaces$Tape")
  | _ => true
theorem gk_xok_of {own : String} {P : gk_P} {rk : Nat} {sw : List (Nat × List (Int32 × Nat) × Nat)} {oG : List (Nat × gk_G)} {q : Nat × Instr × Nat × Nat} (h : gk_xokb own P sw q = true) : gk_xok own P (rk, sw, oG) q := by
  obtain ⟨pc, i, nxt, tgt⟩ := q
  cases i <;> first | exact trivial | skip
  case tableswitch a b c e =>
    intro z hz
    have hz : gk_lk sw pc = some z := hz
    simp only [gk_xokb, hz] at h
    exact h
  case lookupswitch a b =>
    intro z hz
    have hz : gk_lk sw pc = some z := hz
    simp only [gk_xokb, hz] at h
    exact h
  case getstatic idx => cases h
  case ldc idx =>
    intro hz
    have hz : gk_lk P.2.2.1 idx = none := hz
    simp only [gk_xokb, hz] at h
    simpa using h
def tb_mo_isIn : gk_T := [(0, .iload_n 1, 1, 0), (1, .iload_n 2, 2, 0), (2, .if_icmp .lt 12, 5, 14), (5, .iload_n 1, 6, 0), (6, .iload_n 3, 7, 0), (7, .if_icmp .gt 7, 10, 14), (10, .iconst 1, 11, 0), (11, .goto 4, 14, 15), (14, .iconst 0, 15, 0), (15, .ireturn, 16, 0)]
def sw_mo_isIn : List (Nat × List (Int32 × Nat) × Nat) := []
set_option maxRecDepth 100000 in
theorem te_mo_isIn : ∀ q ∈ tb_mo_isIn, gk_eok (gk_M 163).2.1 q = true := by decide +kernel
set_option maxRecDepth 100000 in
theorem tx_mo_isIn (oG : List (Nat × gk_G)) : ∀ q ∈ tb_mo_isIn, gk_xok "DryPlacesModel" pl_mo (3, sw_mo_isIn, oG) q := by
  have h : tb_mo_isIn.all (fun q => gk_xokb "DryPlacesModel" pl_mo sw_mo_isIn q) = true := by decide +kernel
  exact fun q hq => gk_xok_of (List.all_eq_true.mp h q hq)
theorem ok_mo_isIn (oG : List (Nat × gk_G)) : gk_ok gk_M 163 tb_mo_isIn pl_mo (3, sw_mo_isIn, oG) := ⟨te_mo_isIn, pk_mo, tx_mo_isIn oG, rfl⟩
def tb_mo_held : gk_T := [(0, .iload_n 1, 1, 0), (1, .iload_n 2, 2, 0), (2, .if_icmp .ge 7, 5, 9), (5, .iload_n 2, 6, 0), (6, .goto 13, 9, 19), (9, .iload_n 1, 10, 0), (10, .iload_n 3, 11, 0), (11, .if_icmp .le 7, 14, 18), (14, .iload_n 3, 15, 0), (15, .goto 4, 18, 19), (18, .iload_n 1, 19, 0), (19, .ireturn, 20, 0)]
def sw_mo_held : List (Nat × List (Int32 × Nat) × Nat) := []
set_option maxRecDepth 100000 in
theorem te_mo_held : ∀ q ∈ tb_mo_held, gk_eok (gk_M 164).2.1 q = true := by decide +kernel
set_option maxRecDepth 100000 in
theorem tx_mo_held (oG : List (Nat × gk_G)) : ∀ q ∈ tb_mo_held, gk_xok "DryPlacesModel" pl_mo (1, sw_mo_held, oG) q := by
  have h : tb_mo_held.all (fun q => gk_xokb "DryPlacesModel" pl_mo sw_mo_held q) = true := by decide +kernel
  exact fun q hq => gk_xok_of (List.all_eq_true.mp h q hq)
theorem ok_mo_held (oG : List (Nat × gk_G)) : gk_ok gk_M 164 tb_mo_held pl_mo (1, sw_mo_held, oG) := ⟨te_mo_held, pk_mo, tx_mo_held oG, rfl⟩
def tb_mo_greater : gk_T := [(0, .iload_n 1, 1, 0), (1, .iload_n 2, 2, 0), (2, .if_icmp .le 7, 5, 9), (5, .iload_n 1, 6, 0), (6, .goto 4, 9, 10), (9, .iload_n 2, 10, 0), (10, .ireturn, 11, 0)]
def sw_mo_greater : List (Nat × List (Int32 × Nat) × Nat) := []
set_option maxRecDepth 100000 in
theorem te_mo_greater : ∀ q ∈ tb_mo_greater, gk_eok (gk_M 165).2.1 q = true := by decide +kernel
set_option maxRecDepth 100000 in
theorem tx_mo_greater (oG : List (Nat × gk_G)) : ∀ q ∈ tb_mo_greater, gk_xok "DryPlacesModel" pl_mo (1, sw_mo_greater, oG) q := by
  have h : tb_mo_greater.all (fun q => gk_xokb "DryPlacesModel" pl_mo sw_mo_greater q) = true := by decide +kernel
  exact fun q hq => gk_xok_of (List.all_eq_true.mp h q hq)
theorem ok_mo_greater (oG : List (Nat × gk_G)) : gk_ok gk_M 165 tb_mo_greater pl_mo (1, sw_mo_greater, oG) := ⟨te_mo_greater, pk_mo, tx_mo_greater oG, rfl⟩
def tb_mo_lesser : gk_T := [(0, .iload_n 1, 1, 0), (1, .iload_n 2, 2, 0), (2, .if_icmp .ge 7, 5, 9), (5, .iload_n 1, 6, 0), (6, .goto 4, 9, 10), (9, .iload_n 2, 10, 0), (10, .ireturn, 11, 0)]
def sw_mo_lesser : List (Nat × List (Int32 × Nat) × Nat) := []
set_option maxRecDepth 100000 in
theorem te_mo_lesser : ∀ q ∈ tb_mo_lesser, gk_eok (gk_M 166).2.1 q = true := by decide +kernel
set_option maxRecDepth 100000 in
theorem tx_mo_lesser (oG : List (Nat × gk_G)) : ∀ q ∈ tb_mo_lesser, gk_xok "DryPlacesModel" pl_mo (1, sw_mo_lesser, oG) q := by
  have h : tb_mo_lesser.all (fun q => gk_xokb "DryPlacesModel" pl_mo sw_mo_lesser q) = true := by decide +kernel
  exact fun q hq => gk_xok_of (List.all_eq_true.mp h q hq)
theorem ok_mo_lesser (oG : List (Nat × gk_G)) : gk_ok gk_M 166 tb_mo_lesser pl_mo (1, sw_mo_lesser, oG) := ⟨te_mo_lesser, pk_mo, tx_mo_lesser oG, rfl⟩
def tb_mo_apart : gk_T := [(0, .iload_n 1, 1, 0), (1, .iload_n 2, 2, 0), (2, .if_icmp .le 9, 5, 11), (5, .iload_n 1, 6, 0), (6, .iload_n 2, 7, 0), (7, .isub, 8, 0), (8, .goto 6, 11, 14), (11, .iload_n 2, 12, 0), (12, .iload_n 1, 13, 0), (13, .isub, 14, 0), (14, .ireturn, 15, 0)]
def sw_mo_apart : List (Nat × List (Int32 × Nat) × Nat) := []
set_option maxRecDepth 100000 in
theorem te_mo_apart : ∀ q ∈ tb_mo_apart, gk_eok (gk_M 167).2.1 q = true := by decide +kernel
set_option maxRecDepth 100000 in
theorem tx_mo_apart (oG : List (Nat × gk_G)) : ∀ q ∈ tb_mo_apart, gk_xok "DryPlacesModel" pl_mo (1, sw_mo_apart, oG) q := by
  have h : tb_mo_apart.all (fun q => gk_xokb "DryPlacesModel" pl_mo sw_mo_apart q) = true := by decide +kernel
  exact fun q hq => gk_xok_of (List.all_eq_true.mp h q hq)
theorem ok_mo_apart (oG : List (Nat × gk_G)) : gk_ok gk_M 167 tb_mo_apart pl_mo (1, sw_mo_apart, oG) := ⟨te_mo_apart, pk_mo, tx_mo_apart oG, rfl⟩
def tb_mo_onesOf : gk_T := [(0, .iconst 0, 1, 0), (1, .istore_n 2, 2, 0), (2, .iload_n 1, 3, 0), (3, .istore_n 3, 4, 0), (4, .iload_n 3, 5, 0), (5, .ifCond .eq 16, 8, 21), (8, .iload_n 2, 9, 0), (9, .iconst 1, 10, 0), (10, .iadd, 11, 0), (11, .istore_n 2, 12, 0), (12, .iload_n 3, 13, 0), (13, .iload_n 3, 14, 0), (14, .iconst 1, 15, 0), (15, .isub, 16, 0), (16, .iand, 17, 0), (17, .istore_n 3, 18, 0), (18, .goto (-14), 21, 4), (21, .iload_n 2, 22, 0), (22, .ireturn, 23, 0)]
def sw_mo_onesOf : List (Nat × List (Int32 × Nat) × Nat) := []
set_option maxRecDepth 100000 in
theorem te_mo_onesOf : ∀ q ∈ tb_mo_onesOf, gk_eok (gk_M 168).2.1 q = true := by decide +kernel
set_option maxRecDepth 100000 in
theorem tx_mo_onesOf (oG : List (Nat × gk_G)) : ∀ q ∈ tb_mo_onesOf, gk_xok "DryPlacesModel" pl_mo (1, sw_mo_onesOf, oG) q := by
  have h : tb_mo_onesOf.all (fun q => gk_xokb "DryPlacesModel" pl_mo sw_mo_onesOf q) = true := by decide +kernel
  exact fun q hq => gk_xok_of (List.all_eq_true.mp h q hq)
theorem ok_mo_onesOf (oG : List (Nat × gk_G)) : gk_ok gk_M 168 tb_mo_onesOf pl_mo (1, sw_mo_onesOf, oG) := ⟨te_mo_onesOf, pk_mo, tx_mo_onesOf oG, rfl⟩
def tb_mo_has : gk_T := [(0, .iload_n 1, 1, 0), (1, .iload_n 2, 2, 0), (2, .ishr, 3, 0), (3, .iconst 1, 4, 0), (4, .iand, 5, 0), (5, .iconst 1, 6, 0), (6, .if_icmp .ne 7, 9, 13), (9, .iconst 1, 10, 0), (10, .goto 4, 13, 14), (13, .iconst 0, 14, 0), (14, .ireturn, 15, 0)]
def sw_mo_has : List (Nat × List (Int32 × Nat) × Nat) := []
set_option maxRecDepth 100000 in
theorem te_mo_has : ∀ q ∈ tb_mo_has, gk_eok (gk_M 169).2.1 q = true := by decide +kernel
set_option maxRecDepth 100000 in
theorem tx_mo_has (oG : List (Nat × gk_G)) : ∀ q ∈ tb_mo_has, gk_xok "DryPlacesModel" pl_mo (3, sw_mo_has, oG) q := by
  have h : tb_mo_has.all (fun q => gk_xokb "DryPlacesModel" pl_mo sw_mo_has q) = true := by decide +kernel
  exact fun q hq => gk_xok_of (List.all_eq_true.mp h q hq)
theorem ok_mo_has (oG : List (Nat × gk_G)) : gk_ok gk_M 169 tb_mo_has pl_mo (3, sw_mo_has, oG) := ⟨te_mo_has, pk_mo, tx_mo_has oG, rfl⟩
def tb_mo_keepsAhead : gk_T := [(0, .aload_n 0, 1, 0), (1, .getfield 113, 4, 0), (4, .bipush 6, 6, 0), (6, .if_icmp .ne 49, 9, 55), (9, .aload_n 0, 10, 0), (10, .aload_n 0, 11, 0), (11, .getfield 113, 14, 0), (14, .iconst 1, 15, 0), (15, .isub, 16, 0), (16, .putfield 113, 19, 0), (19, .iconst 0, 20, 0), (20, .istore_n 1, 21, 0), (21, .iload_n 1, 22, 0), (22, .sipush 131, 25, 0), (25, .aload_n 0, 26, 0), (26, .getfield 113, 29, 0), (29, .imul, 30, 0), (30, .if_icmp .ge 25, 33, 55), (33, .aload_n 0, 34, 0), (34, .getfield 13, 37, 0), (37, .iload_n 1, 38, 0), (38, .aload_n 0, 39, 0), (39, .getfield 13, 42, 0), (42, .iload_n 1, 43, 0), (43, .sipush 131, 46, 0), (46, .iadd, 47, 0), (47, .iaload, 48, 0), (48, .iastore, 49, 0), (49, .iinc 1 1, 52, 0), (52, .goto (-31), 55, 21), (55, .iconst 0, 56, 0), (56, .istore_n 1, 57, 0), (57, .iload_n 1, 58, 0), (58, .sipush 131, 61, 0), (61, .if_icmp .ge 30, 64, 91), (64, .aload_n 0, 65, 0), (65, .getfield 13, 68, 0), (68, .sipush 131, 71, 0), (71, .aload_n 0, 72, 0), (72, .getfield 113, 75, 0), (75, .imul, 76, 0), (76, .iload_n 1, 77, 0), (77, .iadd, 78, 0), (78, .aload_n 0, 79, 0), (79, .getfield 7, 82, 0), (82, .iload_n 1, 83, 0), (83, .iaload, 84, 0), (84, .iastore, 85, 0), (85, .iinc 1 1, 88, 0), (88, .goto (-31), 91, 57), (91, .aload_n 0, 92, 0), (92, .aload_n 0, 93, 0), (93, .getfield 113, 96, 0), (96, .iconst 1, 97, 0), (97, .iadd, 98, 0), (98, .putfield 113, 101, 0), (101, .return_, 102, 0)]
def sw_mo_keepsAhead : List (Nat × List (Int32 × Nat) × Nat) := []
set_option maxRecDepth 100000 in
theorem te_mo_keepsAhead : ∀ q ∈ tb_mo_keepsAhead, gk_eok (gk_M 170).2.1 q = true := by decide +kernel
set_option maxRecDepth 100000 in
theorem tx_mo_keepsAhead (oG : List (Nat × gk_G)) : ∀ q ∈ tb_mo_keepsAhead, gk_xok "DryPlacesModel" pl_mo (0, sw_mo_keepsAhead, oG) q := by
  have h : tb_mo_keepsAhead.all (fun q => gk_xokb "DryPlacesModel" pl_mo sw_mo_keepsAhead q) = true := by decide +kernel
  exact fun q hq => gk_xok_of (List.all_eq_true.mp h q hq)
theorem ok_mo_keepsAhead (oG : List (Nat × gk_G)) : gk_ok gk_M 170 tb_mo_keepsAhead pl_mo (0, sw_mo_keepsAhead, oG) := ⟨te_mo_keepsAhead, pk_mo, tx_mo_keepsAhead oG, rfl⟩
def tb_mo_undo : gk_T := [(0, .aload_n 0, 1, 0), (1, .iconst 0, 2, 0), (2, .putfield 110, 5, 0), (5, .aload_n 0, 6, 0), (6, .getfield 113, 9, 0), (9, .ifCond .ne 5, 12, 14), (12, .iconst 0, 13, 0), (13, .ireturn, 14, 0), (14, .aload_n 0, 15, 0), (15, .aload_n 0, 16, 0), (16, .getfield 113, 19, 0), (19, .iconst 1, 20, 0), (20, .isub, 21, 0), (21, .putfield 113, 24, 0), (24, .iconst 0, 25, 0), (25, .istore_n 1, 26, 0), (26, .iload_n 1, 27, 0), (27, .sipush 131, 30, 0), (30, .if_icmp .ge 30, 33, 60), (33, .aload_n 0, 34, 0), (34, .getfield 7, 37, 0), (37, .iload_n 1, 38, 0), (38, .aload_n 0, 39, 0), (39, .getfield 13, 42, 0), (42, .sipush 131, 45, 0), (45, .aload_n 0, 46, 0), (46, .getfield 113, 49, 0), (49, .imul, 50, 0), (50, .iload_n 1, 51, 0), (51, .iadd, 52, 0), (52, .iaload, 53, 0), (53, .iastore, 54, 0), (54, .iinc 1 1, 57, 0), (57, .goto (-31), 60, 26), (60, .iconst 1, 61, 0), (61, .ireturn, 62, 0)]
def sw_mo_undo : List (Nat × List (Int32 × Nat) × Nat) := []
set_option maxRecDepth 100000 in
theorem te_mo_undo : ∀ q ∈ tb_mo_undo, gk_eok (gk_M 171).2.1 q = true := by decide +kernel
set_option maxRecDepth 100000 in
theorem tx_mo_undo (oG : List (Nat × gk_G)) : ∀ q ∈ tb_mo_undo, gk_xok "DryPlacesModel" pl_mo (3, sw_mo_undo, oG) q := by
  have h : tb_mo_undo.all (fun q => gk_xokb "DryPlacesModel" pl_mo sw_mo_undo q) = true := by decide +kernel
  exact fun q hq => gk_xok_of (List.all_eq_true.mp h q hq)
theorem ok_mo_undo (oG : List (Nat × gk_G)) : gk_ok gk_M 171 tb_mo_undo pl_mo (3, sw_mo_undo, oG) := ⟨te_mo_undo, pk_mo, tx_mo_undo oG, rfl⟩
def tb_mo_thinks : gk_T := [(0, .iconst 0, 1, 0), (1, .istore_n 1, 2, 0), (2, .iload_n 1, 3, 0), (3, .sipush 131, 6, 0), (6, .if_icmp .ge 21, 9, 27), (9, .aload_n 0, 10, 0), (10, .getfield 16, 13, 0), (13, .iload_n 1, 14, 0), (14, .aload_n 0, 15, 0), (15, .getfield 7, 18, 0), (18, .iload_n 1, 19, 0), (19, .iaload, 20, 0), (20, .iastore, 21, 0), (21, .iinc 1 1, 24, 0), (24, .goto (-22), 27, 2), (27, .aload_n 0, 28, 0), (28, .iconst 1, 29, 0), (29, .putfield 116, 32, 0), (32, .return_, 33, 0)]
def sw_mo_thinks : List (Nat × List (Int32 × Nat) × Nat) := []
set_option maxRecDepth 100000 in
theorem te_mo_thinks : ∀ q ∈ tb_mo_thinks, gk_eok (gk_M 172).2.1 q = true := by decide +kernel
set_option maxRecDepth 100000 in
theorem tx_mo_thinks (oG : List (Nat × gk_G)) : ∀ q ∈ tb_mo_thinks, gk_xok "DryPlacesModel" pl_mo (0, sw_mo_thinks, oG) q := by
  have h : tb_mo_thinks.all (fun q => gk_xokb "DryPlacesModel" pl_mo sw_mo_thinks q) = true := by decide +kernel
  exact fun q hq => gk_xok_of (List.all_eq_true.mp h q hq)
theorem ok_mo_thinks (oG : List (Nat × gk_G)) : gk_ok gk_M 172 tb_mo_thinks pl_mo (0, sw_mo_thinks, oG) := ⟨te_mo_thinks, pk_mo, tx_mo_thinks oG, rfl⟩
def tb_mo_endsThought : gk_T := [(0, .iconst 0, 1, 0), (1, .istore_n 1, 2, 0), (2, .iload_n 1, 3, 0), (3, .sipush 131, 6, 0), (6, .if_icmp .ge 21, 9, 27), (9, .aload_n 0, 10, 0), (10, .getfield 7, 13, 0), (13, .iload_n 1, 14, 0), (14, .aload_n 0, 15, 0), (15, .getfield 16, 18, 0), (18, .iload_n 1, 19, 0), (19, .iaload, 20, 0), (20, .iastore, 21, 0), (21, .iinc 1 1, 24, 0), (24, .goto (-22), 27, 2), (27, .aload_n 0, 28, 0), (28, .iconst 0, 29, 0), (29, .putfield 116, 32, 0), (32, .return_, 33, 0)]
def sw_mo_endsThought : List (Nat × List (Int32 × Nat) × Nat) := []
set_option maxRecDepth 100000 in
theorem te_mo_endsThought : ∀ q ∈ tb_mo_endsThought, gk_eok (gk_M 173).2.1 q = true := by decide +kernel
set_option maxRecDepth 100000 in
theorem tx_mo_endsThought (oG : List (Nat × gk_G)) : ∀ q ∈ tb_mo_endsThought, gk_xok "DryPlacesModel" pl_mo (0, sw_mo_endsThought, oG) q := by
  have h : tb_mo_endsThought.all (fun q => gk_xokb "DryPlacesModel" pl_mo sw_mo_endsThought q) = true := by decide +kernel
  exact fun q hq => gk_xok_of (List.all_eq_true.mp h q hq)
theorem ok_mo_endsThought (oG : List (Nat × gk_G)) : gk_ok gk_M 173 tb_mo_endsThought pl_mo (0, sw_mo_endsThought, oG) := ⟨te_mo_endsThought, pk_mo, tx_mo_endsThought oG, rfl⟩
def tb_mo_state : gk_T := [(0, .aload_n 0, 1, 0), (1, .iconst 0, 2, 0), (2, .putfield 110, 5, 0), (5, .aload_n 0, 6, 0), (6, .getfield 7, 9, 0), (9, .iconst 1, 10, 0), (10, .iaload, 11, 0), (11, .istore_n 2, 12, 0), (12, .aload_n 0, 13, 0), (13, .getfield 7, 16, 0), (16, .iconst 1, 17, 0), (17, .iload_n 1, 18, 0), (18, .iastore, 19, 0), (19, .aload_n 0, 20, 0), (20, .iconst 0, 21, 0), (21, .putfield 113, 24, 0), (24, .iload_n 2, 25, 0), (25, .ireturn, 26, 0)]
def sw_mo_state : List (Nat × List (Int32 × Nat) × Nat) := []
set_option maxRecDepth 100000 in
theorem te_mo_state : ∀ q ∈ tb_mo_state, gk_eok (gk_M 174).2.1 q = true := by decide +kernel
set_option maxRecDepth 100000 in
theorem tx_mo_state (oG : List (Nat × gk_G)) : ∀ q ∈ tb_mo_state, gk_xok "DryPlacesModel" pl_mo (1, sw_mo_state, oG) q := by
  have h : tb_mo_state.all (fun q => gk_xokb "DryPlacesModel" pl_mo sw_mo_state q) = true := by decide +kernel
  exact fun q hq => gk_xok_of (List.all_eq_true.mp h q hq)
theorem ok_mo_state (oG : List (Nat × gk_G)) : gk_ok gk_M 174 tb_mo_state pl_mo (1, sw_mo_state, oG) := ⟨te_mo_state, pk_mo, tx_mo_state oG, rfl⟩
def tb_mo_draw : gk_T := [(0, .aload_n 0, 1, 0), (1, .getfield 7, 4, 0), (4, .iconst 1, 5, 0), (5, .ldc 120, 7, 0), (7, .aload_n 0, 8, 0), (8, .getfield 7, 11, 0), (11, .iconst 1, 12, 0), (12, .iaload, 13, 0), (13, .imul, 14, 0), (14, .ldc 121, 16, 0), (16, .iadd, 17, 0), (17, .iastore, 18, 0), (18, .aload_n 0, 19, 0), (19, .getfield 7, 22, 0), (22, .iconst 1, 23, 0), (23, .iaload, 24, 0), (24, .bipush 8, 26, 0), (26, .iushr, 27, 0), (27, .iload_n 1, 28, 0), (28, .irem, 29, 0), (29, .ireturn, 30, 0)]
def sw_mo_draw : List (Nat × List (Int32 × Nat) × Nat) := []
set_option maxRecDepth 100000 in
theorem te_mo_draw : ∀ q ∈ tb_mo_draw, gk_eok (gk_M 175).2.1 q = true := by decide +kernel
set_option maxRecDepth 100000 in
theorem tx_mo_draw (oG : List (Nat × gk_G)) : ∀ q ∈ tb_mo_draw, gk_xok "DryPlacesModel" pl_mo (1, sw_mo_draw, oG) q := by
  have h : tb_mo_draw.all (fun q => gk_xokb "DryPlacesModel" pl_mo sw_mo_draw q) = true := by decide +kernel
  exact fun q hq => gk_xok_of (List.all_eq_true.mp h q hq)
theorem ok_mo_draw (oG : List (Nat × gk_G)) : gk_ok gk_M 175 tb_mo_draw pl_mo (1, sw_mo_draw, oG) := ⟨te_mo_draw, pk_mo, tx_mo_draw oG, rfl⟩
def tb_mo_isPlace : gk_T := [(0, .iload_n 1, 1, 0), (1, .ifCond .lt 15, 4, 16), (4, .iload_n 1, 5, 0), (5, .aload_n 0, 6, 0), (6, .getfield 122, 9, 0), (9, .if_icmp .ge 7, 12, 16), (12, .iconst 1, 13, 0), (13, .goto 4, 16, 17), (16, .iconst 0, 17, 0), (17, .ireturn, 18, 0)]
def sw_mo_isPlace : List (Nat × List (Int32 × Nat) × Nat) := []
set_option maxRecDepth 100000 in
theorem te_mo_isPlace : ∀ q ∈ tb_mo_isPlace, gk_eok (gk_M 176).2.1 q = true := by decide +kernel
set_option maxRecDepth 100000 in
theorem tx_mo_isPlace (oG : List (Nat × gk_G)) : ∀ q ∈ tb_mo_isPlace, gk_xok "DryPlacesModel" pl_mo (3, sw_mo_isPlace, oG) q := by
  have h : tb_mo_isPlace.all (fun q => gk_xokb "DryPlacesModel" pl_mo sw_mo_isPlace q) = true := by decide +kernel
  exact fun q hq => gk_xok_of (List.all_eq_true.mp h q hq)
theorem ok_mo_isPlace (oG : List (Nat × gk_G)) : gk_ok gk_M 176 tb_mo_isPlace pl_mo (3, sw_mo_isPlace, oG) := ⟨te_mo_isPlace, pk_mo, tx_mo_isPlace oG, rfl⟩
def tb_mo_isCell : gk_T := [(0, .iload_n 1, 1, 0), (1, .ifCond .lt 13, 4, 14), (4, .iload_n 1, 5, 0), (5, .bipush 64, 7, 0), (7, .if_icmp .ge 7, 10, 14), (10, .iconst 1, 11, 0), (11, .goto 4, 14, 15), (14, .iconst 0, 15, 0), (15, .ireturn, 16, 0)]
def sw_mo_isCell : List (Nat × List (Int32 × Nat) × Nat) := []
set_option maxRecDepth 100000 in
theorem te_mo_isCell : ∀ q ∈ tb_mo_isCell, gk_eok (gk_M 177).2.1 q = true := by decide +kernel
set_option maxRecDepth 100000 in
theorem tx_mo_isCell (oG : List (Nat × gk_G)) : ∀ q ∈ tb_mo_isCell, gk_xok "DryPlacesModel" pl_mo (3, sw_mo_isCell, oG) q := by
  have h : tb_mo_isCell.all (fun q => gk_xokb "DryPlacesModel" pl_mo sw_mo_isCell q) = true := by decide +kernel
  exact fun q hq => gk_xok_of (List.all_eq_true.mp h q hq)
theorem ok_mo_isCell (oG : List (Nat × gk_G)) : gk_ok gk_M 177 tb_mo_isCell pl_mo (3, sw_mo_isCell, oG) := ⟨te_mo_isCell, pk_mo, tx_mo_isCell oG, rfl⟩
def tb_mo_rowAt : gk_T := [(0, .bipush 51, 2, 0), (2, .bipush 8, 4, 0), (4, .iload_n 1, 5, 0), (5, .imul, 6, 0), (6, .iadd, 7, 0), (7, .iload_n 2, 8, 0), (8, .iadd, 9, 0), (9, .ireturn, 10, 0)]
def sw_mo_rowAt : List (Nat × List (Int32 × Nat) × Nat) := []
set_option maxRecDepth 100000 in
theorem te_mo_rowAt : ∀ q ∈ tb_mo_rowAt, gk_eok (gk_M 178).2.1 q = true := by decide +kernel
set_option maxRecDepth 100000 in
theorem tx_mo_rowAt (oG : List (Nat × gk_G)) : ∀ q ∈ tb_mo_rowAt, gk_xok "DryPlacesModel" pl_mo (1, sw_mo_rowAt, oG) q := by
  have h : tb_mo_rowAt.all (fun q => gk_xokb "DryPlacesModel" pl_mo sw_mo_rowAt q) = true := by decide +kernel
  exact fun q hq => gk_xok_of (List.all_eq_true.mp h q hq)
theorem ok_mo_rowAt (oG : List (Nat × gk_G)) : gk_ok gk_M 178 tb_mo_rowAt pl_mo (1, sw_mo_rowAt, oG) := ⟨te_mo_rowAt, pk_mo, tx_mo_rowAt oG, rfl⟩
def tb_mo_isDry : gk_T := [(0, .aload_n 0, 1, 0), (1, .iload_n 2, 2, 0), (2, .iconst 0, 3, 0), (3, .bipush 7, 5, 0), (5, .invokevirtual 125, 8, 0), (8, .ifCond .eq 37, 11, 45), (11, .aload_n 0, 12, 0), (12, .iload_n 3, 13, 0), (13, .iconst 0, 14, 0), (14, .bipush 7, 16, 0), (16, .invokevirtual 125, 19, 0), (19, .ifCond .eq 26, 22, 45), (22, .aload_n 0, 23, 0), (23, .aload_n 0, 24, 0), (24, .getfield 7, 27, 0), (27, .aload_n 0, 28, 0), (28, .iload_n 1, 29, 0), (29, .iload_n 2, 30, 0), (30, .invokevirtual 129, 33, 0), (33, .iaload, 34, 0), (34, .iload_n 3, 35, 0), (35, .invokevirtual 133, 38, 0), (38, .ifCond .eq 7, 41, 45), (41, .iconst 1, 42, 0), (42, .goto 4, 45, 46), (45, .iconst 0, 46, 0), (46, .ireturn, 47, 0)]
def sw_mo_isDry : List (Nat × List (Int32 × Nat) × Nat) := []
set_option maxRecDepth 100000 in
theorem te_mo_isDry : ∀ q ∈ tb_mo_isDry, gk_eok (gk_M 179).2.1 q = true := by decide +kernel
set_option maxRecDepth 100000 in
theorem tx_mo_isDry (oG : List (Nat × gk_G)) : ∀ q ∈ tb_mo_isDry, gk_xok "DryPlacesModel" pl_mo (3, sw_mo_isDry, oG) q := by
  have h : tb_mo_isDry.all (fun q => gk_xokb "DryPlacesModel" pl_mo sw_mo_isDry q) = true := by decide +kernel
  exact fun q hq => gk_xok_of (List.all_eq_true.mp h q hq)
theorem ok_mo_isDry (oG : List (Nat × gk_G)) : gk_ok gk_M 179 tb_mo_isDry pl_mo (3, sw_mo_isDry, oG) := ⟨te_mo_isDry, pk_mo, tx_mo_isDry oG, rfl⟩
def tb_mo_isDryCell : gk_T := [(0, .aload_n 0, 1, 0), (1, .aload_n 0, 2, 0), (2, .getfield 7, 5, 0), (5, .aload_n 0, 6, 0), (6, .iload_n 1, 7, 0), (7, .iload_n 2, 8, 0), (8, .bipush 8, 10, 0), (10, .idiv, 11, 0), (11, .invokevirtual 129, 14, 0), (14, .iaload, 15, 0), (15, .iload_n 2, 16, 0), (16, .bipush 8, 18, 0), (18, .irem, 19, 0), (19, .invokevirtual 133, 22, 0), (22, .ireturn, 23, 0)]
def sw_mo_isDryCell : List (Nat × List (Int32 × Nat) × Nat) := []
set_option maxRecDepth 100000 in
theorem te_mo_isDryCell : ∀ q ∈ tb_mo_isDryCell, gk_eok (gk_M 180).2.1 q = true := by decide +kernel
set_option maxRecDepth 100000 in
theorem tx_mo_isDryCell (oG : List (Nat × gk_G)) : ∀ q ∈ tb_mo_isDryCell, gk_xok "DryPlacesModel" pl_mo (3, sw_mo_isDryCell, oG) q := by
  have h : tb_mo_isDryCell.all (fun q => gk_xokb "DryPlacesModel" pl_mo sw_mo_isDryCell q) = true := by decide +kernel
  exact fun q hq => gk_xok_of (List.all_eq_true.mp h q hq)
theorem ok_mo_isDryCell (oG : List (Nat × gk_G)) : gk_ok gk_M 180 tb_mo_isDryCell pl_mo (3, sw_mo_isDryCell, oG) := ⟨te_mo_isDryCell, pk_mo, tx_mo_isDryCell oG, rfl⟩
def tb_mo_wetBeside : gk_T := [(0, .iload_n 2, 1, 0), (1, .bipush 8, 3, 0), (3, .idiv, 4, 0), (4, .istore_n 3, 5, 0), (5, .iload_n 2, 6, 0), (6, .bipush 8, 8, 0), (8, .irem, 9, 0), (9, .istore 4, 11, 0), (11, .iconst 4, 12, 0), (12, .aload_n 0, 13, 0), (13, .iload_n 1, 14, 0), (14, .iload_n 3, 15, 0), (15, .iconst 1, 16, 0), (16, .isub, 17, 0), (17, .iload 4, 19, 0), (19, .invokevirtual 137, 22, 0), (22, .ifCond .eq 7, 25, 29), (25, .iconst 1, 26, 0), (26, .goto 4, 29, 30), (29, .iconst 0, 30, 0), (30, .isub, 31, 0), (31, .aload_n 0, 32, 0), (32, .iload_n 1, 33, 0), (33, .iload_n 3, 34, 0), (34, .iconst 1, 35, 0), (35, .iadd, 36, 0), (36, .iload 4, 38, 0), (38, .invokevirtual 137, 41, 0), (41, .ifCond .eq 7, 44, 48), (44, .iconst 1, 45, 0), (45, .goto 4, 48, 49), (48, .iconst 0, 49, 0), (49, .isub, 50, 0), (50, .aload_n 0, 51, 0), (51, .iload_n 1, 52, 0), (52, .iload_n 3, 53, 0), (53, .iload 4, 55, 0), (55, .iconst 1, 56, 0), (56, .isub, 57, 0), (57, .invokevirtual 137, 60, 0), (60, .ifCond .eq 7, 63, 67), (63, .iconst 1, 64, 0), (64, .goto 4, 67, 68), (67, .iconst 0, 68, 0), (68, .isub, 69, 0), (69, .aload_n 0, 70, 0), (70, .iload_n 1, 71, 0), (71, .iload_n 3, 72, 0), (72, .iload 4, 74, 0), (74, .iconst 1, 75, 0), (75, .iadd, 76, 0), (76, .invokevirtual 137, 79, 0), (79, .ifCond .eq 7, 82, 86), (82, .iconst 1, 83, 0), (83, .goto 4, 86, 87), (86, .iconst 0, 87, 0), (87, .isub, 88, 0), (88, .ireturn, 89, 0)]
def sw_mo_wetBeside : List (Nat × List (Int32 × Nat) × Nat) := []
set_option maxRecDepth 100000 in
theorem te_mo_wetBeside : ∀ q ∈ tb_mo_wetBeside, gk_eok (gk_M 181).2.1 q = true := by decide +kernel
set_option maxRecDepth 100000 in
theorem tx_mo_wetBeside (oG : List (Nat × gk_G)) : ∀ q ∈ tb_mo_wetBeside, gk_xok "DryPlacesModel" pl_mo (1, sw_mo_wetBeside, oG) q := by
  have h : tb_mo_wetBeside.all (fun q => gk_xokb "DryPlacesModel" pl_mo sw_mo_wetBeside q) = true := by decide +kernel
  exact fun q hq => gk_xok_of (List.all_eq_true.mp h q hq)
theorem ok_mo_wetBeside (oG : List (Nat × gk_G)) : gk_ok gk_M 181 tb_mo_wetBeside pl_mo (1, sw_mo_wetBeside, oG) := ⟨te_mo_wetBeside, pk_mo, tx_mo_wetBeside oG, rfl⟩
def tb_mo_dryOf : gk_T := [(0, .iconst 0, 1, 0), (1, .istore_n 2, 2, 0), (2, .iconst 0, 3, 0), (3, .istore_n 3, 4, 0), (4, .iload_n 3, 5, 0), (5, .bipush 8, 7, 0), (7, .if_icmp .ge 27, 10, 34), (10, .iload_n 2, 11, 0), (11, .aload_n 0, 12, 0), (12, .aload_n 0, 13, 0), (13, .getfield 7, 16, 0), (16, .aload_n 0, 17, 0), (17, .iload_n 1, 18, 0), (18, .iload_n 3, 19, 0), (19, .invokevirtual 129, 22, 0), (22, .iaload, 23, 0), (23, .invokevirtual 140, 26, 0), (26, .iadd, 27, 0), (27, .istore_n 2, 28, 0), (28, .iinc 3 1, 31, 0), (31, .goto (-27), 34, 4), (34, .iload_n 2, 35, 0), (35, .ireturn, 36, 0)]
def sw_mo_dryOf : List (Nat × List (Int32 × Nat) × Nat) := []
set_option maxRecDepth 100000 in
theorem te_mo_dryOf : ∀ q ∈ tb_mo_dryOf, gk_eok (gk_M 182).2.1 q = true := by decide +kernel
set_option maxRecDepth 100000 in
theorem tx_mo_dryOf (oG : List (Nat × gk_G)) : ∀ q ∈ tb_mo_dryOf, gk_xok "DryPlacesModel" pl_mo (1, sw_mo_dryOf, oG) q := by
  have h : tb_mo_dryOf.all (fun q => gk_xokb "DryPlacesModel" pl_mo sw_mo_dryOf q) = true := by decide +kernel
  exact fun q hq => gk_xok_of (List.all_eq_true.mp h q hq)
theorem ok_mo_dryOf (oG : List (Nat × gk_G)) : gk_ok gk_M 182 tb_mo_dryOf pl_mo (1, sw_mo_dryOf, oG) := ⟨te_mo_dryOf, pk_mo, tx_mo_dryOf oG, rfl⟩
def tb_mo_edgesOf : gk_T := [(0, .iconst 0, 1, 0), (1, .istore_n 2, 2, 0), (2, .iconst 0, 3, 0), (3, .istore_n 3, 4, 0), (4, .iload_n 3, 5, 0), (5, .bipush 64, 7, 0), (7, .if_icmp .ge 27, 10, 34), (10, .aload_n 0, 11, 0), (11, .iload_n 1, 12, 0), (12, .iload_n 3, 13, 0), (13, .invokevirtual 144, 16, 0), (16, .ifCond .eq 12, 19, 28), (19, .iload_n 2, 20, 0), (20, .aload_n 0, 21, 0), (21, .iload_n 1, 22, 0), (22, .iload_n 3, 23, 0), (23, .invokevirtual 147, 26, 0), (26, .iadd, 27, 0), (27, .istore_n 2, 28, 0), (28, .iinc 3 1, 31, 0), (31, .goto (-27), 34, 4), (34, .iload_n 2, 35, 0), (35, .ireturn, 36, 0)]
def sw_mo_edgesOf : List (Nat × List (Int32 × Nat) × Nat) := []
set_option maxRecDepth 100000 in
theorem te_mo_edgesOf : ∀ q ∈ tb_mo_edgesOf, gk_eok (gk_M 183).2.1 q = true := by decide +kernel
set_option maxRecDepth 100000 in
theorem tx_mo_edgesOf (oG : List (Nat × gk_G)) : ∀ q ∈ tb_mo_edgesOf, gk_xok "DryPlacesModel" pl_mo (1, sw_mo_edgesOf, oG) q := by
  have h : tb_mo_edgesOf.all (fun q => gk_xokb "DryPlacesModel" pl_mo sw_mo_edgesOf q) = true := by decide +kernel
  exact fun q hq => gk_xok_of (List.all_eq_true.mp h q hq)
theorem ok_mo_edgesOf (oG : List (Nat × gk_G)) : gk_ok gk_M 183 tb_mo_edgesOf pl_mo (1, sw_mo_edgesOf, oG) := ⟨te_mo_edgesOf, pk_mo, tx_mo_edgesOf oG, rfl⟩
def tb_mo_place : gk_T := [(0, .aload_n 0, 1, 0), (1, .iconst 0, 2, 0), (2, .putfield 110, 5, 0), (5, .aload_n 0, 6, 0), (6, .iload_n 1, 7, 0), (7, .iconst 0, 8, 0), (8, .bipush 99, 10, 0), (10, .invokevirtual 125, 13, 0), (13, .ifCond .eq 12, 16, 25), (16, .aload_n 0, 17, 0), (17, .getfield 122, 20, 0), (20, .bipush 10, 22, 0), (22, .if_icmp .ne 5, 25, 27), (25, .iconst (-1), 26, 0), (26, .ireturn, 27, 0), (27, .aload_n 0, 28, 0), (28, .getfield 19, 31, 0), (31, .aload_n 0, 32, 0), (32, .getfield 122, 35, 0), (35, .iload_n 1, 36, 0), (36, .iastore, 37, 0), (37, .aload_n 0, 38, 0), (38, .getfield 7, 41, 0), (41, .bipush 11, 43, 0), (43, .aload_n 0, 44, 0), (44, .getfield 122, 47, 0), (47, .iadd, 48, 0), (48, .iconst 0, 49, 0), (49, .iastore, 50, 0), (50, .aload_n 0, 51, 0), (51, .getfield 7, 54, 0), (54, .bipush 21, 56, 0), (56, .aload_n 0, 57, 0), (57, .getfield 122, 60, 0), (60, .iadd, 61, 0), (61, .iconst 0, 62, 0), (62, .iastore, 63, 0), (63, .aload_n 0, 64, 0), (64, .getfield 7, 67, 0), (67, .bipush 31, 69, 0), (69, .aload_n 0, 70, 0), (70, .getfield 122, 73, 0), (73, .iadd, 74, 0), (74, .iconst 0, 75, 0), (75, .iastore, 76, 0), (76, .aload_n 0, 77, 0), (77, .getfield 7, 80, 0), (80, .bipush 41, 82, 0), (82, .aload_n 0, 83, 0), (83, .getfield 122, 86, 0), (86, .iadd, 87, 0), (87, .iconst 0, 88, 0), (88, .iastore, 89, 0), (89, .iconst 0, 90, 0), (90, .istore_n 2, 91, 0), (91, .iload_n 2, 92, 0), (92, .bipush 8, 94, 0), (94, .if_icmp .ge 24, 97, 118), (97, .aload_n 0, 98, 0), (98, .getfield 7, 101, 0), (101, .aload_n 0, 102, 0), (102, .aload_n 0, 103, 0), (103, .getfield 122, 106, 0), (106, .iload_n 2, 107, 0), (107, .invokevirtual 129, 110, 0), (110, .iconst 0, 111, 0), (111, .iastore, 112, 0), (112, .iinc 2 1, 115, 0), (115, .goto (-24), 118, 91), (118, .aload_n 0, 119, 0), (119, .aload_n 0, 120, 0), (120, .getfield 122, 123, 0), (123, .iconst 1, 124, 0), (124, .iadd, 125, 0), (125, .putfield 122, 128, 0), (128, .aload_n 0, 129, 0), (129, .iconst 0, 130, 0), (130, .putfield 113, 133, 0), (133, .aload_n 0, 134, 0), (134, .getfield 122, 137, 0), (137, .iconst 1, 138, 0), (138, .isub, 139, 0), (139, .ireturn, 140, 0)]
def sw_mo_place : List (Nat × List (Int32 × Nat) × Nat) := []
set_option maxRecDepth 100000 in
theorem te_mo_place : ∀ q ∈ tb_mo_place, gk_eok (gk_M 184).2.1 q = true := by decide +kernel
set_option maxRecDepth 100000 in
theorem tx_mo_place (oG : List (Nat × gk_G)) : ∀ q ∈ tb_mo_place, gk_xok "DryPlacesModel" pl_mo (1, sw_mo_place, oG) q := by
  have h : tb_mo_place.all (fun q => gk_xokb "DryPlacesModel" pl_mo sw_mo_place q) = true := by decide +kernel
  exact fun q hq => gk_xok_of (List.all_eq_true.mp h q hq)
theorem ok_mo_place (oG : List (Nat × gk_G)) : gk_ok gk_M 184 tb_mo_place pl_mo (1, sw_mo_place, oG) := ⟨te_mo_place, pk_mo, tx_mo_place oG, rfl⟩
def tb_mo_row : gk_T := [(0, .aload_n 0, 1, 0), (1, .iconst 0, 2, 0), (2, .putfield 110, 5, 0), (5, .aload_n 0, 6, 0), (6, .iload_n 1, 7, 0), (7, .invokevirtual 150, 10, 0), (10, .ifCond .eq 26, 13, 36), (13, .aload_n 0, 14, 0), (14, .iload_n 2, 15, 0), (15, .iconst 0, 16, 0), (16, .bipush 7, 18, 0), (18, .invokevirtual 125, 21, 0), (21, .ifCond .eq 15, 24, 36), (24, .aload_n 0, 25, 0), (25, .iload_n 3, 26, 0), (26, .iconst 0, 27, 0), (27, .sipush 255, 30, 0), (30, .invokevirtual 125, 33, 0), (33, .ifCond .ne 5, 36, 38), (36, .iconst 0, 37, 0), (37, .ireturn, 38, 0), (38, .aload_n 0, 39, 0), (39, .getfield 7, 42, 0), (42, .aload_n 0, 43, 0), (43, .iload_n 1, 44, 0), (44, .iload_n 2, 45, 0), (45, .invokevirtual 129, 48, 0), (48, .iload_n 3, 49, 0), (49, .iastore, 50, 0), (50, .aload_n 0, 51, 0), (51, .iconst 0, 52, 0), (52, .putfield 113, 55, 0), (55, .iconst 1, 56, 0), (56, .ireturn, 57, 0)]
def sw_mo_row : List (Nat × List (Int32 × Nat) × Nat) := []
set_option maxRecDepth 100000 in
theorem te_mo_row : ∀ q ∈ tb_mo_row, gk_eok (gk_M 185).2.1 q = true := by decide +kernel
set_option maxRecDepth 100000 in
theorem tx_mo_row (oG : List (Nat × gk_G)) : ∀ q ∈ tb_mo_row, gk_xok "DryPlacesModel" pl_mo (3, sw_mo_row, oG) q := by
  have h : tb_mo_row.all (fun q => gk_xokb "DryPlacesModel" pl_mo sw_mo_row q) = true := by decide +kernel
  exact fun q hq => gk_xok_of (List.all_eq_true.mp h q hq)
theorem ok_mo_row (oG : List (Nat × gk_G)) : gk_ok gk_M 185 tb_mo_row pl_mo (3, sw_mo_row, oG) := ⟨te_mo_row, pk_mo, tx_mo_row oG, rfl⟩
def tb_mo_purse : gk_T := [(0, .aload_n 0, 1, 0), (1, .iconst 0, 2, 0), (2, .putfield 110, 5, 0), (5, .aload_n 0, 6, 0), (6, .iload_n 1, 7, 0), (7, .iconst 0, 8, 0), (8, .ldc 154, 10, 0), (10, .invokevirtual 125, 13, 0), (13, .ifCond .ne 5, 16, 18), (16, .iconst 0, 17, 0), (17, .ireturn, 18, 0), (18, .aload_n 0, 19, 0), (19, .getfield 7, 22, 0), (22, .iconst 3, 23, 0), (23, .iload_n 1, 24, 0), (24, .iastore, 25, 0), (25, .aload_n 0, 26, 0), (26, .iconst 0, 27, 0), (27, .putfield 113, 30, 0), (30, .iconst 1, 31, 0), (31, .ireturn, 32, 0)]
def sw_mo_purse : List (Nat × List (Int32 × Nat) × Nat) := []
set_option maxRecDepth 100000 in
theorem te_mo_purse : ∀ q ∈ tb_mo_purse, gk_eok (gk_M 186).2.1 q = true := by decide +kernel
set_option maxRecDepth 100000 in
theorem tx_mo_purse (oG : List (Nat × gk_G)) : ∀ q ∈ tb_mo_purse, gk_xok "DryPlacesModel" pl_mo (3, sw_mo_purse, oG) q := by
  have h : tb_mo_purse.all (fun q => gk_xokb "DryPlacesModel" pl_mo sw_mo_purse q) = true := by decide +kernel
  exact fun q hq => gk_xok_of (List.all_eq_true.mp h q hq)
theorem ok_mo_purse (oG : List (Nat × gk_G)) : gk_ok gk_M 186 tb_mo_purse pl_mo (3, sw_mo_purse, oG) := ⟨te_mo_purse, pk_mo, tx_mo_purse oG, rfl⟩
def tb_mo_types : gk_T := [(0, .bipush 24, 2, 0), (2, .istore_n 2, 3, 0), (3, .iload_n 2, 4, 0), (4, .ifCond .lt 35, 7, 39), (7, .aload_n 0, 8, 0), (8, .getfield 25, 11, 0), (11, .aload_n 0, 12, 0), (12, .getfield 155, 15, 0), (15, .iload_n 1, 16, 0), (16, .iload_n 2, 17, 0), (17, .ishr, 18, 0), (18, .sipush 255, 21, 0), (21, .iand, 22, 0), (22, .iastore, 23, 0), (23, .aload_n 0, 24, 0), (24, .aload_n 0, 25, 0), (25, .getfield 155, 28, 0), (28, .iconst 1, 29, 0), (29, .iadd, 30, 0), (30, .putfield 155, 33, 0), (33, .iinc 2 (-8), 36, 0), (36, .goto (-33), 39, 3), (39, .return_, 40, 0)]
def sw_mo_types : List (Nat × List (Int32 × Nat) × Nat) := []
set_option maxRecDepth 100000 in
theorem te_mo_types : ∀ q ∈ tb_mo_types, gk_eok (gk_M 187).2.1 q = true := by decide +kernel
set_option maxRecDepth 100000 in
theorem tx_mo_types (oG : List (Nat × gk_G)) : ∀ q ∈ tb_mo_types, gk_xok "DryPlacesModel" pl_mo (0, sw_mo_types, oG) q := by
  have h : tb_mo_types.all (fun q => gk_xokb "DryPlacesModel" pl_mo sw_mo_types q) = true := by decide +kernel
  exact fun q hq => gk_xok_of (List.all_eq_true.mp h q hq)
theorem ok_mo_types (oG : List (Nat × gk_G)) : gk_ok gk_M 187 tb_mo_types pl_mo (0, sw_mo_types, oG) := ⟨te_mo_types, pk_mo, tx_mo_types oG, rfl⟩
def tb_mo_feed : gk_T := [(0, .aload_n 0, 1, 0), (1, .iconst 0, 2, 0), (2, .putfield 110, 5, 0), (5, .aload_n 0, 6, 0), (6, .getfield 155, 9, 0), (9, .sipush 380, 12, 0), (12, .if_icmp .le 5, 15, 17), (15, .iconst (-1), 16, 0), (16, .ireturn, 17, 0), (17, .aload_n 0, 18, 0), (18, .iload_n 1, 19, 0), (19, .invokevirtual 158, 22, 0), (22, .aload_n 0, 23, 0), (23, .iload_n 2, 24, 0), (24, .invokevirtual 158, 27, 0), (27, .aload_n 0, 28, 0), (28, .iload_n 3, 29, 0), (29, .invokevirtual 158, 32, 0), (32, .aload_n 0, 33, 0), (33, .iload 4, 35, 0), (35, .invokevirtual 158, 38, 0), (38, .aload_n 0, 39, 0), (39, .iload 5, 41, 0), (41, .invokevirtual 158, 44, 0), (44, .aload_n 0, 45, 0), (45, .getfield 155, 48, 0), (48, .ireturn, 49, 0)]
def sw_mo_feed : List (Nat × List (Int32 × Nat) × Nat) := []
set_option maxRecDepth 100000 in
theorem te_mo_feed : ∀ q ∈ tb_mo_feed, gk_eok (gk_M 188).2.1 q = true := by decide +kernel
set_option maxRecDepth 100000 in
theorem tx_mo_feed (oG : List (Nat × gk_G)) : ∀ q ∈ tb_mo_feed, gk_xok "DryPlacesModel" pl_mo (1, sw_mo_feed, oG) q := by
  have h : tb_mo_feed.all (fun q => gk_xokb "DryPlacesModel" pl_mo sw_mo_feed q) = true := by decide +kernel
  exact fun q hq => gk_xok_of (List.all_eq_true.mp h q hq)
theorem ok_mo_feed (oG : List (Nat × gk_G)) : gk_ok gk_M 188 tb_mo_feed pl_mo (1, sw_mo_feed, oG) := ⟨te_mo_feed, pk_mo, tx_mo_feed oG, rfl⟩
def tb_mo_end : gk_T := [(0, .aload_n 0, 1, 0), (1, .iconst 0, 2, 0), (2, .putfield 110, 5, 0), (5, .aload_n 0, 6, 0), (6, .iload_n 1, 7, 0), (7, .iconst 0, 8, 0), (8, .aload_n 0, 9, 0), (9, .getfield 155, 12, 0), (12, .invokevirtual 125, 15, 0), (15, .ifCond .ne 5, 18, 20), (18, .iconst 0, 19, 0), (19, .ireturn, 20, 0), (20, .aload_n 0, 21, 0), (21, .iload_n 1, 22, 0), (22, .putfield 155, 25, 0), (25, .iconst 1, 26, 0), (26, .ireturn, 27, 0)]
def sw_mo_end : List (Nat × List (Int32 × Nat) × Nat) := []
set_option maxRecDepth 100000 in
theorem te_mo_end : ∀ q ∈ tb_mo_end, gk_eok (gk_M 189).2.1 q = true := by decide +kernel
set_option maxRecDepth 100000 in
theorem tx_mo_end (oG : List (Nat × gk_G)) : ∀ q ∈ tb_mo_end, gk_xok "DryPlacesModel" pl_mo (3, sw_mo_end, oG) q := by
  have h : tb_mo_end.all (fun q => gk_xokb "DryPlacesModel" pl_mo sw_mo_end q) = true := by decide +kernel
  exact fun q hq => gk_xok_of (List.all_eq_true.mp h q hq)
theorem ok_mo_end (oG : List (Nat × gk_G)) : gk_ok gk_M 189 tb_mo_end pl_mo (3, sw_mo_end, oG) := ⟨te_mo_end, pk_mo, tx_mo_end oG, rfl⟩
def tb_mo_raw : gk_T := [(0, .iload_n 1, 1, 0), (1, .aload_n 0, 2, 0), (2, .getfield 155, 5, 0), (5, .if_icmp .ge 12, 8, 17), (8, .aload_n 0, 9, 0), (9, .getfield 25, 12, 0), (12, .iload_n 1, 13, 0), (13, .iaload, 14, 0), (14, .goto 4, 17, 18), (17, .iconst (-1), 18, 0), (18, .ireturn, 19, 0)]
def sw_mo_raw : List (Nat × List (Int32 × Nat) × Nat) := []
set_option maxRecDepth 100000 in
theorem te_mo_raw : ∀ q ∈ tb_mo_raw, gk_eok (gk_M 190).2.1 q = true := by decide +kernel
set_option maxRecDepth 100000 in
theorem tx_mo_raw (oG : List (Nat × gk_G)) : ∀ q ∈ tb_mo_raw, gk_xok "DryPlacesModel" pl_mo (1, sw_mo_raw, oG) q := by
  have h : tb_mo_raw.all (fun q => gk_xokb "DryPlacesModel" pl_mo sw_mo_raw q) = true := by decide +kernel
  exact fun q hq => gk_xok_of (List.all_eq_true.mp h q hq)
theorem ok_mo_raw (oG : List (Nat × gk_G)) : gk_ok gk_M 190 tb_mo_raw pl_mo (1, sw_mo_raw, oG) := ⟨te_mo_raw, pk_mo, tx_mo_raw oG, rfl⟩
def tb_mo_isLetter : gk_T := [(0, .aload_n 0, 1, 0), (1, .iload_n 1, 2, 0), (2, .bipush 97, 4, 0), (4, .bipush 122, 6, 0), (6, .invokevirtual 125, 9, 0), (9, .ifCond .ne 15, 12, 24), (12, .aload_n 0, 13, 0), (13, .iload_n 1, 14, 0), (14, .bipush 65, 16, 0), (16, .bipush 90, 18, 0), (18, .invokevirtual 125, 21, 0), (21, .ifCond .eq 7, 24, 28), (24, .iconst 1, 25, 0), (25, .goto 4, 28, 29), (28, .iconst 0, 29, 0), (29, .ireturn, 30, 0)]
def sw_mo_isLetter : List (Nat × List (Int32 × Nat) × Nat) := []
set_option maxRecDepth 100000 in
theorem te_mo_isLetter : ∀ q ∈ tb_mo_isLetter, gk_eok (gk_M 191).2.1 q = true := by decide +kernel
set_option maxRecDepth 100000 in
theorem tx_mo_isLetter (oG : List (Nat × gk_G)) : ∀ q ∈ tb_mo_isLetter, gk_xok "DryPlacesModel" pl_mo (3, sw_mo_isLetter, oG) q := by
  have h : tb_mo_isLetter.all (fun q => gk_xokb "DryPlacesModel" pl_mo sw_mo_isLetter q) = true := by decide +kernel
  exact fun q hq => gk_xok_of (List.all_eq_true.mp h q hq)
theorem ok_mo_isLetter (oG : List (Nat × gk_G)) : gk_ok gk_M 191 tb_mo_isLetter pl_mo (3, sw_mo_isLetter, oG) := ⟨te_mo_isLetter, pk_mo, tx_mo_isLetter oG, rfl⟩
def tb_mo_isDigit : gk_T := [(0, .aload_n 0, 1, 0), (1, .iload_n 1, 2, 0), (2, .bipush 48, 4, 0), (4, .bipush 57, 6, 0), (6, .invokevirtual 125, 9, 0), (9, .ireturn, 10, 0)]
def sw_mo_isDigit : List (Nat × List (Int32 × Nat) × Nat) := []
set_option maxRecDepth 100000 in
theorem te_mo_isDigit : ∀ q ∈ tb_mo_isDigit, gk_eok (gk_M 192).2.1 q = true := by decide +kernel
set_option maxRecDepth 100000 in
theorem tx_mo_isDigit (oG : List (Nat × gk_G)) : ∀ q ∈ tb_mo_isDigit, gk_xok "DryPlacesModel" pl_mo (3, sw_mo_isDigit, oG) q := by
  have h : tb_mo_isDigit.all (fun q => gk_xokb "DryPlacesModel" pl_mo sw_mo_isDigit q) = true := by decide +kernel
  exact fun q hq => gk_xok_of (List.all_eq_true.mp h q hq)
theorem ok_mo_isDigit (oG : List (Nat × gk_G)) : gk_ok gk_M 192 tb_mo_isDigit pl_mo (3, sw_mo_isDigit, oG) := ⟨te_mo_isDigit, pk_mo, tx_mo_isDigit oG, rfl⟩
def tb_mo_isMarkSign : gk_T := [(0, .iload_n 1, 1, 0), (1, .bipush 59, 3, 0), (3, .if_icmp .eq 57, 6, 60), (6, .iload_n 1, 7, 0), (7, .bipush 43, 9, 0), (9, .if_icmp .eq 51, 12, 60), (12, .iload_n 1, 13, 0), (13, .bipush 45, 15, 0), (15, .if_icmp .eq 45, 18, 60), (18, .iload_n 1, 19, 0), (19, .bipush 42, 21, 0), (21, .if_icmp .eq 39, 24, 60), (24, .iload_n 1, 25, 0), (25, .bipush 47, 27, 0), (27, .if_icmp .eq 33, 30, 60), (30, .iload_n 1, 31, 0), (31, .bipush 40, 33, 0), (33, .if_icmp .eq 27, 36, 60), (36, .iload_n 1, 37, 0), (37, .bipush 41, 39, 0), (39, .if_icmp .eq 21, 42, 60), (42, .iload_n 1, 43, 0), (43, .bipush 60, 45, 0), (45, .if_icmp .eq 15, 48, 60), (48, .iload_n 1, 49, 0), (49, .bipush 61, 51, 0), (51, .if_icmp .eq 9, 54, 60), (54, .iload_n 1, 55, 0), (55, .bipush 62, 57, 0), (57, .if_icmp .ne 7, 60, 64), (60, .iconst 1, 61, 0), (61, .goto 4, 64, 65), (64, .iconst 0, 65, 0), (65, .ireturn, 66, 0)]
def sw_mo_isMarkSign : List (Nat × List (Int32 × Nat) × Nat) := []
set_option maxRecDepth 100000 in
theorem te_mo_isMarkSign : ∀ q ∈ tb_mo_isMarkSign, gk_eok (gk_M 193).2.1 q = true := by decide +kernel
set_option maxRecDepth 100000 in
theorem tx_mo_isMarkSign (oG : List (Nat × gk_G)) : ∀ q ∈ tb_mo_isMarkSign, gk_xok "DryPlacesModel" pl_mo (3, sw_mo_isMarkSign, oG) q := by
  have h : tb_mo_isMarkSign.all (fun q => gk_xokb "DryPlacesModel" pl_mo sw_mo_isMarkSign q) = true := by decide +kernel
  exact fun q hq => gk_xok_of (List.all_eq_true.mp h q hq)
theorem ok_mo_isMarkSign (oG : List (Nat × gk_G)) : gk_ok gk_M 193 tb_mo_isMarkSign pl_mo (3, sw_mo_isMarkSign, oG) := ⟨te_mo_isMarkSign, pk_mo, tx_mo_isMarkSign oG, rfl⟩
def tb_mo_wordAt : gk_T := [(0, .iconst (-1), 1, 0), (1, .istore_n 3, 2, 0), (2, .iconst 0, 3, 0), (3, .istore 4, 5, 0), (5, .iload 4, 7, 0), (7, .bipush 119, 9, 0), (9, .if_icmp .ge 108, 12, 117), (12, .iconst 0, 13, 0), (13, .istore 5, 15, 0), (15, .iload_n 3, 16, 0), (16, .iconst 1, 17, 0), (17, .iadd, 18, 0), (18, .istore_n 3, 19, 0), (19, .iload_n 1, 20, 0), (20, .iload 5, 22, 0), (22, .iadd, 23, 0), (23, .iload_n 2, 24, 0), (24, .if_icmp .ge 36, 27, 60), (27, .aload_n 0, 28, 0), (28, .getfield 28, 31, 0), (31, .iload 4, 33, 0), (33, .iconst 1, 34, 0), (34, .iadd, 35, 0), (35, .iload 5, 37, 0), (37, .iadd, 38, 0), (38, .iaload, 39, 0), (39, .aload_n 0, 40, 0), (40, .getfield 25, 43, 0), (43, .iload_n 1, 44, 0), (44, .iload 5, 46, 0), (46, .iadd, 47, 0), (47, .iaload, 48, 0), (48, .if_icmp .ne 12, 51, 60), (51, .iload 5, 53, 0), (53, .iconst 1, 54, 0), (54, .iadd, 55, 0), (55, .istore 5, 57, 0), (57, .goto (-38), 60, 19), (60, .iload_n 1, 61, 0), (61, .iload 5, 63, 0), (63, .iadd, 64, 0), (64, .iload_n 2, 65, 0), (65, .if_icmp .ne 22, 68, 87), (68, .aload_n 0, 69, 0), (69, .getfield 28, 72, 0), (72, .iload 4, 74, 0), (74, .iconst 1, 75, 0), (75, .iadd, 76, 0), (76, .iload 5, 78, 0), (78, .iadd, 79, 0), (79, .iaload, 80, 0), (80, .bipush 32, 82, 0), (82, .if_icmp .ne 5, 85, 87), (85, .iload_n 3, 86, 0), (86, .ireturn, 87, 0), (87, .iload 4, 89, 0), (89, .iconst 1, 90, 0), (90, .iadd, 91, 0), (91, .istore 4, 93, 0), (93, .aload_n 0, 94, 0), (94, .getfield 28, 97, 0), (97, .iload 4, 99, 0), (99, .iaload, 100, 0), (100, .bipush 32, 102, 0), (102, .if_icmp .eq 12, 105, 114), (105, .iload 4, 107, 0), (107, .iconst 1, 108, 0), (108, .iadd, 109, 0), (109, .istore 4, 111, 0), (111, .goto (-18), 114, 93), (114, .goto (-109), 117, 5), (117, .iconst (-1), 118, 0), (118, .ireturn, 119, 0)]
def sw_mo_wordAt : List (Nat × List (Int32 × Nat) × Nat) := []
set_option maxRecDepth 100000 in
theorem te_mo_wordAt : ∀ q ∈ tb_mo_wordAt, gk_eok (gk_M 194).2.1 q = true := by decide +kernel
set_option maxRecDepth 100000 in
theorem tx_mo_wordAt (oG : List (Nat × gk_G)) : ∀ q ∈ tb_mo_wordAt, gk_xok "DryPlacesModel" pl_mo (1, sw_mo_wordAt, oG) q := by
  have h : tb_mo_wordAt.all (fun q => gk_xokb "DryPlacesModel" pl_mo sw_mo_wordAt q) = true := by decide +kernel
  exact fun q hq => gk_xok_of (List.all_eq_true.mp h q hq)
theorem ok_mo_wordAt (oG : List (Nat × gk_G)) : gk_ok gk_M 194 tb_mo_wordAt pl_mo (1, sw_mo_wordAt, oG) := ⟨te_mo_wordAt, pk_mo, tx_mo_wordAt oG, rfl⟩
def tb_mo_reads : gk_T := [(0, .aload_n 0, 1, 0), (1, .aload_n 0, 2, 0), (2, .getfield 162, 5, 0), (5, .invokevirtual 165, 8, 0), (8, .bipush 32, 10, 0), (10, .if_icmp .eq 16, 13, 26), (13, .aload_n 0, 14, 0), (14, .aload_n 0, 15, 0), (15, .getfield 162, 18, 0), (18, .invokevirtual 165, 21, 0), (21, .bipush 10, 23, 0), (23, .if_icmp .ne 16, 26, 39), (26, .aload_n 0, 27, 0), (27, .aload_n 0, 28, 0), (28, .getfield 162, 31, 0), (31, .iconst 1, 32, 0), (32, .iadd, 33, 0), (33, .putfield 162, 36, 0), (36, .goto (-36), 39, 0), (39, .aload_n 0, 40, 0), (40, .aload_n 0, 41, 0), (41, .getfield 162, 44, 0), (44, .putfield 168, 47, 0), (47, .aload_n 0, 48, 0), (48, .iconst 1, 49, 0), (49, .putfield 171, 52, 0), (52, .aload_n 0, 53, 0), (53, .aload_n 0, 54, 0), (54, .getfield 162, 57, 0), (57, .invokevirtual 165, 60, 0), (60, .istore_n 1, 61, 0), (61, .iload_n 1, 62, 0), (62, .iconst (-1), 63, 0), (63, .if_icmp .ne 9, 66, 72), (66, .aload_n 0, 67, 0), (67, .iconst 0, 68, 0), (68, .putfield 171, 71, 0), (71, .return_, 72, 0), (72, .aload_n 0, 73, 0), (73, .aload_n 0, 74, 0), (74, .getfield 162, 77, 0), (77, .iconst 1, 78, 0), (78, .iadd, 79, 0), (79, .putfield 162, 82, 0), (82, .aload_n 0, 83, 0), (83, .iload_n 1, 84, 0), (84, .putfield 174, 87, 0), (87, .aload_n 0, 88, 0), (88, .iload_n 1, 89, 0), (89, .invokevirtual 177, 92, 0), (92, .ifCond .eq 63, 95, 155), (95, .aload_n 0, 96, 0), (96, .aload_n 0, 97, 0), (97, .aload_n 0, 98, 0), (98, .getfield 162, 101, 0), (101, .invokevirtual 165, 104, 0), (104, .invokevirtual 177, 107, 0), (107, .ifCond .eq 16, 110, 123), (110, .aload_n 0, 111, 0), (111, .aload_n 0, 112, 0), (112, .getfield 162, 115, 0), (115, .iconst 1, 116, 0), (116, .iadd, 117, 0), (117, .putfield 162, 120, 0), (120, .goto (-25), 123, 95), (123, .aload_n 0, 124, 0), (124, .aload_n 0, 125, 0), (125, .aload_n 0, 126, 0), (126, .getfield 168, 129, 0), (129, .aload_n 0, 130, 0), (130, .getfield 162, 133, 0), (133, .invokevirtual 180, 136, 0), (136, .putfield 174, 139, 0), (139, .aload_n 0, 140, 0), (140, .getfield 174, 143, 0), (143, .iconst (-1), 144, 0), (144, .if_icmp .eq 129, 147, 273), (147, .aload_n 0, 148, 0), (148, .iconst 2, 149, 0), (149, .putfield 171, 152, 0), (152, .goto 121, 155, 273), (155, .aload_n 0, 156, 0), (156, .iload_n 1, 157, 0), (157, .invokevirtual 183, 160, 0), (160, .ifCond .eq 100, 163, 260), (163, .aload_n 0, 164, 0), (164, .iload_n 1, 165, 0), (165, .bipush 48, 167, 0), (167, .isub, 168, 0), (168, .putfield 174, 171, 0), (171, .aload_n 0, 172, 0), (172, .aload_n 0, 173, 0), (173, .aload_n 0, 174, 0), (174, .getfield 162, 177, 0), (177, .invokevirtual 165, 180, 0), (180, .invokevirtual 183, 183, 0), (183, .ifCond .eq 56, 186, 239), (186, .aload_n 0, 187, 0), (187, .aload_n 0, 188, 0), (188, .getfield 174, 191, 0), (191, .sipush 10000, 194, 0), (194, .if_icmp .ge 25, 197, 219), (197, .bipush 10, 199, 0), (199, .aload_n 0, 200, 0), (200, .getfield 174, 203, 0), (203, .imul, 204, 0), (204, .aload_n 0, 205, 0), (205, .aload_n 0, 206, 0), (206, .getfield 162, 209, 0), (209, .invokevirtual 165, 212, 0), (212, .iadd, 213, 0), (213, .bipush 48, 215, 0), (215, .isub, 216, 0), (216, .goto 7, 219, 223), (219, .aload_n 0, 220, 0), (220, .getfield 174, 223, 0), (223, .putfield 174, 226, 0), (226, .aload_n 0, 227, 0), (227, .aload_n 0, 228, 0), (228, .getfield 162, 231, 0), (231, .iconst 1, 232, 0), (232, .iadd, 233, 0), (233, .putfield 162, 236, 0), (236, .goto (-65), 239, 171), (239, .aload_n 0, 240, 0), (240, .getfield 162, 243, 0), (243, .aload_n 0, 244, 0), (244, .getfield 168, 247, 0), (247, .isub, 248, 0), (248, .iconst 5, 249, 0), (249, .if_icmp .ge 24, 252, 273), (252, .aload_n 0, 253, 0), (253, .iconst 3, 254, 0), (254, .putfield 171, 257, 0), (257, .goto 16, 260, 273), (260, .aload_n 0, 261, 0), (261, .iload_n 1, 262, 0), (262, .invokevirtual 186, 265, 0), (265, .ifCond .eq 8, 268, 273), (268, .aload_n 0, 269, 0), (269, .iconst 4, 270, 0), (270, .putfield 171, 273, 0), (273, .return_, 274, 0)]
def sw_mo_reads : List (Nat × List (Int32 × Nat) × Nat) := []
set_option maxRecDepth 100000 in
theorem te_mo_reads : ∀ q ∈ tb_mo_reads, gk_eok (gk_M 195).2.1 q = true := by decide +kernel
set_option maxRecDepth 100000 in
theorem tx_mo_reads (oG : List (Nat × gk_G)) : ∀ q ∈ tb_mo_reads, gk_xok "DryPlacesModel" pl_mo (0, sw_mo_reads, oG) q := by
  have h : tb_mo_reads.all (fun q => gk_xokb "DryPlacesModel" pl_mo sw_mo_reads q) = true := by decide +kernel
  exact fun q hq => gk_xok_of (List.all_eq_true.mp h q hq)
theorem ok_mo_reads (oG : List (Nat × gk_G)) : gk_ok gk_M 195 tb_mo_reads pl_mo (0, sw_mo_reads, oG) := ⟨te_mo_reads, pk_mo, tx_mo_reads oG, rfl⟩
def tb_mo_errs : gk_T := [(0, .aload_n 0, 1, 0), (1, .iload_n 1, 2, 0), (2, .putfield 189, 5, 0), (5, .aload_n 0, 6, 0), (6, .aload_n 0, 7, 0), (7, .getfield 168, 10, 0), (10, .putfield 192, 13, 0), (13, .iconst (-1), 14, 0), (14, .ireturn, 15, 0)]
def sw_mo_errs : List (Nat × List (Int32 × Nat) × Nat) := []
set_option maxRecDepth 100000 in
theorem te_mo_errs : ∀ q ∈ tb_mo_errs, gk_eok (gk_M 196).2.1 q = true := by decide +kernel
set_option maxRecDepth 100000 in
theorem tx_mo_errs (oG : List (Nat × gk_G)) : ∀ q ∈ tb_mo_errs, gk_xok "DryPlacesModel" pl_mo (1, sw_mo_errs, oG) q := by
  have h : tb_mo_errs.all (fun q => gk_xokb "DryPlacesModel" pl_mo sw_mo_errs q) = true := by decide +kernel
  exact fun q hq => gk_xok_of (List.all_eq_true.mp h q hq)
theorem ok_mo_errs (oG : List (Nat × gk_G)) : gk_ok gk_M 196 tb_mo_errs pl_mo (1, sw_mo_errs, oG) := ⟨te_mo_errs, pk_mo, tx_mo_errs oG, rfl⟩
def tb_mo_isWord : gk_T := [(0, .aload_n 0, 1, 0), (1, .getfield 171, 4, 0), (4, .iconst 2, 5, 0), (5, .if_icmp .ne 15, 8, 20), (8, .aload_n 0, 9, 0), (9, .getfield 174, 12, 0), (12, .iload_n 1, 13, 0), (13, .if_icmp .ne 7, 16, 20), (16, .iconst 1, 17, 0), (17, .goto 4, 20, 21), (20, .iconst 0, 21, 0), (21, .ireturn, 22, 0)]
def sw_mo_isWord : List (Nat × List (Int32 × Nat) × Nat) := []
set_option maxRecDepth 100000 in
theorem te_mo_isWord : ∀ q ∈ tb_mo_isWord, gk_eok (gk_M 197).2.1 q = true := by decide +kernel
set_option maxRecDepth 100000 in
theorem tx_mo_isWord (oG : List (Nat × gk_G)) : ∀ q ∈ tb_mo_isWord, gk_xok "DryPlacesModel" pl_mo (3, sw_mo_isWord, oG) q := by
  have h : tb_mo_isWord.all (fun q => gk_xokb "DryPlacesModel" pl_mo sw_mo_isWord q) = true := by decide +kernel
  exact fun q hq => gk_xok_of (List.all_eq_true.mp h q hq)
theorem ok_mo_isWord (oG : List (Nat × gk_G)) : gk_ok gk_M 197 tb_mo_isWord pl_mo (3, sw_mo_isWord, oG) := ⟨te_mo_isWord, pk_mo, tx_mo_isWord oG, rfl⟩
def tb_mo_isSign : gk_T := [(0, .aload_n 0, 1, 0), (1, .getfield 171, 4, 0), (4, .iconst 4, 5, 0), (5, .if_icmp .ne 15, 8, 20), (8, .aload_n 0, 9, 0), (9, .getfield 174, 12, 0), (12, .iload_n 1, 13, 0), (13, .if_icmp .ne 7, 16, 20), (16, .iconst 1, 17, 0), (17, .goto 4, 20, 21), (20, .iconst 0, 21, 0), (21, .ireturn, 22, 0)]
def sw_mo_isSign : List (Nat × List (Int32 × Nat) × Nat) := []
set_option maxRecDepth 100000 in
theorem te_mo_isSign : ∀ q ∈ tb_mo_isSign, gk_eok (gk_M 198).2.1 q = true := by decide +kernel
set_option maxRecDepth 100000 in
theorem tx_mo_isSign (oG : List (Nat × gk_G)) : ∀ q ∈ tb_mo_isSign, gk_xok "DryPlacesModel" pl_mo (3, sw_mo_isSign, oG) q := by
  have h : tb_mo_isSign.all (fun q => gk_xokb "DryPlacesModel" pl_mo sw_mo_isSign q) = true := by decide +kernel
  exact fun q hq => gk_xok_of (List.all_eq_true.mp h q hq)
theorem ok_mo_isSign (oG : List (Nat × gk_G)) : gk_ok gk_M 198 tb_mo_isSign pl_mo (3, sw_mo_isSign, oG) := ⟨te_mo_isSign, pk_mo, tx_mo_isSign oG, rfl⟩
def tb_mo_emits : gk_T := [(0, .aload_n 0, 1, 0), (1, .getfield 46, 4, 0), (4, .sipush 800, 7, 0), (7, .aload_n 0, 8, 0), (8, .getfield 195, 11, 0), (11, .iadd, 12, 0), (12, .iload_n 1, 13, 0), (13, .iastore, 14, 0), (14, .aload_n 0, 15, 0), (15, .getfield 49, 18, 0), (18, .sipush 800, 21, 0), (21, .aload_n 0, 22, 0), (22, .getfield 195, 25, 0), (25, .iadd, 26, 0), (26, .iload_n 2, 27, 0), (27, .iastore, 28, 0), (28, .aload_n 0, 29, 0), (29, .aload_n 0, 30, 0), (30, .getfield 195, 33, 0), (33, .iconst 1, 34, 0), (34, .iadd, 35, 0), (35, .putfield 195, 38, 0), (38, .return_, 39, 0)]
def sw_mo_emits : List (Nat × List (Int32 × Nat) × Nat) := []
set_option maxRecDepth 100000 in
theorem te_mo_emits : ∀ q ∈ tb_mo_emits, gk_eok (gk_M 199).2.1 q = true := by decide +kernel
set_option maxRecDepth 100000 in
theorem tx_mo_emits (oG : List (Nat × gk_G)) : ∀ q ∈ tb_mo_emits, gk_xok "DryPlacesModel" pl_mo (0, sw_mo_emits, oG) q := by
  have h : tb_mo_emits.all (fun q => gk_xokb "DryPlacesModel" pl_mo sw_mo_emits q) = true := by decide +kernel
  exact fun q hq => gk_xok_of (List.all_eq_true.mp h q hq)
theorem ok_mo_emits (oG : List (Nat × gk_G)) : gk_ok gk_M 199 tb_mo_emits pl_mo (0, sw_mo_emits, oG) := ⟨te_mo_emits, pk_mo, tx_mo_emits oG, rfl⟩
def tb_mo_canAsk : gk_T := [(0, .aload_n 0, 1, 0), (1, .iload_n 1, 2, 0), (2, .bipush 7, 4, 0), (4, .bipush 15, 6, 0), (6, .invokevirtual 125, 9, 0), (9, .ireturn, 10, 0)]
def sw_mo_canAsk : List (Nat × List (Int32 × Nat) × Nat) := []
set_option maxRecDepth 100000 in
theorem te_mo_canAsk : ∀ q ∈ tb_mo_canAsk, gk_eok (gk_M 200).2.1 q = true := by decide +kernel
set_option maxRecDepth 100000 in
theorem tx_mo_canAsk (oG : List (Nat × gk_G)) : ∀ q ∈ tb_mo_canAsk, gk_xok "DryPlacesModel" pl_mo (3, sw_mo_canAsk, oG) q := by
  have h : tb_mo_canAsk.all (fun q => gk_xokb "DryPlacesModel" pl_mo sw_mo_canAsk q) = true := by decide +kernel
  exact fun q hq => gk_xok_of (List.all_eq_true.mp h q hq)
theorem ok_mo_canAsk (oG : List (Nat × gk_G)) : gk_ok gk_M 200 tb_mo_canAsk pl_mo (3, sw_mo_canAsk, oG) := ⟨te_mo_canAsk, pk_mo, tx_mo_canAsk oG, rfl⟩
def tb_mo_readUnit : gk_T := [(0, .aload_n 0, 1, 0), (1, .getfield 171, 4, 0), (4, .iconst 2, 5, 0), (5, .if_icmp .ne 18, 8, 23), (8, .aload_n 0, 9, 0), (9, .aload_n 0, 10, 0), (10, .getfield 174, 13, 0), (13, .invokevirtual 198, 16, 0), (16, .ifCond .eq 7, 19, 23), (19, .iconst 1, 20, 0), (20, .goto 4, 23, 24), (23, .iconst 0, 24, 0), (24, .istore_n 1, 25, 0), (25, .iload_n 1, 26, 0), (26, .ifCond .ne 17, 29, 43), (29, .aload_n 0, 30, 0), (30, .getfield 171, 33, 0), (33, .iconst 3, 34, 0), (34, .if_icmp .eq 9, 37, 43), (37, .aload_n 0, 38, 0), (38, .iconst 1, 39, 0), (39, .invokevirtual 201, 42, 0), (42, .ireturn, 43, 0), (43, .aload_n 0, 44, 0), (44, .iload_n 1, 45, 0), (45, .ifCond .eq 7, 48, 52), (48, .iconst 1, 49, 0), (49, .goto 4, 52, 53), (52, .iconst 0, 53, 0), (53, .iload_n 1, 54, 0), (54, .ifCond .eq 13, 57, 67), (57, .aload_n 0, 58, 0), (58, .getfield 174, 61, 0), (61, .bipush 7, 63, 0), (63, .isub, 64, 0), (64, .goto 7, 67, 71), (67, .aload_n 0, 68, 0), (68, .getfield 174, 71, 0), (71, .invokevirtual 204, 74, 0), (74, .aload_n 0, 75, 0), (75, .invokevirtual 208, 78, 0), (78, .iconst 0, 79, 0), (79, .ireturn, 80, 0)]
def sw_mo_readUnit : List (Nat × List (Int32 × Nat) × Nat) := []
set_option maxRecDepth 100000 in
theorem te_mo_readUnit : ∀ q ∈ tb_mo_readUnit, gk_eok (gk_M 201).2.1 q = true := by decide +kernel
set_option maxRecDepth 100000 in
theorem tx_mo_readUnit (oG : List (Nat × gk_G)) : ∀ q ∈ tb_mo_readUnit, gk_xok "DryPlacesModel" pl_mo (1, sw_mo_readUnit, oG) q := by
  have h : tb_mo_readUnit.all (fun q => gk_xokb "DryPlacesModel" pl_mo sw_mo_readUnit q) = true := by decide +kernel
  exact fun q hq => gk_xok_of (List.all_eq_true.mp h q hq)
theorem ok_mo_readUnit (oG : List (Nat × gk_G)) : gk_ok gk_M 201 tb_mo_readUnit pl_mo (1, sw_mo_readUnit, oG) := ⟨te_mo_readUnit, pk_mo, tx_mo_readUnit oG, rfl⟩
def tb_mo_readProduct : gk_T := [(0, .aload_n 0, 1, 0), (1, .invokevirtual 211, 4, 0), (4, .iconst (-1), 5, 0), (5, .if_icmp .ne 5, 8, 10), (8, .iconst (-1), 9, 0), (9, .ireturn, 10, 0), (10, .aload_n 0, 11, 0), (11, .bipush 42, 13, 0), (13, .invokevirtual 215, 16, 0), (16, .ifCond .ne 12, 19, 28), (19, .aload_n 0, 20, 0), (20, .bipush 47, 22, 0), (22, .invokevirtual 215, 25, 0), (25, .ifCond .eq 76, 28, 101), (28, .aload_n 0, 29, 0), (29, .bipush 42, 31, 0), (31, .invokevirtual 215, 34, 0), (34, .istore_n 1, 35, 0), (35, .aload_n 0, 36, 0), (36, .invokevirtual 208, 39, 0), (39, .iload_n 1, 40, 0), (40, .ifCond .ne 17, 43, 57), (43, .aload_n 0, 44, 0), (44, .getfield 171, 47, 0), (47, .iconst 3, 48, 0), (48, .if_icmp .eq 9, 51, 57), (51, .aload_n 0, 52, 0), (52, .iconst 1, 53, 0), (53, .invokevirtual 201, 56, 0), (56, .ireturn, 57, 0), (57, .iload_n 1, 58, 0), (58, .ifCond .ne 16, 61, 74), (61, .aload_n 0, 62, 0), (62, .getfield 174, 65, 0), (65, .ifCond .ne 9, 68, 74), (68, .aload_n 0, 69, 0), (69, .iconst 2, 70, 0), (70, .invokevirtual 201, 73, 0), (73, .ireturn, 74, 0), (74, .aload_n 0, 75, 0), (75, .invokevirtual 211, 78, 0), (78, .iconst (-1), 79, 0), (79, .if_icmp .ne 5, 82, 84), (82, .iconst (-1), 83, 0), (83, .ireturn, 84, 0), (84, .aload_n 0, 85, 0), (85, .iload_n 1, 86, 0), (86, .ifCond .eq 7, 89, 93), (89, .iconst 4, 90, 0), (90, .goto 4, 93, 94), (93, .iconst 5, 94, 0), (94, .iconst 0, 95, 0), (95, .invokevirtual 204, 98, 0), (98, .goto (-88), 101, 10), (101, .iconst 0, 102, 0), (102, .ireturn, 103, 0)]
def sw_mo_readProduct : List (Nat × List (Int32 × Nat) × Nat) := []
set_option maxRecDepth 100000 in
theorem te_mo_readProduct : ∀ q ∈ tb_mo_readProduct, gk_eok (gk_M 202).2.1 q = true := by decide +kernel
set_option maxRecDepth 100000 in
theorem tx_mo_readProduct (oG : List (Nat × gk_G)) : ∀ q ∈ tb_mo_readProduct, gk_xok "DryPlacesModel" pl_mo (1, sw_mo_readProduct, oG) q := by
  have h : tb_mo_readProduct.all (fun q => gk_xokb "DryPlacesModel" pl_mo sw_mo_readProduct q) = true := by decide +kernel
  exact fun q hq => gk_xok_of (List.all_eq_true.mp h q hq)
theorem ok_mo_readProduct (oG : List (Nat × gk_G)) : gk_ok gk_M 202 tb_mo_readProduct pl_mo (1, sw_mo_readProduct, oG) := ⟨te_mo_readProduct, pk_mo, tx_mo_readProduct oG, rfl⟩
def tb_mo_readSum : gk_T := [(0, .aload_n 0, 1, 0), (1, .invokevirtual 218, 4, 0), (4, .iconst (-1), 5, 0), (5, .if_icmp .ne 5, 8, 10), (8, .iconst (-1), 9, 0), (9, .ireturn, 10, 0), (10, .aload_n 0, 11, 0), (11, .bipush 43, 13, 0), (13, .invokevirtual 215, 16, 0), (16, .ifCond .ne 12, 19, 28), (19, .aload_n 0, 20, 0), (20, .bipush 45, 22, 0), (22, .invokevirtual 215, 25, 0), (25, .ifCond .eq 41, 28, 66), (28, .aload_n 0, 29, 0), (29, .getfield 174, 32, 0), (32, .bipush 43, 34, 0), (34, .if_icmp .ne 7, 37, 41), (37, .iconst 2, 38, 0), (38, .goto 4, 41, 42), (41, .iconst 3, 42, 0), (42, .istore_n 1, 43, 0), (43, .aload_n 0, 44, 0), (44, .invokevirtual 208, 47, 0), (47, .aload_n 0, 48, 0), (48, .invokevirtual 218, 51, 0), (51, .iconst (-1), 52, 0), (52, .if_icmp .ne 5, 55, 57), (55, .iconst (-1), 56, 0), (56, .ireturn, 57, 0), (57, .aload_n 0, 58, 0), (58, .iload_n 1, 59, 0), (59, .iconst 0, 60, 0), (60, .invokevirtual 204, 63, 0), (63, .goto (-53), 66, 10), (66, .iconst 0, 67, 0), (67, .ireturn, 68, 0)]
def sw_mo_readSum : List (Nat × List (Int32 × Nat) × Nat) := []
set_option maxRecDepth 100000 in
theorem te_mo_readSum : ∀ q ∈ tb_mo_readSum, gk_eok (gk_M 203).2.1 q = true := by decide +kernel
set_option maxRecDepth 100000 in
theorem tx_mo_readSum (oG : List (Nat × gk_G)) : ∀ q ∈ tb_mo_readSum, gk_xok "DryPlacesModel" pl_mo (1, sw_mo_readSum, oG) q := by
  have h : tb_mo_readSum.all (fun q => gk_xokb "DryPlacesModel" pl_mo sw_mo_readSum q) = true := by decide +kernel
  exact fun q hq => gk_xok_of (List.all_eq_true.mp h q hq)
theorem ok_mo_readSum (oG : List (Nat × gk_G)) : gk_ok gk_M 203 tb_mo_readSum pl_mo (1, sw_mo_readSum, oG) := ⟨te_mo_readSum, pk_mo, tx_mo_readSum oG, rfl⟩
def tb_mo_readCompared : gk_T := [(0, .aload_n 0, 1, 0), (1, .invokevirtual 221, 4, 0), (4, .iconst (-1), 5, 0), (5, .if_icmp .ne 5, 8, 10), (8, .iconst (-1), 9, 0), (9, .ireturn, 10, 0), (10, .aload_n 0, 11, 0), (11, .bipush 60, 13, 0), (13, .invokevirtual 215, 16, 0), (16, .ifCond .ne 27, 19, 43), (19, .aload_n 0, 20, 0), (20, .bipush 61, 22, 0), (22, .invokevirtual 215, 25, 0), (25, .ifCond .ne 18, 28, 43), (28, .aload_n 0, 29, 0), (29, .bipush 62, 31, 0), (31, .invokevirtual 215, 34, 0), (34, .ifCond .ne 9, 37, 43), (37, .aload_n 0, 38, 0), (38, .iconst 1, 39, 0), (39, .invokevirtual 201, 42, 0), (42, .ireturn, 43, 0), (43, .aload_n 0, 44, 0), (44, .getfield 174, 47, 0), (47, .bipush 60, 49, 0), (49, .if_icmp .ne 8, 52, 57), (52, .bipush 6, 54, 0), (54, .goto 19, 57, 73), (57, .aload_n 0, 58, 0), (58, .getfield 174, 61, 0), (61, .bipush 61, 63, 0), (63, .if_icmp .ne 8, 66, 71), (66, .bipush 7, 68, 0), (68, .goto 5, 71, 73), (71, .bipush 8, 73, 0), (73, .istore_n 1, 74, 0), (74, .aload_n 0, 75, 0), (75, .invokevirtual 208, 78, 0), (78, .aload_n 0, 79, 0), (79, .invokevirtual 221, 82, 0), (82, .iconst (-1), 83, 0), (83, .if_icmp .ne 5, 86, 88), (86, .iconst (-1), 87, 0), (87, .ireturn, 88, 0), (88, .aload_n 0, 89, 0), (89, .iload_n 1, 90, 0), (90, .iconst 0, 91, 0), (91, .invokevirtual 204, 94, 0), (94, .iconst 0, 95, 0), (95, .ireturn, 96, 0)]
def sw_mo_readCompared : List (Nat × List (Int32 × Nat) × Nat) := []
set_option maxRecDepth 100000 in
theorem te_mo_readCompared : ∀ q ∈ tb_mo_readCompared, gk_eok (gk_M 204).2.1 q = true := by decide +kernel
set_option maxRecDepth 100000 in
theorem tx_mo_readCompared (oG : List (Nat × gk_G)) : ∀ q ∈ tb_mo_readCompared, gk_xok "DryPlacesModel" pl_mo (1, sw_mo_readCompared, oG) q := by
  have h : tb_mo_readCompared.all (fun q => gk_xokb "DryPlacesModel" pl_mo sw_mo_readCompared q) = true := by decide +kernel
  exact fun q hq => gk_xok_of (List.all_eq_true.mp h q hq)
theorem ok_mo_readCompared (oG : List (Nat × gk_G)) : gk_ok gk_M 204 tb_mo_readCompared pl_mo (1, sw_mo_readCompared, oG) := ⟨te_mo_readCompared, pk_mo, tx_mo_readCompared oG, rfl⟩
def tb_mo_waits : gk_T := [(0, .aload_n 0, 1, 0), (1, .getfield 52, 4, 0), (4, .aload_n 0, 5, 0), (5, .getfield 224, 8, 0), (8, .iload_n 1, 9, 0), (9, .iastore, 10, 0), (10, .aload_n 0, 11, 0), (11, .aload_n 0, 12, 0), (12, .getfield 224, 15, 0), (15, .iconst 1, 16, 0), (16, .iadd, 17, 0), (17, .putfield 224, 20, 0), (20, .return_, 21, 0)]
def sw_mo_waits : List (Nat × List (Int32 × Nat) × Nat) := []
set_option maxRecDepth 100000 in
theorem te_mo_waits : ∀ q ∈ tb_mo_waits, gk_eok (gk_M 205).2.1 q = true := by decide +kernel
set_option maxRecDepth 100000 in
theorem tx_mo_waits (oG : List (Nat × gk_G)) : ∀ q ∈ tb_mo_waits, gk_xok "DryPlacesModel" pl_mo (0, sw_mo_waits, oG) q := by
  have h : tb_mo_waits.all (fun q => gk_xokb "DryPlacesModel" pl_mo sw_mo_waits q) = true := by decide +kernel
  exact fun q hq => gk_xok_of (List.all_eq_true.mp h q hq)
theorem ok_mo_waits (oG : List (Nat × gk_G)) : gk_ok gk_M 205 tb_mo_waits pl_mo (0, sw_mo_waits, oG) := ⟨te_mo_waits, pk_mo, tx_mo_waits oG, rfl⟩
def tb_mo_settles : gk_T := [(0, .aload_n 0, 1, 0), (1, .getfield 224, 4, 0), (4, .ifCond .le 53, 7, 57), (7, .aload_n 0, 8, 0), (8, .getfield 52, 11, 0), (11, .aload_n 0, 12, 0), (12, .getfield 224, 15, 0), (15, .iconst 1, 16, 0), (16, .isub, 17, 0), (17, .iaload, 18, 0), (18, .iload_n 1, 19, 0), (19, .if_icmp .ne 38, 22, 57), (22, .aload_n 0, 23, 0), (23, .aload_n 0, 24, 0), (24, .getfield 224, 27, 0), (27, .iconst 1, 28, 0), (28, .isub, 29, 0), (29, .putfield 224, 32, 0), (32, .aload_n 0, 33, 0), (33, .iload_n 1, 34, 0), (34, .iconst 0, 35, 0), (35, .invokevirtual 204, 38, 0), (38, .iload_n 1, 39, 0), (39, .bipush 9, 41, 0), (41, .if_icmp .ne (-41), 44, 0), (44, .aload_n 0, 45, 0), (45, .aload_n 0, 46, 0), (46, .getfield 227, 49, 0), (49, .iconst 1, 50, 0), (50, .isub, 51, 0), (51, .putfield 227, 54, 0), (54, .goto (-54), 57, 0), (57, .return_, 58, 0)]
def sw_mo_settles : List (Nat × List (Int32 × Nat) × Nat) := []
set_option maxRecDepth 100000 in
theorem te_mo_settles : ∀ q ∈ tb_mo_settles, gk_eok (gk_M 206).2.1 q = true := by decide +kernel
set_option maxRecDepth 100000 in
theorem tx_mo_settles (oG : List (Nat × gk_G)) : ∀ q ∈ tb_mo_settles, gk_xok "DryPlacesModel" pl_mo (0, sw_mo_settles, oG) q := by
  have h : tb_mo_settles.all (fun q => gk_xokb "DryPlacesModel" pl_mo sw_mo_settles q) = true := by decide +kernel
  exact fun q hq => gk_xok_of (List.all_eq_true.mp h q hq)
theorem ok_mo_settles (oG : List (Nat × gk_G)) : gk_ok gk_M 206 tb_mo_settles pl_mo (0, sw_mo_settles, oG) := ⟨te_mo_settles, pk_mo, tx_mo_settles oG, rfl⟩
def tb_mo_readAny : gk_T := [(0, .iconst 0, 1, 0), (1, .istore_n 1, 2, 0), (2, .aload_n 0, 3, 0), (3, .iconst 0, 4, 0), (4, .putfield 224, 7, 0), (7, .iconst 1, 8, 0), (8, .istore_n 2, 9, 0), (9, .iload_n 2, 10, 0), (10, .ifCond .eq 99, 13, 109), (13, .aload_n 0, 14, 0), (14, .bipush 6, 16, 0), (16, .invokevirtual 230, 19, 0), (19, .istore_n 3, 20, 0), (20, .iload_n 3, 21, 0), (21, .ifCond .ne 12, 24, 33), (24, .aload_n 0, 25, 0), (25, .bipush 40, 27, 0), (27, .invokevirtual 215, 30, 0), (30, .ifCond .eq 58, 33, 88), (33, .aload_n 0, 34, 0), (34, .getfield 227, 37, 0), (37, .bipush 8, 39, 0), (39, .if_icmp .ne 9, 42, 48), (42, .aload_n 0, 43, 0), (43, .iconst 3, 44, 0), (44, .invokevirtual 201, 47, 0), (47, .ireturn, 48, 0), (48, .aload_n 0, 49, 0), (49, .aload_n 0, 50, 0), (50, .getfield 227, 53, 0), (53, .iconst 1, 54, 0), (54, .iadd, 55, 0), (55, .putfield 227, 58, 0), (58, .iload_n 3, 59, 0), (59, .ifCond .ne 7, 62, 66), (62, .iload_n 1, 63, 0), (63, .iconst 1, 64, 0), (64, .iadd, 65, 0), (65, .istore_n 1, 66, 0), (66, .aload_n 0, 67, 0), (67, .iload_n 3, 68, 0), (68, .ifCond .eq 8, 71, 76), (71, .bipush 9, 73, 0), (73, .goto 5, 76, 78), (76, .bipush 12, 78, 0), (78, .invokevirtual 233, 81, 0), (81, .aload_n 0, 82, 0), (82, .invokevirtual 208, 85, 0), (85, .goto (-76), 88, 9), (88, .aload_n 0, 89, 0), (89, .invokevirtual 236, 92, 0), (92, .iconst (-1), 93, 0), (93, .if_icmp .ne 5, 96, 98), (96, .iconst (-1), 97, 0), (97, .ireturn, 98, 0), (98, .aload_n 0, 99, 0), (99, .bipush 9, 101, 0), (101, .invokevirtual 239, 104, 0), (104, .iconst 0, 105, 0), (105, .istore_n 2, 106, 0), (106, .goto (-97), 109, 9), (109, .aload_n 0, 110, 0), (110, .iconst 5, 111, 0), (111, .invokevirtual 230, 114, 0), (114, .ifCond .eq 24, 117, 138), (117, .aload_n 0, 118, 0), (118, .bipush 10, 120, 0), (120, .invokevirtual 239, 123, 0), (123, .aload_n 0, 124, 0), (124, .bipush 10, 126, 0), (126, .invokevirtual 233, 129, 0), (129, .aload_n 0, 130, 0), (130, .invokevirtual 208, 133, 0), (133, .iconst 1, 134, 0), (134, .istore_n 2, 135, 0), (135, .goto (-126), 138, 9), (138, .aload_n 0, 139, 0), (139, .iconst 4, 140, 0), (140, .invokevirtual 230, 143, 0), (143, .ifCond .eq 30, 146, 173), (146, .aload_n 0, 147, 0), (147, .bipush 10, 149, 0), (149, .invokevirtual 239, 152, 0), (152, .aload_n 0, 153, 0), (153, .bipush 11, 155, 0), (155, .invokevirtual 239, 158, 0), (158, .aload_n 0, 159, 0), (159, .bipush 11, 161, 0), (161, .invokevirtual 233, 164, 0), (164, .aload_n 0, 165, 0), (165, .invokevirtual 208, 168, 0), (168, .iconst 1, 169, 0), (169, .istore_n 2, 170, 0), (170, .goto (-161), 173, 9), (173, .aload_n 0, 174, 0), (174, .bipush 10, 176, 0), (176, .invokevirtual 239, 179, 0), (179, .aload_n 0, 180, 0), (180, .bipush 11, 182, 0), (182, .invokevirtual 239, 185, 0), (185, .iload_n 1, 186, 0), (186, .ifCond .ne 5, 189, 191), (189, .iconst 0, 190, 0), (190, .ireturn, 191, 0), (191, .aload_n 0, 192, 0), (192, .bipush 41, 194, 0), (194, .invokevirtual 215, 197, 0), (197, .ifCond .ne 9, 200, 206), (200, .aload_n 0, 201, 0), (201, .iconst 1, 202, 0), (202, .invokevirtual 201, 205, 0), (205, .ireturn, 206, 0), (206, .aload_n 0, 207, 0), (207, .aload_n 0, 208, 0), (208, .getfield 224, 211, 0), (211, .iconst 1, 212, 0), (212, .isub, 213, 0), (213, .putfield 224, 216, 0), (216, .iload_n 1, 217, 0), (217, .iconst 1, 218, 0), (218, .isub, 219, 0), (219, .istore_n 1, 220, 0), (220, .aload_n 0, 221, 0), (221, .aload_n 0, 222, 0), (222, .getfield 227, 225, 0), (225, .iconst 1, 226, 0), (226, .isub, 227, 0), (227, .putfield 227, 230, 0), (230, .aload_n 0, 231, 0), (231, .bipush 9, 233, 0), (233, .invokevirtual 239, 236, 0), (236, .aload_n 0, 237, 0), (237, .invokevirtual 208, 240, 0), (240, .goto (-231), 243, 9)]
def sw_mo_readAny : List (Nat × List (Int32 × Nat) × Nat) := []
set_option maxRecDepth 100000 in
theorem te_mo_readAny : ∀ q ∈ tb_mo_readAny, gk_eok (gk_M 207).2.1 q = true := by decide +kernel
set_option maxRecDepth 100000 in
theorem tx_mo_readAny (oG : List (Nat × gk_G)) : ∀ q ∈ tb_mo_readAny, gk_xok "DryPlacesModel" pl_mo (1, sw_mo_readAny, oG) q := by
  have h : tb_mo_readAny.all (fun q => gk_xokb "DryPlacesModel" pl_mo sw_mo_readAny q) = true := by decide +kernel
  exact fun q hq => gk_xok_of (List.all_eq_true.mp h q hq)
theorem ok_mo_readAny (oG : List (Nat × gk_G)) : gk_ok gk_M 207 tb_mo_readAny pl_mo (1, sw_mo_readAny, oG) := ⟨te_mo_readAny, pk_mo, tx_mo_readAny oG, rfl⟩
def tb_mo_isLineWord : gk_T := [(0, .aload_n 0, 1, 0), (1, .getfield 171, 4, 0), (4, .iconst 2, 5, 0), (5, .if_icmp .ne 20, 8, 25), (8, .aload_n 0, 9, 0), (9, .aload_n 0, 10, 0), (10, .getfield 174, 13, 0), (13, .iconst 0, 14, 0), (14, .iconst 2, 15, 0), (15, .invokevirtual 125, 18, 0), (18, .ifCond .eq 7, 21, 25), (21, .iconst 1, 22, 0), (22, .goto 4, 25, 26), (25, .iconst 0, 26, 0), (26, .ireturn, 27, 0)]
def sw_mo_isLineWord : List (Nat × List (Int32 × Nat) × Nat) := []
set_option maxRecDepth 100000 in
theorem te_mo_isLineWord : ∀ q ∈ tb_mo_isLineWord, gk_eok (gk_M 208).2.1 q = true := by decide +kernel
set_option maxRecDepth 100000 in
theorem tx_mo_isLineWord (oG : List (Nat × gk_G)) : ∀ q ∈ tb_mo_isLineWord, gk_xok "DryPlacesModel" pl_mo (3, sw_mo_isLineWord, oG) q := by
  have h : tb_mo_isLineWord.all (fun q => gk_xokb "DryPlacesModel" pl_mo sw_mo_isLineWord q) = true := by decide +kernel
  exact fun q hq => gk_xok_of (List.all_eq_true.mp h q hq)
theorem ok_mo_isLineWord (oG : List (Nat × gk_G)) : gk_ok gk_M 208 tb_mo_isLineWord pl_mo (3, sw_mo_isLineWord, oG) := ⟨te_mo_isLineWord, pk_mo, tx_mo_isLineWord oG, rfl⟩
def tb_mo_readLaw : gk_T := [(0, .iconst 0, 1, 0), (1, .istore_n 1, 2, 0), (2, .aload_n 0, 3, 0), (3, .invokevirtual 242, 6, 0), (6, .ifCond .eq 122, 9, 128), (9, .iload_n 1, 10, 0), (10, .bipush 16, 12, 0), (12, .if_icmp .ne 9, 15, 21), (15, .aload_n 0, 16, 0), (16, .iconst 3, 17, 0), (17, .invokevirtual 201, 20, 0), (20, .ireturn, 21, 0), (21, .bipush 32, 23, 0), (23, .iload_n 1, 24, 0), (24, .iadd, 25, 0), (25, .istore_n 2, 26, 0), (26, .aload_n 0, 27, 0), (27, .getfield 34, 30, 0), (30, .iload_n 2, 31, 0), (31, .aload_n 0, 32, 0), (32, .getfield 174, 35, 0), (35, .iastore, 36, 0), (36, .aload_n 0, 37, 0), (37, .invokevirtual 208, 40, 0), (40, .aload_n 0, 41, 0), (41, .getfield 37, 44, 0), (44, .iload_n 2, 45, 0), (45, .aload_n 0, 46, 0), (46, .getfield 195, 49, 0), (49, .iastore, 50, 0), (50, .aload_n 0, 51, 0), (51, .invokevirtual 221, 54, 0), (54, .iconst (-1), 55, 0), (55, .if_icmp .ne 5, 58, 60), (58, .iconst (-1), 59, 0), (59, .ireturn, 60, 0), (60, .aload_n 0, 61, 0), (61, .getfield 40, 64, 0), (64, .iload_n 2, 65, 0), (65, .aload_n 0, 66, 0), (66, .getfield 195, 69, 0), (69, .iastore, 70, 0), (70, .aload_n 0, 71, 0), (71, .iconst 3, 72, 0), (72, .invokevirtual 230, 75, 0), (75, .ifCond .eq 17, 78, 92), (78, .aload_n 0, 79, 0), (79, .invokevirtual 208, 82, 0), (82, .aload_n 0, 83, 0), (83, .invokevirtual 246, 86, 0), (86, .iconst (-1), 87, 0), (87, .if_icmp .ne 5, 90, 92), (90, .iconst (-1), 91, 0), (91, .ireturn, 92, 0), (92, .aload_n 0, 93, 0), (93, .getfield 43, 96, 0), (96, .iload_n 2, 97, 0), (97, .aload_n 0, 98, 0), (98, .getfield 195, 101, 0), (101, .iastore, 102, 0), (102, .aload_n 0, 103, 0), (103, .bipush 59, 105, 0), (105, .invokevirtual 215, 108, 0), (108, .ifCond .ne 9, 111, 117), (111, .aload_n 0, 112, 0), (112, .iconst 1, 113, 0), (113, .invokevirtual 201, 116, 0), (116, .ireturn, 117, 0), (117, .aload_n 0, 118, 0), (118, .invokevirtual 208, 121, 0), (121, .iload_n 1, 122, 0), (122, .iconst 1, 123, 0), (123, .iadd, 124, 0), (124, .istore_n 1, 125, 0), (125, .goto (-123), 128, 2), (128, .aload_n 0, 129, 0), (129, .getfield 171, 132, 0), (132, .ifCond .ne 7, 135, 139), (135, .iload_n 1, 136, 0), (136, .goto 8, 139, 144), (139, .aload_n 0, 140, 0), (140, .iconst 1, 141, 0), (141, .invokevirtual 201, 144, 0), (144, .ireturn, 145, 0)]
def sw_mo_readLaw : List (Nat × List (Int32 × Nat) × Nat) := []
set_option maxRecDepth 100000 in
theorem te_mo_readLaw : ∀ q ∈ tb_mo_readLaw, gk_eok (gk_M 209).2.1 q = true := by decide +kernel
set_option maxRecDepth 100000 in
theorem tx_mo_readLaw (oG : List (Nat × gk_G)) : ∀ q ∈ tb_mo_readLaw, gk_xok "DryPlacesModel" pl_mo (1, sw_mo_readLaw, oG) q := by
  have h : tb_mo_readLaw.all (fun q => gk_xokb "DryPlacesModel" pl_mo sw_mo_readLaw q) = true := by decide +kernel
  exact fun q hq => gk_xok_of (List.all_eq_true.mp h q hq)
theorem ok_mo_readLaw (oG : List (Nat × gk_G)) : gk_ok gk_M 209 tb_mo_readLaw pl_mo (1, sw_mo_readLaw, oG) := ⟨te_mo_readLaw, pk_mo, tx_mo_readLaw oG, rfl⟩
def tb_mo_takesLaw : gk_T := [(0, .iconst 0, 1, 0), (1, .istore_n 2, 2, 0), (2, .iload_n 2, 3, 0), (3, .iload_n 1, 4, 0), (4, .if_icmp .ge 101, 7, 105), (7, .aload_n 0, 8, 0), (8, .getfield 34, 11, 0), (11, .bipush 16, 13, 0), (13, .aload_n 0, 14, 0), (14, .getfield 249, 17, 0), (17, .imul, 18, 0), (18, .iload_n 2, 19, 0), (19, .iadd, 20, 0), (20, .aload_n 0, 21, 0), (21, .getfield 34, 24, 0), (24, .bipush 32, 26, 0), (26, .iload_n 2, 27, 0), (27, .iadd, 28, 0), (28, .iaload, 29, 0), (29, .iastore, 30, 0), (30, .aload_n 0, 31, 0), (31, .getfield 37, 34, 0), (34, .bipush 16, 36, 0), (36, .aload_n 0, 37, 0), (37, .getfield 249, 40, 0), (40, .imul, 41, 0), (41, .iload_n 2, 42, 0), (42, .iadd, 43, 0), (43, .aload_n 0, 44, 0), (44, .getfield 37, 47, 0), (47, .bipush 32, 49, 0), (49, .iload_n 2, 50, 0), (50, .iadd, 51, 0), (51, .iaload, 52, 0), (52, .iastore, 53, 0), (53, .aload_n 0, 54, 0), (54, .getfield 40, 57, 0), (57, .bipush 16, 59, 0), (59, .aload_n 0, 60, 0), (60, .getfield 249, 63, 0), (63, .imul, 64, 0), (64, .iload_n 2, 65, 0), (65, .iadd, 66, 0), (66, .aload_n 0, 67, 0), (67, .getfield 40, 70, 0), (70, .bipush 32, 72, 0), (72, .iload_n 2, 73, 0), (73, .iadd, 74, 0), (74, .iaload, 75, 0), (75, .iastore, 76, 0), (76, .aload_n 0, 77, 0), (77, .getfield 43, 80, 0), (80, .bipush 16, 82, 0), (82, .aload_n 0, 83, 0), (83, .getfield 249, 86, 0), (86, .imul, 87, 0), (87, .iload_n 2, 88, 0), (88, .iadd, 89, 0), (89, .aload_n 0, 90, 0), (90, .getfield 43, 93, 0), (93, .bipush 32, 95, 0), (95, .iload_n 2, 96, 0), (96, .iadd, 97, 0), (97, .iaload, 98, 0), (98, .iastore, 99, 0), (99, .iinc 2 1, 102, 0), (102, .goto (-100), 105, 2), (105, .iconst 0, 106, 0), (106, .istore_n 2, 107, 0), (107, .iload_n 2, 108, 0), (108, .aload_n 0, 109, 0), (109, .getfield 195, 112, 0), (112, .if_icmp .ge 59, 115, 171), (115, .aload_n 0, 116, 0), (116, .getfield 46, 119, 0), (119, .sipush 400, 122, 0), (122, .aload_n 0, 123, 0), (123, .getfield 249, 126, 0), (126, .imul, 127, 0), (127, .iload_n 2, 128, 0), (128, .iadd, 129, 0), (129, .aload_n 0, 130, 0), (130, .getfield 46, 133, 0), (133, .sipush 800, 136, 0), (136, .iload_n 2, 137, 0), (137, .iadd, 138, 0), (138, .iaload, 139, 0), (139, .iastore, 140, 0), (140, .aload_n 0, 141, 0), (141, .getfield 49, 144, 0), (144, .sipush 400, 147, 0), (147, .aload_n 0, 148, 0), (148, .getfield 249, 151, 0), (151, .imul, 152, 0), (152, .iload_n 2, 153, 0), (153, .iadd, 154, 0), (154, .aload_n 0, 155, 0), (155, .getfield 49, 158, 0), (158, .sipush 800, 161, 0), (161, .iload_n 2, 162, 0), (162, .iadd, 163, 0), (163, .iaload, 164, 0), (164, .iastore, 165, 0), (165, .iinc 2 1, 168, 0), (168, .goto (-61), 171, 107), (171, .aload_n 0, 172, 0), (172, .getfield 31, 175, 0), (175, .aload_n 0, 176, 0), (176, .getfield 249, 179, 0), (179, .iload_n 1, 180, 0), (180, .iastore, 181, 0), (181, .return_, 182, 0)]
def sw_mo_takesLaw : List (Nat × List (Int32 × Nat) × Nat) := []
set_option maxRecDepth 100000 in
theorem te_mo_takesLaw : ∀ q ∈ tb_mo_takesLaw, gk_eok (gk_M 210).2.1 q = true := by decide +kernel
set_option maxRecDepth 100000 in
theorem tx_mo_takesLaw (oG : List (Nat × gk_G)) : ∀ q ∈ tb_mo_takesLaw, gk_xok "DryPlacesModel" pl_mo (0, sw_mo_takesLaw, oG) q := by
  have h : tb_mo_takesLaw.all (fun q => gk_xokb "DryPlacesModel" pl_mo sw_mo_takesLaw q) = true := by decide +kernel
  exact fun q hq => gk_xok_of (List.all_eq_true.mp h q hq)
theorem ok_mo_takesLaw (oG : List (Nat × gk_G)) : gk_ok gk_M 210 tb_mo_takesLaw pl_mo (0, sw_mo_takesLaw, oG) := ⟨te_mo_takesLaw, pk_mo, tx_mo_takesLaw oG, rfl⟩
def tb_mo_readNumber : gk_T := [(0, .aload_n 0, 1, 0), (1, .getfield 171, 4, 0), (4, .iconst 3, 5, 0), (5, .if_icmp .eq 9, 8, 14), (8, .aload_n 0, 9, 0), (9, .iconst 1, 10, 0), (10, .invokevirtual 201, 13, 0), (13, .ireturn, 14, 0), (14, .aload_n 0, 15, 0), (15, .aload_n 0, 16, 0), (16, .getfield 174, 19, 0), (19, .iload_n 1, 20, 0), (20, .iload_n 2, 21, 0), (21, .invokevirtual 125, 24, 0), (24, .ifCond .ne 9, 27, 33), (27, .aload_n 0, 28, 0), (28, .iconst 2, 29, 0), (29, .invokevirtual 201, 32, 0), (32, .ireturn, 33, 0), (33, .aload_n 0, 34, 0), (34, .getfield 174, 37, 0), (37, .istore_n 3, 38, 0), (38, .aload_n 0, 39, 0), (39, .invokevirtual 208, 42, 0), (42, .iload_n 3, 43, 0), (43, .ireturn, 44, 0)]
def sw_mo_readNumber : List (Nat × List (Int32 × Nat) × Nat) := []
set_option maxRecDepth 100000 in
theorem te_mo_readNumber : ∀ q ∈ tb_mo_readNumber, gk_eok (gk_M 211).2.1 q = true := by decide +kernel
set_option maxRecDepth 100000 in
theorem tx_mo_readNumber (oG : List (Nat × gk_G)) : ∀ q ∈ tb_mo_readNumber, gk_xok "DryPlacesModel" pl_mo (1, sw_mo_readNumber, oG) q := by
  have h : tb_mo_readNumber.all (fun q => gk_xokb "DryPlacesModel" pl_mo sw_mo_readNumber q) = true := by decide +kernel
  exact fun q hq => gk_xok_of (List.all_eq_true.mp h q hq)
theorem ok_mo_readNumber (oG : List (Nat × gk_G)) : gk_ok gk_M 211 tb_mo_readNumber pl_mo (1, sw_mo_readNumber, oG) := ⟨te_mo_readNumber, pk_mo, tx_mo_readNumber oG, rfl⟩
def tb_mo_readMark : gk_T := [(0, .aload_n 0, 1, 0), (1, .iload_n 1, 2, 0), (2, .invokevirtual 215, 5, 0), (5, .ifCond .ne 9, 8, 14), (8, .aload_n 0, 9, 0), (9, .iconst 1, 10, 0), (10, .invokevirtual 201, 13, 0), (13, .ireturn, 14, 0), (14, .aload_n 0, 15, 0), (15, .invokevirtual 208, 18, 0), (18, .iconst 0, 19, 0), (19, .ireturn, 20, 0)]
def sw_mo_readMark : List (Nat × List (Int32 × Nat) × Nat) := []
set_option maxRecDepth 100000 in
theorem te_mo_readMark : ∀ q ∈ tb_mo_readMark, gk_eok (gk_M 212).2.1 q = true := by decide +kernel
set_option maxRecDepth 100000 in
theorem tx_mo_readMark (oG : List (Nat × gk_G)) : ∀ q ∈ tb_mo_readMark, gk_xok "DryPlacesModel" pl_mo (1, sw_mo_readMark, oG) q := by
  have h : tb_mo_readMark.all (fun q => gk_xokb "DryPlacesModel" pl_mo sw_mo_readMark q) = true := by decide +kernel
  exact fun q hq => gk_xok_of (List.all_eq_true.mp h q hq)
theorem ok_mo_readMark (oG : List (Nat × gk_G)) : gk_ok gk_M 212 tb_mo_readMark pl_mo (1, sw_mo_readMark, oG) := ⟨te_mo_readMark, pk_mo, tx_mo_readMark oG, rfl⟩
def tb_mo_readTold : gk_T := [(0, .aload_n 0, 1, 0), (1, .iload_n 1, 2, 0), (2, .invokevirtual 230, 5, 0), (5, .ifCond .ne 9, 8, 14), (8, .aload_n 0, 9, 0), (9, .iconst 1, 10, 0), (10, .invokevirtual 201, 13, 0), (13, .ireturn, 14, 0), (14, .aload_n 0, 15, 0), (15, .invokevirtual 208, 18, 0), (18, .aload_n 0, 19, 0), (19, .iload_n 2, 20, 0), (20, .iload_n 3, 21, 0), (21, .invokevirtual 252, 24, 0), (24, .ireturn, 25, 0)]
def sw_mo_readTold : List (Nat × List (Int32 × Nat) × Nat) := []
set_option maxRecDepth 100000 in
theorem te_mo_readTold : ∀ q ∈ tb_mo_readTold, gk_eok (gk_M 213).2.1 q = true := by decide +kernel
set_option maxRecDepth 100000 in
theorem tx_mo_readTold (oG : List (Nat × gk_G)) : ∀ q ∈ tb_mo_readTold, gk_xok "DryPlacesModel" pl_mo (1, sw_mo_readTold, oG) q := by
  have h : tb_mo_readTold.all (fun q => gk_xokb "DryPlacesModel" pl_mo sw_mo_readTold q) = true := by decide +kernel
  exact fun q hq => gk_xok_of (List.all_eq_true.mp h q hq)
theorem ok_mo_readTold (oG : List (Nat × gk_G)) : gk_ok gk_M 213 tb_mo_readTold pl_mo (1, sw_mo_readTold, oG) := ⟨te_mo_readTold, pk_mo, tx_mo_readTold oG, rfl⟩
def tb_mo_readOther : gk_T := [(0, .aload_n 0, 1, 0), (1, .iload_n 1, 2, 0), (2, .invokevirtual 230, 5, 0), (5, .ifCond .ne 9, 8, 14), (8, .aload_n 0, 9, 0), (9, .iconst 1, 10, 0), (10, .invokevirtual 201, 13, 0), (13, .ireturn, 14, 0), (14, .aload_n 0, 15, 0), (15, .invokevirtual 208, 18, 0), (18, .aload_n 0, 19, 0), (19, .getfield 171, 22, 0), (22, .iconst 3, 23, 0), (23, .if_icmp .ne 17, 26, 40), (26, .aload_n 0, 27, 0), (27, .getfield 174, 30, 0), (30, .iload_n 2, 31, 0), (31, .if_icmp .ne 9, 34, 40), (34, .aload_n 0, 35, 0), (35, .iconst 2, 36, 0), (36, .invokevirtual 201, 39, 0), (39, .ireturn, 40, 0), (40, .aload_n 0, 41, 0), (41, .iconst 0, 42, 0), (42, .iload_n 3, 43, 0), (43, .invokevirtual 252, 46, 0), (46, .ireturn, 47, 0)]
def sw_mo_readOther : List (Nat × List (Int32 × Nat) × Nat) := []
set_option maxRecDepth 100000 in
theorem te_mo_readOther : ∀ q ∈ tb_mo_readOther, gk_eok (gk_M 214).2.1 q = true := by decide +kernel
set_option maxRecDepth 100000 in
theorem tx_mo_readOther (oG : List (Nat × gk_G)) : ∀ q ∈ tb_mo_readOther, gk_xok "DryPlacesModel" pl_mo (1, sw_mo_readOther, oG) q := by
  have h : tb_mo_readOther.all (fun q => gk_xokb "DryPlacesModel" pl_mo sw_mo_readOther q) = true := by decide +kernel
  exact fun q hq => gk_xok_of (List.all_eq_true.mp h q hq)
theorem ok_mo_readOther (oG : List (Nat × gk_G)) : gk_ok gk_M 214 tb_mo_readOther pl_mo (1, sw_mo_readOther, oG) := ⟨te_mo_readOther, pk_mo, tx_mo_readOther oG, rfl⟩
def tb_mo_takesPassage : gk_T := [(0, .aload_n 0, 1, 0), (1, .getfield 59, 4, 0), (4, .iload_n 1, 5, 0), (5, .iaload, 6, 0), (6, .ifCond .eq 13, 9, 19), (9, .iload_n 2, 10, 0), (10, .aload_n 0, 11, 0), (11, .getfield 59, 14, 0), (14, .iload_n 1, 15, 0), (15, .iaload, 16, 0), (16, .if_icmp .ge 10, 19, 26), (19, .aload_n 0, 20, 0), (20, .getfield 59, 23, 0), (23, .iload_n 1, 24, 0), (24, .iload_n 2, 25, 0), (25, .iastore, 26, 0), (26, .return_, 27, 0)]
def sw_mo_takesPassage : List (Nat × List (Int32 × Nat) × Nat) := []
set_option maxRecDepth 100000 in
theorem te_mo_takesPassage : ∀ q ∈ tb_mo_takesPassage, gk_eok (gk_M 215).2.1 q = true := by decide +kernel
set_option maxRecDepth 100000 in
theorem tx_mo_takesPassage (oG : List (Nat × gk_G)) : ∀ q ∈ tb_mo_takesPassage, gk_xok "DryPlacesModel" pl_mo (0, sw_mo_takesPassage, oG) q := by
  have h : tb_mo_takesPassage.all (fun q => gk_xokb "DryPlacesModel" pl_mo sw_mo_takesPassage q) = true := by decide +kernel
  exact fun q hq => gk_xok_of (List.all_eq_true.mp h q hq)
theorem ok_mo_takesPassage (oG : List (Nat × gk_G)) : gk_ok gk_M 215 tb_mo_takesPassage pl_mo (0, sw_mo_takesPassage, oG) := ⟨te_mo_takesPassage, pk_mo, tx_mo_takesPassage oG, rfl⟩
def tb_mo_readPassage : gk_T := [(0, .aload_n 0, 1, 0), (1, .bipush 11, 3, 0), (3, .iconst 0, 4, 0), (4, .iconst 5, 5, 0), (5, .invokevirtual 255, 8, 0), (8, .istore_n 1, 9, 0), (9, .iload_n 1, 10, 0), (10, .iconst (-1), 11, 0), (11, .if_icmp .ne 5, 14, 16), (14, .iconst (-1), 15, 0), (15, .ireturn, 16, 0), (16, .aload_n 0, 17, 0), (17, .bipush 11, 19, 0), (19, .iload_n 1, 20, 0), (20, .iconst 5, 21, 0), (21, .invokevirtual 259, 24, 0), (24, .istore_n 2, 25, 0), (25, .iload_n 2, 26, 0), (26, .iconst (-1), 27, 0), (27, .if_icmp .ne 5, 30, 32), (30, .iconst (-1), 31, 0), (31, .ireturn, 32, 0), (32, .aload_n 0, 33, 0), (33, .bipush 16, 35, 0), (35, .iconst 1, 36, 0), (36, .bipush 99, 38, 0), (38, .invokevirtual 255, 41, 0), (41, .istore_n 3, 42, 0), (42, .iload_n 3, 43, 0), (43, .iconst (-1), 44, 0), (44, .if_icmp .ne 5, 47, 49), (47, .iconst (-1), 48, 0), (48, .ireturn, 49, 0), (49, .aload_n 0, 50, 0), (50, .bipush 36, 52, 0), (52, .bipush 6, 54, 0), (54, .iload_n 1, 55, 0), (55, .imul, 56, 0), (56, .iadd, 57, 0), (57, .iload_n 2, 58, 0), (58, .iadd, 59, 0), (59, .iload_n 3, 60, 0), (60, .invokevirtual 262, 63, 0), (63, .aload_n 0, 64, 0), (64, .bipush 36, 66, 0), (66, .bipush 6, 68, 0), (68, .iload_n 2, 69, 0), (69, .imul, 70, 0), (70, .iadd, 71, 0), (71, .iload_n 1, 72, 0), (72, .iadd, 73, 0), (73, .iload_n 3, 74, 0), (74, .invokevirtual 262, 77, 0), (77, .aload_n 0, 78, 0), (78, .bipush 59, 80, 0), (80, .invokevirtual 265, 83, 0), (83, .ireturn, 84, 0)]
def sw_mo_readPassage : List (Nat × List (Int32 × Nat) × Nat) := []
set_option maxRecDepth 100000 in
theorem te_mo_readPassage : ∀ q ∈ tb_mo_readPassage, gk_eok (gk_M 216).2.1 q = true := by decide +kernel
set_option maxRecDepth 100000 in
theorem tx_mo_readPassage (oG : List (Nat × gk_G)) : ∀ q ∈ tb_mo_readPassage, gk_xok "DryPlacesModel" pl_mo (1, sw_mo_readPassage, oG) q := by
  have h : tb_mo_readPassage.all (fun q => gk_xokb "DryPlacesModel" pl_mo sw_mo_readPassage q) = true := by decide +kernel
  exact fun q hq => gk_xok_of (List.all_eq_true.mp h q hq)
theorem ok_mo_readPassage (oG : List (Nat × gk_G)) : gk_ok gk_M 216 tb_mo_readPassage pl_mo (1, sw_mo_readPassage, oG) := ⟨te_mo_readPassage, pk_mo, tx_mo_readPassage oG, rfl⟩
def tb_mo_readPassages : gk_T := [(0, .iconst 0, 1, 0), (1, .istore_n 1, 2, 0), (2, .iload_n 1, 3, 0), (3, .bipush 36, 5, 0), (5, .if_icmp .ge 19, 8, 24), (8, .aload_n 0, 9, 0), (9, .getfield 59, 12, 0), (12, .bipush 36, 14, 0), (14, .iload_n 1, 15, 0), (15, .iadd, 16, 0), (16, .iconst 0, 17, 0), (17, .iastore, 18, 0), (18, .iinc 1 1, 21, 0), (21, .goto (-19), 24, 2), (24, .iconst 0, 25, 0), (25, .istore_n 1, 26, 0), (26, .aload_n 0, 27, 0), (27, .bipush 11, 29, 0), (29, .invokevirtual 230, 32, 0), (32, .ifCond .eq 32, 35, 64), (35, .iload_n 1, 36, 0), (36, .bipush 16, 38, 0), (38, .if_icmp .ne 9, 41, 47), (41, .aload_n 0, 42, 0), (42, .iconst 3, 43, 0), (43, .invokevirtual 201, 46, 0), (46, .ireturn, 47, 0), (47, .aload_n 0, 48, 0), (48, .invokevirtual 268, 51, 0), (51, .iconst (-1), 52, 0), (52, .if_icmp .ne 5, 55, 57), (55, .iconst (-1), 56, 0), (56, .ireturn, 57, 0), (57, .iload_n 1, 58, 0), (58, .iconst 1, 59, 0), (59, .iadd, 60, 0), (60, .istore_n 1, 61, 0), (61, .goto (-35), 64, 26), (64, .aload_n 0, 65, 0), (65, .getfield 171, 68, 0), (68, .ifCond .ne 7, 71, 75), (71, .iload_n 1, 72, 0), (72, .goto 8, 75, 80), (75, .aload_n 0, 76, 0), (76, .iconst 1, 77, 0), (77, .invokevirtual 201, 80, 0), (80, .ireturn, 81, 0)]
def sw_mo_readPassages : List (Nat × List (Int32 × Nat) × Nat) := []
set_option maxRecDepth 100000 in
theorem te_mo_readPassages : ∀ q ∈ tb_mo_readPassages, gk_eok (gk_M 217).2.1 q = true := by decide +kernel
set_option maxRecDepth 100000 in
theorem tx_mo_readPassages (oG : List (Nat × gk_G)) : ∀ q ∈ tb_mo_readPassages, gk_xok "DryPlacesModel" pl_mo (1, sw_mo_readPassages, oG) q := by
  have h : tb_mo_readPassages.all (fun q => gk_xokb "DryPlacesModel" pl_mo sw_mo_readPassages q) = true := by decide +kernel
  exact fun q hq => gk_xok_of (List.all_eq_true.mp h q hq)
theorem ok_mo_readPassages (oG : List (Nat × gk_G)) : gk_ok gk_M 217 tb_mo_readPassages pl_mo (1, sw_mo_readPassages, oG) := ⟨te_mo_readPassages, pk_mo, tx_mo_readPassages oG, rfl⟩
def tb_mo_kindOfDeed : gk_T := [(0, .aload_n 0, 1, 0), (1, .getfield 171, 4, 0), (4, .iconst 2, 5, 0), (5, .if_icmp .ne 26, 8, 31), (8, .aload_n 0, 9, 0), (9, .aload_n 0, 10, 0), (10, .getfield 174, 13, 0), (13, .bipush 18, 15, 0), (15, .bipush 20, 17, 0), (17, .invokevirtual 125, 20, 0), (20, .ifCond .eq 11, 23, 31), (23, .aload_n 0, 24, 0), (24, .getfield 174, 27, 0), (27, .bipush 18, 29, 0), (29, .isub, 30, 0), (30, .ireturn, 31, 0), (31, .aload_n 0, 32, 0), (32, .bipush 10, 34, 0), (34, .invokevirtual 230, 37, 0), (37, .ifCond .eq 7, 40, 44), (40, .iconst 3, 41, 0), (41, .goto 17, 44, 58), (44, .aload_n 0, 45, 0), (45, .bipush 22, 47, 0), (47, .invokevirtual 230, 50, 0), (50, .ifCond .eq 7, 53, 57), (53, .iconst 4, 54, 0), (54, .goto 4, 57, 58), (57, .iconst (-1), 58, 0), (58, .ireturn, 59, 0)]
def sw_mo_kindOfDeed : List (Nat × List (Int32 × Nat) × Nat) := []
set_option maxRecDepth 100000 in
theorem te_mo_kindOfDeed : ∀ q ∈ tb_mo_kindOfDeed, gk_eok (gk_M 218).2.1 q = true := by decide +kernel
set_option maxRecDepth 100000 in
theorem tx_mo_kindOfDeed (oG : List (Nat × gk_G)) : ∀ q ∈ tb_mo_kindOfDeed, gk_xok "DryPlacesModel" pl_mo (1, sw_mo_kindOfDeed, oG) q := by
  have h : tb_mo_kindOfDeed.all (fun q => gk_xokb "DryPlacesModel" pl_mo sw_mo_kindOfDeed q) = true := by decide +kernel
  exact fun q hq => gk_xok_of (List.all_eq_true.mp h q hq)
theorem ok_mo_kindOfDeed (oG : List (Nat × gk_G)) : gk_ok gk_M 218 tb_mo_kindOfDeed pl_mo (1, sw_mo_kindOfDeed, oG) := ⟨te_mo_kindOfDeed, pk_mo, tx_mo_kindOfDeed oG, rfl⟩
def tb_mo_readDeedMore : gk_T := [(0, .iload_n 1, 1, 0), (1, .iconst 2, 2, 0), (2, .if_icmp .ne 12, 5, 14), (5, .aload_n 0, 6, 0), (6, .bipush 21, 8, 0), (8, .iconst 0, 9, 0), (9, .iconst 5, 10, 0), (10, .invokevirtual 255, 13, 0), (13, .ireturn, 14, 0), (14, .iload_n 1, 15, 0), (15, .iconst 3, 16, 0), (16, .if_icmp .ne 13, 19, 29), (19, .aload_n 0, 20, 0), (20, .iconst 0, 21, 0), (21, .bipush 9, 23, 0), (23, .invokevirtual 252, 26, 0), (26, .goto 19, 29, 45), (29, .iload_n 1, 30, 0), (30, .iconst 4, 31, 0), (31, .if_icmp .ne 13, 34, 44), (34, .aload_n 0, 35, 0), (35, .iconst 0, 36, 0), (36, .bipush 7, 38, 0), (38, .invokevirtual 252, 41, 0), (41, .goto 4, 44, 45), (44, .iconst 0, 45, 0), (45, .ireturn, 46, 0)]
def sw_mo_readDeedMore : List (Nat × List (Int32 × Nat) × Nat) := []
set_option maxRecDepth 100000 in
theorem te_mo_readDeedMore : ∀ q ∈ tb_mo_readDeedMore, gk_eok (gk_M 219).2.1 q = true := by decide +kernel
set_option maxRecDepth 100000 in
theorem tx_mo_readDeedMore (oG : List (Nat × gk_G)) : ∀ q ∈ tb_mo_readDeedMore, gk_xok "DryPlacesModel" pl_mo (1, sw_mo_readDeedMore, oG) q := by
  have h : tb_mo_readDeedMore.all (fun q => gk_xokb "DryPlacesModel" pl_mo sw_mo_readDeedMore q) = true := by decide +kernel
  exact fun q hq => gk_xok_of (List.all_eq_true.mp h q hq)
theorem ok_mo_readDeedMore (oG : List (Nat × gk_G)) : gk_ok gk_M 219 tb_mo_readDeedMore pl_mo (1, sw_mo_readDeedMore, oG) := ⟨te_mo_readDeedMore, pk_mo, tx_mo_readDeedMore oG, rfl⟩
def tb_mo_readDeed : gk_T := [(0, .aload_n 0, 1, 0), (1, .getfield 62, 4, 0), (4, .iload_n 1, 5, 0), (5, .aload_n 0, 6, 0), (6, .bipush 17, 8, 0), (8, .iconst 0, 9, 0), (9, .sipush 999, 12, 0), (12, .invokevirtual 255, 15, 0), (15, .iastore, 16, 0), (16, .aload_n 0, 17, 0), (17, .getfield 62, 20, 0), (20, .iload_n 1, 21, 0), (21, .iaload, 22, 0), (22, .iconst (-1), 23, 0), (23, .if_icmp .ne 5, 26, 28), (26, .iconst (-1), 27, 0), (27, .ireturn, 28, 0), (28, .aload_n 0, 29, 0), (29, .invokevirtual 271, 32, 0), (32, .istore_n 2, 33, 0), (33, .iload_n 2, 34, 0), (34, .iconst (-1), 35, 0), (35, .if_icmp .ne 9, 38, 44), (38, .aload_n 0, 39, 0), (39, .iconst 1, 40, 0), (40, .invokevirtual 201, 43, 0), (43, .ireturn, 44, 0), (44, .aload_n 0, 45, 0), (45, .invokevirtual 208, 48, 0), (48, .aload_n 0, 49, 0), (49, .getfield 62, 52, 0), (52, .iload_n 1, 53, 0), (53, .iconst 1, 54, 0), (54, .iadd, 55, 0), (55, .iload_n 2, 56, 0), (56, .iastore, 57, 0), (57, .aload_n 0, 58, 0), (58, .getfield 62, 61, 0), (61, .iload_n 1, 62, 0), (62, .iconst 2, 63, 0), (63, .iadd, 64, 0), (64, .aload_n 0, 65, 0), (65, .iconst 0, 66, 0), (66, .iload_n 2, 67, 0), (67, .iconst 3, 68, 0), (68, .if_icmp .ne 7, 71, 75), (71, .iconst 5, 72, 0), (72, .goto 9, 75, 81), (75, .aload_n 0, 76, 0), (76, .getfield 122, 79, 0), (79, .iconst 1, 80, 0), (80, .isub, 81, 0), (81, .invokevirtual 252, 84, 0), (84, .iastore, 85, 0), (85, .aload_n 0, 86, 0), (86, .getfield 62, 89, 0), (89, .iload_n 1, 90, 0), (90, .iconst 2, 91, 0), (91, .iadd, 92, 0), (92, .iaload, 93, 0), (93, .iconst (-1), 94, 0), (94, .if_icmp .ne 5, 97, 99), (97, .iconst (-1), 98, 0), (98, .ireturn, 99, 0), (99, .aload_n 0, 100, 0), (100, .getfield 62, 103, 0), (103, .iload_n 1, 104, 0), (104, .iconst 3, 105, 0), (105, .iadd, 106, 0), (106, .aload_n 0, 107, 0), (107, .iload_n 2, 108, 0), (108, .invokevirtual 274, 111, 0), (111, .iastore, 112, 0), (112, .aload_n 0, 113, 0), (113, .getfield 62, 116, 0), (116, .iload_n 1, 117, 0), (117, .iconst 3, 118, 0), (118, .iadd, 119, 0), (119, .iaload, 120, 0), (120, .iconst (-1), 121, 0), (121, .if_icmp .ne 7, 124, 128), (124, .iconst (-1), 125, 0), (125, .goto 9, 128, 134), (128, .aload_n 0, 129, 0), (129, .bipush 59, 131, 0), (131, .invokevirtual 265, 134, 0), (134, .ireturn, 135, 0)]
def sw_mo_readDeed : List (Nat × List (Int32 × Nat) × Nat) := []
set_option maxRecDepth 100000 in
theorem te_mo_readDeed : ∀ q ∈ tb_mo_readDeed, gk_eok (gk_M 220).2.1 q = true := by decide +kernel
set_option maxRecDepth 100000 in
theorem tx_mo_readDeed (oG : List (Nat × gk_G)) : ∀ q ∈ tb_mo_readDeed, gk_xok "DryPlacesModel" pl_mo (1, sw_mo_readDeed, oG) q := by
  have h : tb_mo_readDeed.all (fun q => gk_xokb "DryPlacesModel" pl_mo sw_mo_readDeed q) = true := by decide +kernel
  exact fun q hq => gk_xok_of (List.all_eq_true.mp h q hq)
theorem ok_mo_readDeed (oG : List (Nat × gk_G)) : gk_ok gk_M 220 tb_mo_readDeed pl_mo (1, sw_mo_readDeed, oG) := ⟨te_mo_readDeed, pk_mo, tx_mo_readDeed oG, rfl⟩
def tb_mo_readDiary : gk_T := [(0, .iconst 0, 1, 0), (1, .istore_n 1, 2, 0), (2, .aload_n 0, 3, 0), (3, .bipush 17, 5, 0), (5, .invokevirtual 230, 8, 0), (8, .ifCond .eq 38, 11, 46), (11, .iload_n 1, 12, 0), (12, .bipush 16, 14, 0), (14, .if_icmp .ne 9, 17, 23), (17, .aload_n 0, 18, 0), (18, .iconst 3, 19, 0), (19, .invokevirtual 201, 22, 0), (22, .ireturn, 23, 0), (23, .aload_n 0, 24, 0), (24, .bipush 64, 26, 0), (26, .iconst 4, 27, 0), (27, .iload_n 1, 28, 0), (28, .imul, 29, 0), (29, .iadd, 30, 0), (30, .invokevirtual 277, 33, 0), (33, .iconst (-1), 34, 0), (34, .if_icmp .ne 5, 37, 39), (37, .iconst (-1), 38, 0), (38, .ireturn, 39, 0), (39, .iload_n 1, 40, 0), (40, .iconst 1, 41, 0), (41, .iadd, 42, 0), (42, .istore_n 1, 43, 0), (43, .goto (-41), 46, 2), (46, .aload_n 0, 47, 0), (47, .getfield 171, 50, 0), (50, .ifCond .ne 7, 53, 57), (53, .iload_n 1, 54, 0), (54, .goto 8, 57, 62), (57, .aload_n 0, 58, 0), (58, .iconst 1, 59, 0), (59, .invokevirtual 201, 62, 0), (62, .ireturn, 63, 0)]
def sw_mo_readDiary : List (Nat × List (Int32 × Nat) × Nat) := []
set_option maxRecDepth 100000 in
theorem te_mo_readDiary : ∀ q ∈ tb_mo_readDiary, gk_eok (gk_M 221).2.1 q = true := by decide +kernel
set_option maxRecDepth 100000 in
theorem tx_mo_readDiary (oG : List (Nat × gk_G)) : ∀ q ∈ tb_mo_readDiary, gk_xok "DryPlacesModel" pl_mo (1, sw_mo_readDiary, oG) q := by
  have h : tb_mo_readDiary.all (fun q => gk_xokb "DryPlacesModel" pl_mo sw_mo_readDiary q) = true := by decide +kernel
  exact fun q hq => gk_xok_of (List.all_eq_true.mp h q hq)
theorem ok_mo_readDiary (oG : List (Nat × gk_G)) : gk_ok gk_M 221 tb_mo_readDiary pl_mo (1, sw_mo_readDiary, oG) := ⟨te_mo_readDiary, pk_mo, tx_mo_readDiary oG, rfl⟩
def tb_mo_readVouch : gk_T := [(0, .aload_n 0, 1, 0), (1, .bipush 23, 3, 0), (3, .iconst 0, 4, 0), (4, .aload_n 0, 5, 0), (5, .getfield 122, 8, 0), (8, .iconst 1, 9, 0), (9, .isub, 10, 0), (10, .invokevirtual 255, 13, 0), (13, .istore_n 1, 14, 0), (14, .iload_n 1, 15, 0), (15, .iconst (-1), 16, 0), (16, .if_icmp .ne 5, 19, 21), (19, .iconst (-1), 20, 0), (20, .ireturn, 21, 0), (21, .aload_n 0, 22, 0), (22, .bipush 24, 24, 0), (24, .iload_n 1, 25, 0), (25, .aload_n 0, 26, 0), (26, .getfield 122, 29, 0), (29, .iconst 1, 30, 0), (30, .isub, 31, 0), (31, .invokevirtual 259, 34, 0), (34, .istore_n 2, 35, 0), (35, .iload_n 2, 36, 0), (36, .iconst (-1), 37, 0), (37, .if_icmp .ne 5, 40, 42), (40, .iconst (-1), 41, 0), (41, .ireturn, 42, 0), (42, .aload_n 0, 43, 0), (43, .getfield 65, 46, 0), (46, .bipush 10, 48, 0), (48, .iload_n 1, 49, 0), (49, .iadd, 50, 0), (50, .aload_n 0, 51, 0), (51, .getfield 65, 54, 0), (54, .bipush 10, 56, 0), (56, .iload_n 1, 57, 0), (57, .iadd, 58, 0), (58, .iaload, 59, 0), (59, .iconst 1, 60, 0), (60, .iload_n 2, 61, 0), (61, .ishl, 62, 0), (62, .ior, 63, 0), (63, .iastore, 64, 0), (64, .aload_n 0, 65, 0), (65, .bipush 59, 67, 0), (67, .invokevirtual 265, 70, 0), (70, .ireturn, 71, 0)]
def sw_mo_readVouch : List (Nat × List (Int32 × Nat) × Nat) := []
set_option maxRecDepth 100000 in
theorem te_mo_readVouch : ∀ q ∈ tb_mo_readVouch, gk_eok (gk_M 222).2.1 q = true := by decide +kernel
set_option maxRecDepth 100000 in
theorem tx_mo_readVouch (oG : List (Nat × gk_G)) : ∀ q ∈ tb_mo_readVouch, gk_xok "DryPlacesModel" pl_mo (1, sw_mo_readVouch, oG) q := by
  have h : tb_mo_readVouch.all (fun q => gk_xokb "DryPlacesModel" pl_mo sw_mo_readVouch q) = true := by decide +kernel
  exact fun q hq => gk_xok_of (List.all_eq_true.mp h q hq)
theorem ok_mo_readVouch (oG : List (Nat × gk_G)) : gk_ok gk_M 222 tb_mo_readVouch pl_mo (1, sw_mo_readVouch, oG) := ⟨te_mo_readVouch, pk_mo, tx_mo_readVouch oG, rfl⟩
def tb_mo_readVouches : gk_T := [(0, .iconst 0, 1, 0), (1, .istore_n 1, 2, 0), (2, .iload_n 1, 3, 0), (3, .bipush 10, 5, 0), (5, .if_icmp .ge 19, 8, 24), (8, .aload_n 0, 9, 0), (9, .getfield 65, 12, 0), (12, .bipush 10, 14, 0), (14, .iload_n 1, 15, 0), (15, .iadd, 16, 0), (16, .iconst 0, 17, 0), (17, .iastore, 18, 0), (18, .iinc 1 1, 21, 0), (21, .goto (-19), 24, 2), (24, .iconst 0, 25, 0), (25, .istore_n 1, 26, 0), (26, .aload_n 0, 27, 0), (27, .bipush 23, 29, 0), (29, .invokevirtual 230, 32, 0), (32, .ifCond .eq 32, 35, 64), (35, .iload_n 1, 36, 0), (36, .bipush 16, 38, 0), (38, .if_icmp .ne 9, 41, 47), (41, .aload_n 0, 42, 0), (42, .iconst 3, 43, 0), (43, .invokevirtual 201, 46, 0), (46, .ireturn, 47, 0), (47, .aload_n 0, 48, 0), (48, .invokevirtual 280, 51, 0), (51, .iconst (-1), 52, 0), (52, .if_icmp .ne 5, 55, 57), (55, .iconst (-1), 56, 0), (56, .ireturn, 57, 0), (57, .iload_n 1, 58, 0), (58, .iconst 1, 59, 0), (59, .iadd, 60, 0), (60, .istore_n 1, 61, 0), (61, .goto (-35), 64, 26), (64, .aload_n 0, 65, 0), (65, .getfield 171, 68, 0), (68, .ifCond .ne 7, 71, 75), (71, .iload_n 1, 72, 0), (72, .goto 8, 75, 80), (75, .aload_n 0, 76, 0), (76, .iconst 1, 77, 0), (77, .invokevirtual 201, 80, 0), (80, .ireturn, 81, 0)]
def sw_mo_readVouches : List (Nat × List (Int32 × Nat) × Nat) := []
set_option maxRecDepth 100000 in
theorem te_mo_readVouches : ∀ q ∈ tb_mo_readVouches, gk_eok (gk_M 223).2.1 q = true := by decide +kernel
set_option maxRecDepth 100000 in
theorem tx_mo_readVouches (oG : List (Nat × gk_G)) : ∀ q ∈ tb_mo_readVouches, gk_xok "DryPlacesModel" pl_mo (1, sw_mo_readVouches, oG) q := by
  have h : tb_mo_readVouches.all (fun q => gk_xokb "DryPlacesModel" pl_mo sw_mo_readVouches q) = true := by decide +kernel
  exact fun q hq => gk_xok_of (List.all_eq_true.mp h q hq)
theorem ok_mo_readVouches (oG : List (Nat × gk_G)) : gk_ok gk_M 223 tb_mo_readVouches pl_mo (1, sw_mo_readVouches, oG) := ⟨te_mo_readVouches, pk_mo, tx_mo_readVouches oG, rfl⟩
def tb_mo_readsText : gk_T := [(0, .aload_n 0, 1, 0), (1, .iconst 0, 2, 0), (2, .putfield 249, 5, 0), (5, .aload_n 0, 6, 0), (6, .invokevirtual 208, 9, 0), (9, .iload_n 1, 10, 0), (10, .iconst 1, 11, 0), (11, .if_icmp .ne 8, 14, 19), (14, .aload_n 0, 15, 0), (15, .invokevirtual 283, 18, 0), (18, .ireturn, 19, 0), (19, .iload_n 1, 20, 0), (20, .iconst 2, 21, 0), (21, .if_icmp .ne 8, 24, 29), (24, .aload_n 0, 25, 0), (25, .invokevirtual 286, 28, 0), (28, .ireturn, 29, 0), (29, .iload_n 1, 30, 0), (30, .iconst 3, 31, 0), (31, .if_icmp .ne 10, 34, 41), (34, .aload_n 0, 35, 0), (35, .invokevirtual 289, 38, 0), (38, .goto 7, 41, 45), (41, .aload_n 0, 42, 0), (42, .invokevirtual 292, 45, 0), (45, .ireturn, 46, 0)]
def sw_mo_readsText : List (Nat × List (Int32 × Nat) × Nat) := []
set_option maxRecDepth 100000 in
theorem te_mo_readsText : ∀ q ∈ tb_mo_readsText, gk_eok (gk_M 224).2.1 q = true := by decide +kernel
set_option maxRecDepth 100000 in
theorem tx_mo_readsText (oG : List (Nat × gk_G)) : ∀ q ∈ tb_mo_readsText, gk_xok "DryPlacesModel" pl_mo (1, sw_mo_readsText, oG) q := by
  have h : tb_mo_readsText.all (fun q => gk_xokb "DryPlacesModel" pl_mo sw_mo_readsText q) = true := by decide +kernel
  exact fun q hq => gk_xok_of (List.all_eq_true.mp h q hq)
theorem ok_mo_readsText (oG : List (Nat × gk_G)) : gk_ok gk_M 224 tb_mo_readsText pl_mo (1, sw_mo_readsText, oG) := ⟨te_mo_readsText, pk_mo, tx_mo_readsText oG, rfl⟩
def tb_mo_takesOther : gk_T := [(0, .iload_n 1, 1, 0), (1, .iconst 1, 2, 0), (2, .if_icmp .ne 40, 5, 42), (5, .iconst 0, 6, 0), (6, .istore_n 3, 7, 0), (7, .iload_n 3, 8, 0), (8, .bipush 36, 10, 0), (10, .if_icmp .ge 24, 13, 34), (13, .aload_n 0, 14, 0), (14, .getfield 59, 17, 0), (17, .iload_n 3, 18, 0), (18, .aload_n 0, 19, 0), (19, .getfield 59, 22, 0), (22, .bipush 36, 24, 0), (24, .iload_n 3, 25, 0), (25, .iadd, 26, 0), (26, .iaload, 27, 0), (27, .iastore, 28, 0), (28, .iinc 3 1, 31, 0), (31, .goto (-24), 34, 7), (34, .aload_n 0, 35, 0), (35, .iload_n 2, 36, 0), (36, .putfield 295, 39, 0), (39, .goto 85, 42, 124), (42, .iload_n 1, 43, 0), (43, .iconst 2, 44, 0), (44, .if_icmp .ne 46, 47, 90), (47, .iconst 0, 48, 0), (48, .istore_n 3, 49, 0), (49, .iload_n 3, 50, 0), (50, .iconst 4, 51, 0), (51, .iload_n 2, 52, 0), (52, .imul, 53, 0), (53, .if_icmp .ge 24, 56, 77), (56, .aload_n 0, 57, 0), (57, .getfield 62, 60, 0), (60, .iload_n 3, 61, 0), (61, .aload_n 0, 62, 0), (62, .getfield 62, 65, 0), (65, .bipush 64, 67, 0), (67, .iload_n 3, 68, 0), (68, .iadd, 69, 0), (69, .iaload, 70, 0), (70, .iastore, 71, 0), (71, .iinc 3 1, 74, 0), (74, .goto (-25), 77, 49), (77, .aload_n 0, 78, 0), (78, .iload_n 2, 79, 0), (79, .putfield 298, 82, 0), (82, .aload_n 0, 83, 0), (83, .iconst 0, 84, 0), (84, .putfield 113, 87, 0), (87, .goto 37, 90, 124), (90, .iconst 0, 91, 0), (91, .istore_n 3, 92, 0), (92, .iload_n 3, 93, 0), (93, .bipush 10, 95, 0), (95, .if_icmp .ge 24, 98, 119), (98, .aload_n 0, 99, 0), (99, .getfield 65, 102, 0), (102, .iload_n 3, 103, 0), (103, .aload_n 0, 104, 0), (104, .getfield 65, 107, 0), (107, .bipush 10, 109, 0), (109, .iload_n 3, 110, 0), (110, .iadd, 111, 0), (111, .iaload, 112, 0), (112, .iastore, 113, 0), (113, .iinc 3 1, 116, 0), (116, .goto (-24), 119, 92), (119, .aload_n 0, 120, 0), (120, .iload_n 2, 121, 0), (121, .putfield 301, 124, 0), (124, .return_, 125, 0)]
def sw_mo_takesOther : List (Nat × List (Int32 × Nat) × Nat) := []
set_option maxRecDepth 100000 in
theorem te_mo_takesOther : ∀ q ∈ tb_mo_takesOther, gk_eok (gk_M 225).2.1 q = true := by decide +kernel
set_option maxRecDepth 100000 in
theorem tx_mo_takesOther (oG : List (Nat × gk_G)) : ∀ q ∈ tb_mo_takesOther, gk_xok "DryPlacesModel" pl_mo (0, sw_mo_takesOther, oG) q := by
  have h : tb_mo_takesOther.all (fun q => gk_xokb "DryPlacesModel" pl_mo sw_mo_takesOther q) = true := by decide +kernel
  exact fun q hq => gk_xok_of (List.all_eq_true.mp h q hq)
theorem ok_mo_takesOther (oG : List (Nat × gk_G)) : gk_ok gk_M 225 tb_mo_takesOther pl_mo (0, sw_mo_takesOther, oG) := ⟨te_mo_takesOther, pk_mo, tx_mo_takesOther oG, rfl⟩
def tb_mo_text : gk_T := [(0, .aload_n 0, 1, 0), (1, .iconst 0, 2, 0), (2, .putfield 110, 5, 0), (5, .aload_n 0, 6, 0), (6, .iconst 0, 7, 0), (7, .putfield 304, 10, 0), (10, .aload_n 0, 11, 0), (11, .iconst (-1), 12, 0), (12, .putfield 55, 15, 0), (15, .aload_n 0, 16, 0), (16, .iconst 0, 17, 0), (17, .putfield 162, 20, 0), (20, .aload_n 0, 21, 0), (21, .iconst 0, 22, 0), (22, .putfield 195, 25, 0), (25, .aload_n 0, 26, 0), (26, .iconst 0, 27, 0), (27, .putfield 227, 30, 0), (30, .iconst (-1), 31, 0), (31, .istore_n 2, 32, 0), (32, .aload_n 0, 33, 0), (33, .iload_n 1, 34, 0), (34, .iconst 0, 35, 0), (35, .iconst 3, 36, 0), (36, .invokevirtual 125, 39, 0), (39, .ifCond .eq 30, 42, 69), (42, .aload_n 0, 43, 0), (43, .iload_n 1, 44, 0), (44, .invokevirtual 307, 47, 0), (47, .istore_n 2, 48, 0), (48, .iload_n 2, 49, 0), (49, .iconst (-1), 50, 0), (50, .if_icmp .ne 19, 53, 69), (53, .aload_n 0, 54, 0), (54, .aload_n 0, 55, 0), (55, .getfield 189, 58, 0), (58, .putfield 304, 61, 0), (61, .aload_n 0, 62, 0), (62, .aload_n 0, 63, 0), (63, .getfield 192, 66, 0), (66, .putfield 55, 69, 0), (69, .aload_n 0, 70, 0), (70, .iconst 0, 71, 0), (71, .putfield 155, 74, 0), (74, .iload_n 2, 75, 0), (75, .iconst (-1), 76, 0), (76, .if_icmp .ne 5, 79, 81), (79, .iconst (-1), 80, 0), (80, .ireturn, 81, 0), (81, .iload_n 1, 82, 0), (82, .ifCond .ne 11, 85, 93), (85, .aload_n 0, 86, 0), (86, .iload_n 2, 87, 0), (87, .invokevirtual 310, 90, 0), (90, .goto 9, 93, 99), (93, .aload_n 0, 94, 0), (94, .iload_n 1, 95, 0), (95, .iload_n 2, 96, 0), (96, .invokevirtual 313, 99, 0), (99, .iload_n 2, 100, 0), (100, .ireturn, 101, 0)]
def sw_mo_text : List (Nat × List (Int32 × Nat) × Nat) := []
set_option maxRecDepth 100000 in
theorem te_mo_text : ∀ q ∈ tb_mo_text, gk_eok (gk_M 226).2.1 q = true := by decide +kernel
set_option maxRecDepth 100000 in
theorem tx_mo_text (oG : List (Nat × gk_G)) : ∀ q ∈ tb_mo_text, gk_xok "DryPlacesModel" pl_mo (1, sw_mo_text, oG) q := by
  have h : tb_mo_text.all (fun q => gk_xokb "DryPlacesModel" pl_mo sw_mo_text q) = true := by decide +kernel
  exact fun q hq => gk_xok_of (List.all_eq_true.mp h q hq)
theorem ok_mo_text (oG : List (Nat × gk_G)) : gk_ok gk_M 226 tb_mo_text pl_mo (1, sw_mo_text, oG) := ⟨te_mo_text, pk_mo, tx_mo_text oG, rfl⟩
def tb_mo_fault : gk_T := [(0, .aload_n 0, 1, 0), (1, .iconst 0, 2, 0), (2, .putfield 110, 5, 0), (5, .iload_n 1, 6, 0), (6, .ifCond .ne 10, 9, 16), (9, .aload_n 0, 10, 0), (10, .getfield 304, 13, 0), (13, .goto 16, 16, 29), (16, .iload_n 1, 17, 0), (17, .iconst 1, 18, 0), (18, .if_icmp .ne 10, 21, 28), (21, .aload_n 0, 22, 0), (22, .getfield 55, 25, 0), (25, .goto 4, 28, 29), (28, .iconst (-1), 29, 0), (29, .ireturn, 30, 0)]
def sw_mo_fault : List (Nat × List (Int32 × Nat) × Nat) := []
set_option maxRecDepth 100000 in
theorem te_mo_fault : ∀ q ∈ tb_mo_fault, gk_eok (gk_M 227).2.1 q = true := by decide +kernel
set_option maxRecDepth 100000 in
theorem tx_mo_fault (oG : List (Nat × gk_G)) : ∀ q ∈ tb_mo_fault, gk_xok "DryPlacesModel" pl_mo (1, sw_mo_fault, oG) q := by
  have h : tb_mo_fault.all (fun q => gk_xokb "DryPlacesModel" pl_mo sw_mo_fault q) = true := by decide +kernel
  exact fun q hq => gk_xok_of (List.all_eq_true.mp h q hq)
theorem ok_mo_fault (oG : List (Nat × gk_G)) : gk_ok gk_M 227 tb_mo_fault pl_mo (1, sw_mo_fault, oG) := ⟨te_mo_fault, pk_mo, tx_mo_fault oG, rfl⟩
def tb_mo_twoOf : gk_T := [(0, .iload_n 1, 1, 0), (1, .iconst 2, 2, 0), (2, .if_icmp .ne 7, 5, 9), (5, .iload_n 2, 6, 0), (6, .iload_n 3, 7, 0), (7, .iadd, 8, 0), (8, .ireturn, 9, 0), (9, .iload_n 1, 10, 0), (10, .iconst 3, 11, 0), (11, .if_icmp .ne 7, 14, 18), (14, .iload_n 2, 15, 0), (15, .iload_n 3, 16, 0), (16, .isub, 17, 0), (17, .ireturn, 18, 0), (18, .iload_n 1, 19, 0), (19, .iconst 4, 20, 0), (20, .if_icmp .ne 7, 23, 27), (23, .iload_n 2, 24, 0), (24, .iload_n 3, 25, 0), (25, .imul, 26, 0), (26, .ireturn, 27, 0), (27, .iload_n 1, 28, 0), (28, .iconst 5, 29, 0), (29, .if_icmp .ne 7, 32, 36), (32, .iload_n 2, 33, 0), (33, .iload_n 3, 34, 0), (34, .idiv, 35, 0), (35, .ireturn, 36, 0), (36, .iload_n 1, 37, 0), (37, .bipush 6, 39, 0), (39, .if_icmp .ne 14, 42, 53), (42, .iload_n 2, 43, 0), (43, .iload_n 3, 44, 0), (44, .if_icmp .ge 7, 47, 51), (47, .iconst 1, 48, 0), (48, .goto 4, 51, 52), (51, .iconst 0, 52, 0), (52, .ireturn, 53, 0), (53, .iload_n 1, 54, 0), (54, .bipush 7, 56, 0), (56, .if_icmp .ne 14, 59, 70), (59, .iload_n 2, 60, 0), (60, .iload_n 3, 61, 0), (61, .if_icmp .ne 7, 64, 68), (64, .iconst 1, 65, 0), (65, .goto 4, 68, 69), (68, .iconst 0, 69, 0), (69, .ireturn, 70, 0), (70, .iload_n 1, 71, 0), (71, .bipush 8, 73, 0), (73, .if_icmp .ne 14, 76, 87), (76, .iload_n 2, 77, 0), (77, .iload_n 3, 78, 0), (78, .if_icmp .le 7, 81, 85), (81, .iconst 1, 82, 0), (82, .goto 4, 85, 86), (85, .iconst 0, 86, 0), (86, .ireturn, 87, 0), (87, .iload_n 1, 88, 0), (88, .bipush 10, 90, 0), (90, .if_icmp .ne 9, 93, 99), (93, .iload_n 2, 94, 0), (94, .iload_n 3, 95, 0), (95, .imul, 96, 0), (96, .goto 14, 99, 110), (99, .iload_n 2, 100, 0), (100, .iload_n 3, 101, 0), (101, .iadd, 102, 0), (102, .ifCond .le 7, 105, 109), (105, .iconst 1, 106, 0), (106, .goto 4, 109, 110), (109, .iconst 0, 110, 0), (110, .ireturn, 111, 0)]
def sw_mo_twoOf : List (Nat × List (Int32 × Nat) × Nat) := []
set_option maxRecDepth 100000 in
theorem te_mo_twoOf : ∀ q ∈ tb_mo_twoOf, gk_eok (gk_M 228).2.1 q = true := by decide +kernel
set_option maxRecDepth 100000 in
theorem tx_mo_twoOf (oG : List (Nat × gk_G)) : ∀ q ∈ tb_mo_twoOf, gk_xok "DryPlacesModel" pl_mo (1, sw_mo_twoOf, oG) q := by
  have h : tb_mo_twoOf.all (fun q => gk_xokb "DryPlacesModel" pl_mo sw_mo_twoOf q) = true := by decide +kernel
  exact fun q hq => gk_xok_of (List.all_eq_true.mp h q hq)
theorem ok_mo_twoOf (oG : List (Nat × gk_G)) : gk_ok gk_M 228 tb_mo_twoOf pl_mo (1, sw_mo_twoOf, oG) := ⟨te_mo_twoOf, pk_mo, tx_mo_twoOf oG, rfl⟩
def tb_mo_runs : gk_T := [(0, .iconst 0, 1, 0), (1, .istore 4, 3, 0), (3, .sipush 400, 6, 0), (6, .iload_n 1, 7, 0), (7, .imul, 8, 0), (8, .iload_n 2, 9, 0), (9, .iadd, 10, 0), (10, .istore 5, 12, 0), (12, .iload 5, 14, 0), (14, .sipush 400, 17, 0), (17, .iload_n 1, 18, 0), (18, .imul, 19, 0), (19, .iload_n 3, 20, 0), (20, .iadd, 21, 0), (21, .if_icmp .ge 155, 24, 176), (24, .aload_n 0, 25, 0), (25, .getfield 46, 28, 0), (28, .iload 5, 30, 0), (30, .iaload, 31, 0), (31, .ifCond .eq 14, 34, 45), (34, .aload_n 0, 35, 0), (35, .getfield 46, 38, 0), (38, .iload 5, 40, 0), (40, .iaload, 41, 0), (41, .iconst 1, 42, 0), (42, .if_icmp .ne 51, 45, 93), (45, .aload_n 0, 46, 0), (46, .getfield 71, 49, 0), (49, .iload 4, 51, 0), (51, .aload_n 0, 52, 0), (52, .getfield 46, 55, 0), (55, .iload 5, 57, 0), (57, .iaload, 58, 0), (58, .ifCond .ne 13, 61, 71), (61, .aload_n 0, 62, 0), (62, .getfield 49, 65, 0), (65, .iload 5, 67, 0), (67, .iaload, 68, 0), (68, .goto 15, 71, 83), (71, .aload_n 0, 72, 0), (72, .getfield 68, 75, 0), (75, .aload_n 0, 76, 0), (76, .getfield 49, 79, 0), (79, .iload 5, 81, 0), (81, .iaload, 82, 0), (82, .iaload, 83, 0), (83, .iastore, 84, 0), (84, .iload 4, 86, 0), (86, .iconst 1, 87, 0), (87, .iadd, 88, 0), (88, .istore 4, 90, 0), (90, .goto 80, 93, 170), (93, .aload_n 0, 94, 0), (94, .getfield 46, 97, 0), (97, .iload 5, 99, 0), (99, .iaload, 100, 0), (100, .bipush 9, 102, 0), (102, .if_icmp .ne 26, 105, 128), (105, .aload_n 0, 106, 0), (106, .getfield 71, 109, 0), (109, .iload 4, 111, 0), (111, .iconst 1, 112, 0), (112, .isub, 113, 0), (113, .iconst 1, 114, 0), (114, .aload_n 0, 115, 0), (115, .getfield 71, 118, 0), (118, .iload 4, 120, 0), (120, .iconst 1, 121, 0), (121, .isub, 122, 0), (122, .iaload, 123, 0), (123, .isub, 124, 0), (124, .iastore, 125, 0), (125, .goto 45, 128, 170), (128, .iload 4, 130, 0), (130, .iconst 1, 131, 0), (131, .isub, 132, 0), (132, .istore 4, 134, 0), (134, .aload_n 0, 135, 0), (135, .getfield 71, 138, 0), (138, .iload 4, 140, 0), (140, .iconst 1, 141, 0), (141, .isub, 142, 0), (142, .aload_n 0, 143, 0), (143, .aload_n 0, 144, 0), (144, .getfield 46, 147, 0), (147, .iload 5, 149, 0), (149, .iaload, 150, 0), (150, .aload_n 0, 151, 0), (151, .getfield 71, 154, 0), (154, .iload 4, 156, 0), (156, .iconst 1, 157, 0), (157, .isub, 158, 0), (158, .iaload, 159, 0), (159, .aload_n 0, 160, 0), (160, .getfield 71, 163, 0), (163, .iload 4, 165, 0), (165, .iaload, 166, 0), (166, .invokevirtual 316, 169, 0), (169, .iastore, 170, 0), (170, .iinc 5 1, 173, 0), (173, .goto (-161), 176, 12), (176, .aload_n 0, 177, 0), (177, .getfield 71, 180, 0), (180, .iconst 0, 181, 0), (181, .iaload, 182, 0), (182, .ireturn, 183, 0)]
def sw_mo_runs : List (Nat × List (Int32 × Nat) × Nat) := []
set_option maxRecDepth 100000 in
theorem te_mo_runs : ∀ q ∈ tb_mo_runs, gk_eok (gk_M 229).2.1 q = true := by decide +kernel
set_option maxRecDepth 100000 in
theorem tx_mo_runs (oG : List (Nat × gk_G)) : ∀ q ∈ tb_mo_runs, gk_xok "DryPlacesModel" pl_mo (1, sw_mo_runs, oG) q := by
  have h : tb_mo_runs.all (fun q => gk_xokb "DryPlacesModel" pl_mo sw_mo_runs q) = true := by decide +kernel
  exact fun q hq => gk_xok_of (List.all_eq_true.mp h q hq)
theorem ok_mo_runs (oG : List (Nat × gk_G)) : gk_ok gk_M 229 tb_mo_runs pl_mo (1, sw_mo_runs, oG) := ⟨te_mo_runs, pk_mo, tx_mo_runs oG, rfl⟩
def tb_mo_lineOf : gk_T := [(0, .iconst 0, 1, 0), (1, .istore_n 2, 2, 0), (2, .iload_n 2, 3, 0), (3, .aload_n 0, 4, 0), (4, .getfield 31, 7, 0), (7, .iconst 0, 8, 0), (8, .iaload, 9, 0), (9, .if_icmp .ge 56, 12, 65), (12, .aload_n 0, 13, 0), (13, .getfield 34, 16, 0), (16, .iload_n 2, 17, 0), (17, .iaload, 18, 0), (18, .iload_n 1, 19, 0), (19, .if_icmp .ne 40, 22, 59), (22, .aload_n 0, 23, 0), (23, .getfield 40, 26, 0), (26, .iload_n 2, 27, 0), (27, .iaload, 28, 0), (28, .aload_n 0, 29, 0), (29, .getfield 43, 32, 0), (32, .iload_n 2, 33, 0), (33, .iaload, 34, 0), (34, .if_icmp .eq 23, 37, 57), (37, .aload_n 0, 38, 0), (38, .iconst 0, 39, 0), (39, .aload_n 0, 40, 0), (40, .getfield 40, 43, 0), (43, .iload_n 2, 44, 0), (44, .iaload, 45, 0), (45, .aload_n 0, 46, 0), (46, .getfield 43, 49, 0), (49, .iload_n 2, 50, 0), (50, .iaload, 51, 0), (51, .invokevirtual 319, 54, 0), (54, .ifCond .eq 5, 57, 59), (57, .iload_n 2, 58, 0), (58, .ireturn, 59, 0), (59, .iinc 2 1, 62, 0), (62, .goto (-60), 65, 2), (65, .iconst (-1), 66, 0), (66, .ireturn, 67, 0)]
def sw_mo_lineOf : List (Nat × List (Int32 × Nat) × Nat) := []
set_option maxRecDepth 100000 in
theorem te_mo_lineOf : ∀ q ∈ tb_mo_lineOf, gk_eok (gk_M 230).2.1 q = true := by decide +kernel
set_option maxRecDepth 100000 in
theorem tx_mo_lineOf (oG : List (Nat × gk_G)) : ∀ q ∈ tb_mo_lineOf, gk_xok "DryPlacesModel" pl_mo (1, sw_mo_lineOf, oG) q := by
  have h : tb_mo_lineOf.all (fun q => gk_xokb "DryPlacesModel" pl_mo sw_mo_lineOf q) = true := by decide +kernel
  exact fun q hq => gk_xok_of (List.all_eq_true.mp h q hq)
theorem ok_mo_lineOf (oG : List (Nat × gk_G)) : gk_ok gk_M 230 tb_mo_lineOf pl_mo (1, sw_mo_lineOf, oG) := ⟨te_mo_lineOf, pk_mo, tx_mo_lineOf oG, rfl⟩
def tb_mo_lightOf : gk_T := [(0, .aload_n 0, 1, 0), (1, .getfield 7, 4, 0), (4, .bipush 11, 6, 0), (6, .iload_n 1, 7, 0), (7, .iadd, 8, 0), (8, .iaload, 9, 0), (9, .ifCond .ne 7, 12, 16), (12, .iconst 0, 13, 0), (13, .goto 21, 16, 34), (16, .aload_n 0, 17, 0), (17, .getfield 7, 20, 0), (20, .iconst 5, 21, 0), (21, .aload_n 0, 22, 0), (22, .getfield 7, 25, 0), (25, .bipush 11, 27, 0), (27, .iload_n 1, 28, 0), (28, .iadd, 29, 0), (29, .iaload, 30, 0), (30, .iadd, 31, 0), (31, .iconst 1, 32, 0), (32, .isub, 33, 0), (33, .iaload, 34, 0), (34, .ireturn, 35, 0)]
def sw_mo_lightOf : List (Nat × List (Int32 × Nat) × Nat) := []
set_option maxRecDepth 100000 in
theorem te_mo_lightOf : ∀ q ∈ tb_mo_lightOf, gk_eok (gk_M 231).2.1 q = true := by decide +kernel
set_option maxRecDepth 100000 in
theorem tx_mo_lightOf (oG : List (Nat × gk_G)) : ∀ q ∈ tb_mo_lightOf, gk_xok "DryPlacesModel" pl_mo (1, sw_mo_lightOf, oG) q := by
  have h : tb_mo_lightOf.all (fun q => gk_xokb "DryPlacesModel" pl_mo sw_mo_lightOf q) = true := by decide +kernel
  exact fun q hq => gk_xok_of (List.all_eq_true.mp h q hq)
theorem ok_mo_lightOf (oG : List (Nat × gk_G)) : gk_ok gk_M 231 tb_mo_lightOf pl_mo (1, sw_mo_lightOf, oG) := ⟨te_mo_lightOf, pk_mo, tx_mo_lightOf oG, rfl⟩
def tb_mo_asks : gk_T := [(0, .aload_n 0, 1, 0), (1, .getfield 68, 4, 0), (4, .iconst 0, 5, 0), (5, .aload_n 0, 6, 0), (6, .iload_n 1, 7, 0), (7, .invokevirtual 322, 10, 0), (10, .iastore, 11, 0), (11, .aload_n 0, 12, 0), (12, .getfield 68, 15, 0), (15, .iconst 1, 16, 0), (16, .aload_n 0, 17, 0), (17, .iload_n 1, 18, 0), (18, .invokevirtual 325, 21, 0), (21, .iastore, 22, 0), (22, .aload_n 0, 23, 0), (23, .getfield 68, 26, 0), (26, .iconst 2, 27, 0), (27, .aload_n 0, 28, 0), (28, .getfield 19, 31, 0), (31, .iload_n 1, 32, 0), (32, .iaload, 33, 0), (33, .iastore, 34, 0), (34, .aload_n 0, 35, 0), (35, .getfield 68, 38, 0), (38, .iconst 3, 39, 0), (39, .aload_n 0, 40, 0), (40, .iload_n 1, 41, 0), (41, .invokevirtual 328, 44, 0), (44, .iastore, 45, 0), (45, .aload_n 0, 46, 0), (46, .getfield 68, 49, 0), (49, .iconst 4, 50, 0), (50, .aload_n 0, 51, 0), (51, .getfield 7, 54, 0), (54, .bipush 11, 56, 0), (56, .iload_n 1, 57, 0), (57, .iadd, 58, 0), (58, .iaload, 59, 0), (59, .iastore, 60, 0), (60, .aload_n 0, 61, 0), (61, .getfield 68, 64, 0), (64, .iconst 5, 65, 0), (65, .aload_n 0, 66, 0), (66, .getfield 7, 69, 0), (69, .bipush 31, 71, 0), (71, .iload_n 1, 72, 0), (72, .iadd, 73, 0), (73, .iaload, 74, 0), (74, .iastore, 75, 0), (75, .aload_n 0, 76, 0), (76, .getfield 68, 79, 0), (79, .bipush 6, 81, 0), (81, .aload_n 0, 82, 0), (82, .getfield 7, 85, 0), (85, .bipush 41, 87, 0), (87, .iload_n 1, 88, 0), (88, .iadd, 89, 0), (89, .iaload, 90, 0), (90, .iastore, 91, 0), (91, .aload_n 0, 92, 0), (92, .getfield 68, 95, 0), (95, .bipush 7, 97, 0), (97, .aload_n 0, 98, 0), (98, .getfield 7, 101, 0), (101, .iconst 0, 102, 0), (102, .iaload, 103, 0), (103, .iastore, 104, 0), (104, .aload_n 0, 105, 0), (105, .getfield 68, 108, 0), (108, .bipush 8, 110, 0), (110, .iload_n 2, 111, 0), (111, .iastore, 112, 0), (112, .return_, 113, 0)]
def sw_mo_asks : List (Nat × List (Int32 × Nat) × Nat) := []
set_option maxRecDepth 100000 in
theorem te_mo_asks : ∀ q ∈ tb_mo_asks, gk_eok (gk_M 232).2.1 q = true := by decide +kernel
set_option maxRecDepth 100000 in
theorem tx_mo_asks (oG : List (Nat × gk_G)) : ∀ q ∈ tb_mo_asks, gk_xok "DryPlacesModel" pl_mo (0, sw_mo_asks, oG) q := by
  have h : tb_mo_asks.all (fun q => gk_xokb "DryPlacesModel" pl_mo sw_mo_asks q) = true := by decide +kernel
  exact fun q hq => gk_xok_of (List.all_eq_true.mp h q hq)
theorem ok_mo_asks (oG : List (Nat × gk_G)) : gk_ok gk_M 232 tb_mo_asks pl_mo (0, sw_mo_asks, oG) := ⟨te_mo_asks, pk_mo, tx_mo_asks oG, rfl⟩
def tb_mo_lawTells : gk_T := [(0, .aload_n 0, 1, 0), (1, .iload_n 1, 2, 0), (2, .invokevirtual 331, 5, 0), (5, .istore 4, 7, 0), (7, .aload_n 0, 8, 0), (8, .iload 4, 10, 0), (10, .iconst (-1), 11, 0), (11, .if_icmp .ne 7, 14, 18), (14, .iload_n 2, 15, 0), (15, .goto 22, 18, 37), (18, .aload_n 0, 19, 0), (19, .iconst 0, 20, 0), (20, .aload_n 0, 21, 0), (21, .getfield 37, 24, 0), (24, .iload 4, 26, 0), (26, .iaload, 27, 0), (27, .aload_n 0, 28, 0), (28, .getfield 40, 31, 0), (31, .iload 4, 33, 0), (33, .iaload, 34, 0), (34, .invokevirtual 319, 37, 0), (37, .iconst 0, 38, 0), (38, .iload_n 3, 39, 0), (39, .invokevirtual 334, 42, 0), (42, .ireturn, 43, 0)]
def sw_mo_lawTells : List (Nat × List (Int32 × Nat) × Nat) := []
set_option maxRecDepth 100000 in
theorem te_mo_lawTells : ∀ q ∈ tb_mo_lawTells, gk_eok (gk_M 233).2.1 q = true := by decide +kernel
set_option maxRecDepth 100000 in
theorem tx_mo_lawTells (oG : List (Nat × gk_G)) : ∀ q ∈ tb_mo_lawTells, gk_xok "DryPlacesModel" pl_mo (1, sw_mo_lawTells, oG) q := by
  have h : tb_mo_lawTells.all (fun q => gk_xokb "DryPlacesModel" pl_mo sw_mo_lawTells q) = true := by decide +kernel
  exact fun q hq => gk_xok_of (List.all_eq_true.mp h q hq)
theorem ok_mo_lawTells (oG : List (Nat × gk_G)) : gk_ok gk_M 233 tb_mo_lawTells pl_mo (1, sw_mo_lawTells, oG) := ⟨te_mo_lawTells, pk_mo, tx_mo_lawTells oG, rfl⟩
def tb_mo_creepsOf : gk_T := [(0, .aload_n 0, 1, 0), (1, .iload_n 1, 2, 0), (2, .aload_n 0, 3, 0), (3, .iload_n 1, 4, 0), (4, .iload_n 2, 5, 0), (5, .invokevirtual 147, 8, 0), (8, .invokevirtual 337, 11, 0), (11, .aload_n 0, 12, 0), (12, .iconst 0, 13, 0), (13, .bipush 10, 15, 0), (15, .aload_n 0, 16, 0), (16, .getfield 68, 19, 0), (19, .bipush 8, 21, 0), (21, .iaload, 22, 0), (22, .imul, 23, 0), (23, .sipush 1000, 26, 0), (26, .invokevirtual 340, 29, 0), (29, .ireturn, 30, 0)]
def sw_mo_creepsOf : List (Nat × List (Int32 × Nat) × Nat) := []
set_option maxRecDepth 100000 in
theorem te_mo_creepsOf : ∀ q ∈ tb_mo_creepsOf, gk_eok (gk_M 234).2.1 q = true := by decide +kernel
set_option maxRecDepth 100000 in
theorem tx_mo_creepsOf (oG : List (Nat × gk_G)) : ∀ q ∈ tb_mo_creepsOf, gk_xok "DryPlacesModel" pl_mo (1, sw_mo_creepsOf, oG) q := by
  have h : tb_mo_creepsOf.all (fun q => gk_xokb "DryPlacesModel" pl_mo sw_mo_creepsOf q) = true := by decide +kernel
  exact fun q hq => gk_xok_of (List.all_eq_true.mp h q hq)
theorem ok_mo_creepsOf (oG : List (Nat × gk_G)) : gk_ok gk_M 234 tb_mo_creepsOf pl_mo (1, sw_mo_creepsOf, oG) := ⟨te_mo_creepsOf, pk_mo, tx_mo_creepsOf oG, rfl⟩
def tb_mo_worthOf : gk_T := [(0, .aload_n 0, 1, 0), (1, .iload_n 1, 2, 0), (2, .iconst 0, 3, 0), (3, .invokevirtual 337, 6, 0), (6, .aload_n 0, 7, 0), (7, .iconst 1, 8, 0), (8, .iconst 5, 9, 0), (9, .aload_n 0, 10, 0), (10, .getfield 68, 13, 0), (13, .iconst 0, 14, 0), (14, .iaload, 15, 0), (15, .imul, 16, 0), (16, .aload_n 0, 17, 0), (17, .getfield 19, 20, 0), (20, .iload_n 1, 21, 0), (21, .iaload, 22, 0), (22, .iadd, 23, 0), (23, .sipush 9999, 26, 0), (26, .invokevirtual 340, 29, 0), (29, .ireturn, 30, 0)]
def sw_mo_worthOf : List (Nat × List (Int32 × Nat) × Nat) := []
set_option maxRecDepth 100000 in
theorem te_mo_worthOf : ∀ q ∈ tb_mo_worthOf, gk_eok (gk_M 235).2.1 q = true := by decide +kernel
set_option maxRecDepth 100000 in
theorem tx_mo_worthOf (oG : List (Nat × gk_G)) : ∀ q ∈ tb_mo_worthOf, gk_xok "DryPlacesModel" pl_mo (1, sw_mo_worthOf, oG) q := by
  have h : tb_mo_worthOf.all (fun q => gk_xokb "DryPlacesModel" pl_mo sw_mo_worthOf q) = true := by decide +kernel
  exact fun q hq => gk_xok_of (List.all_eq_true.mp h q hq)
theorem ok_mo_worthOf (oG : List (Nat × gk_G)) : gk_ok gk_M 235 tb_mo_worthOf pl_mo (1, sw_mo_worthOf, oG) := ⟨te_mo_worthOf, pk_mo, tx_mo_worthOf oG, rfl⟩
def tb_mo_comesOf : gk_T := [(0, .aload_n 0, 1, 0), (1, .iload_n 1, 2, 0), (2, .iconst 0, 3, 0), (3, .invokevirtual 337, 6, 0), (6, .aload_n 0, 7, 0), (7, .iconst 2, 8, 0), (8, .aload_n 0, 9, 0), (9, .getfield 68, 12, 0), (12, .iconst 3, 13, 0), (13, .iaload, 14, 0), (14, .aload_n 0, 15, 0), (15, .getfield 68, 18, 0), (18, .iconst 0, 19, 0), (19, .iaload, 20, 0), (20, .bipush 8, 22, 0), (22, .idiv, 23, 0), (23, .iadd, 24, 0), (24, .bipush 99, 26, 0), (26, .invokevirtual 340, 29, 0), (29, .ireturn, 30, 0)]
def sw_mo_comesOf : List (Nat × List (Int32 × Nat) × Nat) := []
set_option maxRecDepth 100000 in
theorem te_mo_comesOf : ∀ q ∈ tb_mo_comesOf, gk_eok (gk_M 236).2.1 q = true := by decide +kernel
set_option maxRecDepth 100000 in
theorem tx_mo_comesOf (oG : List (Nat × gk_G)) : ∀ q ∈ tb_mo_comesOf, gk_xok "DryPlacesModel" pl_mo (1, sw_mo_comesOf, oG) q := by
  have h : tb_mo_comesOf.all (fun q => gk_xokb "DryPlacesModel" pl_mo sw_mo_comesOf q) = true := by decide +kernel
  exact fun q hq => gk_xok_of (List.all_eq_true.mp h q hq)
theorem ok_mo_comesOf (oG : List (Nat × gk_G)) : gk_ok gk_M 236 tb_mo_comesOf pl_mo (1, sw_mo_comesOf, oG) := ⟨te_mo_comesOf, pk_mo, tx_mo_comesOf oG, rfl⟩
end
