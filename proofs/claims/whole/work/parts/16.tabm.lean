/-! the methods, by number (written by a program: wip/whole/tools/gen_tab.py) -/
def gk_tbk (k : Nat) : List Cond := match k with
  | 0 => k2_sels lw_privs
  | 1 => tables_1_1
  | 2 => tables_1_2
  | 3 => tables_1_3
  | 4 => tables_1_4
  | 5 => tables_1_5
  | 6 => tables_1_6
  | 7 => tables_1_7
  | _ => tables_1_8
theorem gk_tbk_in {k : Nat} {w : Cond} (h : w ∈ gk_tbk k) : w ∈ lw_tbl := by
  unfold lw_tbl
  unfold gk_tbk at h
  split at h
  · exact List.mem_append_left _ h
  all_goals (refine List.mem_append_right _ ?_; unfold tables_1; simp only [List.mem_append]; first | exact Or.inl h | exact Or.inr (Or.inl h) | exact Or.inr (Or.inr (Or.inl h)) | exact Or.inr (Or.inr (Or.inr (Or.inl h))) | exact Or.inr (Or.inr (Or.inr (Or.inr (Or.inl h)))) | exact Or.inr (Or.inr (Or.inr (Or.inr (Or.inr (Or.inl h))))) | exact Or.inr (Or.inr (Or.inr (Or.inr (Or.inr (Or.inr (Or.inl h)))))) | exact Or.inr (Or.inr (Or.inr (Or.inr (Or.inr (Or.inr (Or.inr h)))))))
theorem gk_mem {w : Cond} (k i : Nat) (h : (gk_tbk k)[i]? = some w) (g : goodWord w = true) : w ∈ gk_TT := gk_TT_of (gk_tbk_in (List.mem_of_getElem? h)) g
theorem gk_m2 {a b : Cond} (ha : a ∈ gk_TT) (hb : b ∈ gk_TT) : ∀ w ∈ ([a, b] : List Cond), w ∈ gk_TT := List.forall_mem_cons.mpr ⟨ha, List.forall_mem_cons.mpr ⟨hb, fun _ h => absurd h List.not_mem_nil⟩⟩
theorem gk_m3 {a b c : Cond} (ha : a ∈ gk_TT) (hb : b ∈ gk_TT) (hc : c ∈ gk_TT) : ∀ w ∈ ([a, b, c] : List Cond), w ∈ gk_TT := List.forall_mem_cons.mpr ⟨ha, gk_m2 hb hc⟩
theorem gk_m4 {a b c e : Cond} (ha : a ∈ gk_TT) (hb : b ∈ gk_TT) (hc : c ∈ gk_TT) (he : e ∈ gk_TT) : ∀ w ∈ ([a, b, c, e] : List Cond), w ∈ gk_TT := List.forall_mem_cons.mpr ⟨ha, gk_m3 hb hc he⟩
theorem gk_fn {α : Type} {P : α → Prop} : ∀ e ∈ ([] : List α), P e := fun _ h => absurd h List.not_mem_nil
theorem gk_ap {α : Type} {P : α → Prop} {a b : List α} (ha : ∀ e ∈ a, P e) (hb : ∀ e ∈ b, P e) : ∀ e ∈ a ++ b, P e := fun e h => (List.mem_append.mp h).elim (ha e) (hb e)
theorem gk_fc {α : Type} {P : α → Prop} {a : α} {l : List α} (h : P a) (t : ∀ e ∈ l, P e) : ∀ e ∈ a :: l, P e := List.forall_mem_cons.mpr ⟨h, t⟩
def gk_Ms : List gk_J := [(⟨"DryPlaces$Ground", "isDry", "(JI)Z"⟩, prog_2_method_2_code, 3, some .boolean),
  (⟨"DryPlaces$Ground", "rowOf", "(JI)I"⟩, prog_2_method_3_code, 3, some .int),
  (⟨"DryPlaces$Ground", "withRow", "(JII)J"⟩, prog_2_method_4_code, 4, some .long),
  (⟨"DryPlaces$Ground", "up", "(J)J"⟩, prog_2_method_5_code, 2, some .long),
  (⟨"DryPlaces$Ground", "down", "(J)J"⟩, prog_2_method_6_code, 2, some .long),
  (⟨"DryPlaces$Ground", "left", "(J)J"⟩, prog_2_method_7_code, 2, some .long),
  (⟨"DryPlaces$Ground", "right", "(J)J"⟩, prog_2_method_8_code, 2, some .long),
  (⟨"DryPlaces$Ground", "beside", "(J)J"⟩, prog_2_method_9_code, 2, some .long),
  (⟨"DryPlaces$Ground", "firstOf", "(J)I"⟩, prog_2_method_10_code, 2, some .int),
  (⟨"DryPlaces$Ground", "wetBeside", "(JI)I"⟩, prog_2_method_11_code, 3, some .int),
  (⟨"DryPlaces$Ground", "edges", "(J)I"⟩, prog_2_method_12_code, 2, some .int),
  (⟨"DryPlaces$Ground", "partOf", "(JJ)J"⟩, prog_2_method_13_code, 9, some .long),
  (⟨"DryPlaces$Ground", "parts", "(J)I"⟩, prog_2_method_14_code, 6, some .int),
  (⟨"DryPlaces$Ground", "holes", "(J)I"⟩, prog_2_method_15_code, 4, some .int),
  (⟨"DryPlaces$Ground", "shrunk", "(JI)J"⟩, prog_2_method_16_code, 6, some .long),
  (⟨"DryPlaces$Ground", "depth", "(J)I"⟩, prog_2_method_17_code, 6, some .int),
  (⟨"DryPlaces$Ground", "turnedCell", "(II)I"⟩, prog_2_method_18_code, 6, some .int),
  (⟨"DryPlaces$Ground", "turnedBy", "(JI)J"⟩, prog_2_method_19_code, 6, some .long),
  (⟨"DryPlaces$Ground", "cornered", "(J)J"⟩, prog_2_method_20_code, 5, some .long),
  (⟨"DryPlaces$Ground", "squareCorners", "(JI)J"⟩, prog_2_method_21_code, 6, some .long),
  (⟨"DryPlaces$Ground", "squareSide", "(J)I"⟩, prog_2_method_22_code, 4, some .int),
  (⟨"DryPlaces$Ground", "squaresFrom", "(JI)J"⟩, prog_2_method_23_code, 6, some .long),
  (⟨"DryPlaces$Ground", "pushed", "(JII)J"⟩, prog_2_method_24_code, 6, some .long),
  (⟨"DryPlaces$Ground", "overlap", "(JJII)I"⟩, prog_2_method_25_code, 6, some .int),
  (⟨"DryPlaces$Ground", "couples", "(JJI)I"⟩, prog_2_method_26_code, 7, some .int),
  (⟨"DryPlaces$Ground", "bestPush", "(JJ)I"⟩, prog_2_method_27_code, 8, some .int),
  (⟨"DryPlaces$Ground", "fewestSteps", "(JII)I"⟩, prog_2_method_28_code, 7, some .int),
  (⟨"DryPlaces$Ground", "fewestTurnings", "(JII)I"⟩, prog_2_method_29_code, 7, some .int),
  (⟨"DryPlaces$Ground", "straightFrom", "(JJ)J"⟩, prog_2_method_30_code, 13, some .long),
  (⟨"DryPlaces$Ground", "sumOf", "(JI)I"⟩, prog_2_method_31_code, 5, some .int),
  (⟨"DryPlaces$Ground", "hasSameSums", "(JJ)Z"⟩, prog_2_method_32_code, 5, some .boolean),
  (⟨"DryPlaces$Ground", "firstSwitch", "(J)I"⟩, prog_2_method_33_code, 5, some .int),
  (⟨"DryPlaces$Ground", "switchColumns", "(II)I"⟩, prog_2_method_34_code, 6, some .int),
  (⟨"DryPlaces$Ground", "isLie", "(JII)Z"⟩, prog_2_method_35_code, 6, some .boolean),
  (⟨"DryPlaces$Ground", "standings", "(J)I"⟩, prog_2_method_36_code, 4, some .int),
  (⟨"DryPlaces$Ground", "rightHeels", "(I)J"⟩, prog_2_method_37_code, 6, some .long),
  (⟨"DryPlaces$Keeper", "<init>", "(LDryPlaces$World;LDryPlaces$Texts;LDryPlaces$Teller;[I)V"⟩, prog_3_method_1_code, 5, none),
  (⟨"DryPlaces$Keeper", "canDo", "(III)Z"⟩, prog_3_method_2_code, 4, some .boolean),
  (⟨"DryPlaces$Keeper", "carryOut", "(III)V"⟩, prog_3_method_3_code, 4, none),
  (⟨"DryPlaces$Keeper", "purchase", "(II)V"⟩, prog_3_method_4_code, 3, none),
  (⟨"DryPlaces$Keeper", "partWith", "(II)V"⟩, prog_3_method_5_code, 3, none),
  (⟨"DryPlaces$Keeper", "note", "(III)V"⟩, prog_3_method_6_code, 5, none),
  (⟨"DryPlaces$Keeper", "passDay", "()I"⟩, prog_3_method_7_code, 3, some .int),
  (⟨"DryPlaces$Keeper", "keepDiary", "()V"⟩, prog_3_method_8_code, 6, none),
  (⟨"DryPlaces$Keeper", "creepIn", "(I)I"⟩, prog_3_method_9_code, 9, some .int),
  (⟨"DryPlaces$Keeper", "isHit", "(I)Z"⟩, prog_3_method_10_code, 2, some .boolean),
  (⟨"DryPlaces$Keeper", "receive", "(I)V"⟩, prog_3_method_11_code, 3, none),
  (⟨"DryPlaces$Law", "<init>", "()V"⟩, prog_4_method_1_code, 1, none),
  (⟨"DryPlaces$Law", "clear", "()V"⟩, prog_4_method_2_code, 1, none),
  (⟨"DryPlaces$Law", "copy", "(LDryPlaces$Law;)V"⟩, prog_4_method_3_code, 2, none),
  (⟨"DryPlaces$Law", "begin", "(I)V"⟩, prog_4_method_4_code, 2, none),
  (⟨"DryPlaces$Law", "beginWhen", "()V"⟩, prog_4_method_5_code, 1, none),
  (⟨"DryPlaces$Law", "finish", "()V"⟩, prog_4_method_6_code, 1, none),
  (⟨"DryPlaces$Law", "add", "(II)V"⟩, prog_4_method_7_code, 3, none),
  (⟨"DryPlaces$Parser", "<init>", "(LDryPlaces$Tape;)V"⟩, prog_5_method_1_code, 2, none),
  (⟨"DryPlaces$Parser", "parse", "(II)Z"⟩, prog_5_method_2_code, 5, some .boolean),
  (⟨"DryPlaces$Parser", "canBegin", "(I)Z"⟩, prog_5_method_3_code, 2, some .boolean),
  (⟨"DryPlaces$Parser", "refuse", "(I)Z"⟩, prog_5_method_4_code, 2, some .boolean),
  (⟨"DryPlaces$Parser", "step", "()V"⟩, prog_5_method_5_code, 1, none),
  (⟨"DryPlaces$Parser", "take", "(I)Z"⟩, prog_5_method_6_code, 2, some .boolean),
  (⟨"DryPlaces$Parser", "takeNumber", "(III)I"⟩, prog_5_method_7_code, 5, some .int),
  (⟨"DryPlaces$Parser", "takePlace", "(I)I"⟩, prog_5_method_8_code, 2, some .int),
  (⟨"DryPlaces$Parser", "takeRoom", "(I)I"⟩, prog_5_method_9_code, 2, some .int),
  (⟨"DryPlaces$Parser", "readPassage", "()Z"⟩, prog_5_method_10_code, 4, some .boolean),
  (⟨"DryPlaces$Parser", "readVoucher", "()Z"⟩, prog_5_method_11_code, 3, some .boolean),
  (⟨"DryPlaces$Parser", "readEntry", "()Z"⟩, prog_5_method_12_code, 5, some .boolean),
  (⟨"DryPlaces$Parser", "actOfWord", "()I"⟩, prog_5_method_13_code, 1, some .int),
  (⟨"DryPlaces$Parser", "takeDetail", "(I)I"⟩, prog_5_method_14_code, 2, some .int),
  (⟨"DryPlaces$Parser", "readLaw", "()Z"⟩, prog_5_method_15_code, 1, some .boolean),
  (⟨"DryPlaces$Parser", "readCondition", "(I)Z"⟩, prog_5_method_16_code, 5, some .boolean),
  (⟨"DryPlaces$Parser", "readOne", "(I)Z"⟩, prog_5_method_17_code, 4, some .boolean),
  (⟨"DryPlaces$Parser", "comparison", "()I"⟩, prog_5_method_18_code, 1, some .int),
  (⟨"DryPlaces$Parser", "readSum", "()Z"⟩, prog_5_method_19_code, 5, some .boolean),
  (⟨"DryPlaces$Parser", "addWaiting", "(I)V"⟩, prog_5_method_20_code, 2, none),
  (⟨"DryPlaces$Parser", "isReckoning", "()Z"⟩, prog_5_method_21_code, 1, some .boolean),
  (⟨"DryPlaces$Parser", "readUnit", "()Z"⟩, prog_5_method_22_code, 1, some .boolean),
  (⟨"DryPlaces$Past", "<init>", "()V"⟩, prog_6_method_1_code, 2, none),
  (⟨"DryPlaces$Past", "keep", "(LDryPlaces$World;)V"⟩, prog_6_method_2_code, 2, none),
  (⟨"DryPlaces$Past", "goBack", "(LDryPlaces$World;)Z"⟩, prog_6_method_3_code, 2, some .boolean),
  (⟨"DryPlaces$Past", "forget", "()V"⟩, prog_6_method_4_code, 1, none),
  (⟨"DryPlaces$Tape", "<init>", "()V"⟩, prog_7_method_1_code, 1, none),
  (⟨"DryPlaces$Tape", "hasSpaceForFive", "()Z"⟩, prog_7_method_2_code, 1, some .boolean),
  (⟨"DryPlaces$Tape", "append", "(I)V"⟩, prog_7_method_3_code, 3, none),
  (⟨"DryPlaces$Tape", "cutUp", "()V"⟩, prog_7_method_4_code, 2, none),
  (⟨"DryPlaces$Tape", "skipBlanks", "()V"⟩, prog_7_method_5_code, 1, none),
  (⟨"DryPlaces$Tape", "readWord", "(I)V"⟩, prog_7_method_6_code, 6, none),
  (⟨"DryPlaces$Tape", "isWordAt", "(III)Z"⟩, prog_7_method_7_code, 5, some .boolean),
  (⟨"DryPlaces$Tape", "readNumber", "(I)V"⟩, prog_7_method_8_code, 3, none),
  (⟨"DryPlaces$Tape", "isLetter", "(I)Z"⟩, prog_7_method_9_code, 2, some .boolean),
  (⟨"DryPlaces$Tape", "isDigit", "(I)Z"⟩, prog_7_method_10_code, 2, some .boolean),
  (⟨"DryPlaces$Teller", "<init>", "(LDryPlaces$Law;)V"⟩, prog_8_method_1_code, 2, none),
  (⟨"DryPlaces$Teller", "worthOf", "(LDryPlaces$World;I)I"⟩, prog_8_method_2_code, 3, some .int),
  (⟨"DryPlaces$Teller", "comersTo", "(LDryPlaces$World;I)I"⟩, prog_8_method_3_code, 3, some .int),
  (⟨"DryPlaces$Teller", "chanceIn", "(LDryPlaces$World;II)I"⟩, prog_8_method_4_code, 4, some .int),
  (⟨"DryPlaces$Teller", "held", "(II)I"⟩, prog_8_method_5_code, 2, some .int),
  (⟨"DryPlaces$Teller", "face", "(LDryPlaces$World;II)V"⟩, prog_8_method_6_code, 5, none),
  (⟨"DryPlaces$Teller", "ask", "(II)I"⟩, prog_8_method_7_code, 5, some .int),
  (⟨"DryPlaces$Teller", "run", "(II)I"⟩, prog_8_method_8_code, 7, some .int),
  (⟨"DryPlaces$Teller", "changed", "(III)I"⟩, prog_8_method_9_code, 3, some .int),
  (⟨"DryPlaces$Teller", "joined", "(III)I"⟩, prog_8_method_10_code, 3, some .int),
  (⟨"DryPlaces$Texts", "<init>", "()V"⟩, prog_9_method_1_code, 1, none),
  (⟨"DryPlaces$Texts", "count", "(I)I"⟩, prog_9_method_2_code, 2, some .int),
  (⟨"DryPlaces$Texts", "clearOne", "(I)V"⟩, prog_9_method_3_code, 2, none),
  (⟨"DryPlaces$Texts", "copyOne", "(ILDryPlaces$Texts;)V"⟩, prog_9_method_4_code, 3, none),
  (⟨"DryPlaces$Texts", "copyAll", "(LDryPlaces$Texts;)V"⟩, prog_9_method_5_code, 3, none),
  (⟨"DryPlaces$Texts", "addPassage", "(III)V"⟩, prog_9_method_6_code, 5, none),
  (⟨"DryPlaces$Texts", "addVoucher", "(II)V"⟩, prog_9_method_7_code, 3, none),
  (⟨"DryPlaces$Texts", "addEntry", "(IIII)V"⟩, prog_9_method_8_code, 6, none),
  (⟨"DryPlaces$Tour", "<init>", "()V"⟩, prog_10_method_1_code, 1, none),
  (⟨"DryPlaces$Tour", "lastRoom", "([II)I"⟩, prog_10_method_2_code, 5, some .int),
  (⟨"DryPlaces$Tour", "lengthTo", "(I)I"⟩, prog_10_method_3_code, 2, some .int),
  (⟨"DryPlaces$Tour", "measure", "([I)V"⟩, prog_10_method_4_code, 6, none),
  (⟨"DryPlaces$Tour", "goOn", "(II)V"⟩, prog_10_method_5_code, 6, none),
  (⟨"DryPlaces$World", "<init>", "()V"⟩, prog_11_method_1_code, 1, none),
  (⟨"DryPlaces$World", "copy", "(LDryPlaces$World;)V"⟩, prog_11_method_2_code, 2, none),
  (⟨"DryPlaces$World", "add", "(I)I"⟩, prog_11_method_3_code, 2, some .int),
  (⟨"DryPlaces$World", "has", "(I)Z"⟩, prog_11_method_4_code, 2, some .boolean),
  (⟨"DryPlaces$World", "isOwned", "(I)Z"⟩, prog_11_method_5_code, 2, some .boolean),
  (⟨"DryPlaces$World", "isHosed", "(I)Z"⟩, prog_11_method_6_code, 2, some .boolean),
  (⟨"DryPlaces$World", "isShown", "(I)Z"⟩, prog_11_method_7_code, 2, some .boolean),
  (⟨"DryPlaces$World", "earn", "(I)V"⟩, prog_11_method_8_code, 2, none),
  (⟨"DryPlaces$World", "drawOfThousand", "()I"⟩, prog_11_method_9_code, 1, some .int),
  (⟨"DryPlaces$World", "dryOf", "(I)I"⟩, prog_11_method_10_code, 4, some .int),
  (⟨"DryPlaces$World", "dryOfOwned", "()I"⟩, prog_11_method_11_code, 1, some .int),
  (⟨"DryPlaces", "<init>", "()V"⟩, prog_1_method_1_code, 1, none),
  (⟨"DryPlaces", "state", "(I)I"⟩, prog_1_method_2_code, 3, some .int),
  (⟨"DryPlaces", "place", "(I)I"⟩, prog_1_method_3_code, 2, some .int),
  (⟨"DryPlaces", "row", "(III)Z"⟩, prog_1_method_4_code, 4, some .boolean),
  (⟨"DryPlaces", "purse", "(I)Z"⟩, prog_1_method_5_code, 2, some .boolean),
  (⟨"DryPlaces", "act", "(III)Z"⟩, prog_1_method_6_code, 4, some .boolean),
  (⟨"DryPlaces", "days", "(I)I"⟩, prog_1_method_7_code, 4, some .int),
  (⟨"DryPlaces", "feed", "(IIIII)I"⟩, prog_1_method_8_code, 6, some .int),
  (⟨"DryPlaces", "end", "(I)Z"⟩, prog_1_method_9_code, 2, some .boolean),
  (⟨"DryPlaces", "text", "(I)I"⟩, prog_1_method_10_code, 3, some .int),
  (⟨"DryPlaces", "fault", "(I)I"⟩, prog_1_method_11_code, 2, some .int),
  (⟨"DryPlaces", "of", "(II)I"⟩, prog_1_method_12_code, 3, some .int),
  (⟨"DryPlaces", "creeps", "(II)I"⟩, prog_1_method_13_code, 3, some .int),
  (⟨"DryPlaces", "room", "(II)I"⟩, prog_1_method_14_code, 4, some .int),
  (⟨"DryPlaces", "book", "(II)I"⟩, prog_1_method_15_code, 3, some .int),
  (⟨"DryPlaces", "goes", "(II)I"⟩, prog_1_method_16_code, 4, some .int),
  (⟨"DryPlaces", "shape", "(II)I"⟩, prog_1_method_17_code, 5, some .int),
  (⟨"DryPlaces", "turned", "(II)I"⟩, prog_1_method_18_code, 6, some .int),
  (⟨"DryPlaces", "square", "(II)I"⟩, prog_1_method_19_code, 7, some .int),
  (⟨"DryPlaces", "fit", "(III)I"⟩, prog_1_method_20_code, 5, some .int),
  (⟨"DryPlaces", "walk", "(IIII)I"⟩, prog_1_method_21_code, 7, some .int),
  (⟨"DryPlaces", "sums", "(II)I"⟩, prog_1_method_22_code, 5, some .int),
  (⟨"DryPlaces", "buys", "(II)I"⟩, prog_1_method_23_code, 6, some .int),
  (⟨"DryPlaces", "tour", "(II)I"⟩, prog_1_method_24_code, 4, some .int),
  (⟨"DryPlaces", "vouched", "(I)I"⟩, prog_1_method_25_code, 4, some .int),
  (⟨"DryPlaces", "lie", "(III)I"⟩, prog_1_method_26_code, 4, some .int),
  (⟨"DryPlaces", "feet", "(I)I"⟩, prog_1_method_27_code, 2, some .int),
  (⟨"DryPlaces", "game", "(I)I"⟩, prog_1_method_28_code, 5, some .int),
  (⟨"DryPlaces", "undo", "()Z"⟩, prog_1_method_29_code, 1, some .boolean),
  (⟨"DryPlaces", "image", "(Z)Z"⟩, prog_1_method_30_code, 2, some .boolean),
  (⟨"DryPlaces", "look", "(I)I"⟩, prog_1_method_31_code, 2, some .int),
  (⟨"DryPlaces", "isWithin", "(III)Z"⟩, prog_1_method_32_code, 3, some .boolean),
  (⟨"DryPlaces", "isCell", "(I)Z"⟩, prog_1_method_33_code, 1, some .boolean),
  (⟨"DryPlaces", "isRoom", "(I)Z"⟩, prog_1_method_34_code, 1, some .boolean),
  (⟨"DryPlaces", "priceOf", "(I)I"⟩, prog_1_method_35_code, 4, some .int),
  (⟨"DryPlaces", "vouchersOfAll", "(I)I"⟩, prog_1_method_36_code, 4, some .int),
  (⟨"DryPlaces", "heapOf", "(I)I"⟩, prog_1_method_37_code, 2, some .int),
  (⟨"DryPlaces", "winningTake", "(II)I"⟩, prog_1_method_38_code, 4, some .int),
  (⟨"DryPlacesModel", "<init>", "()V"⟩, prog_13_method_1_code, 1, none),
  (⟨"DryPlacesModel", "isIn", "(III)Z"⟩, prog_13_method_3_code, 4, some .boolean),
  (⟨"DryPlacesModel", "held", "(III)I"⟩, prog_13_method_4_code, 4, some .int),
  (⟨"DryPlacesModel", "greater", "(II)I"⟩, prog_13_method_5_code, 3, some .int),
  (⟨"DryPlacesModel", "lesser", "(II)I"⟩, prog_13_method_6_code, 3, some .int),
  (⟨"DryPlacesModel", "apart", "(II)I"⟩, prog_13_method_7_code, 3, some .int),
  (⟨"DryPlacesModel", "onesOf", "(I)I"⟩, prog_13_method_8_code, 4, some .int),
  (⟨"DryPlacesModel", "has", "(II)Z"⟩, prog_13_method_9_code, 3, some .boolean),
  (⟨"DryPlacesModel", "keepsAhead", "()V"⟩, prog_13_method_10_code, 2, none),
  (⟨"DryPlacesModel", "undo", "()Z"⟩, prog_13_method_11_code, 2, some .boolean),
  (⟨"DryPlacesModel", "thinks", "()V"⟩, prog_13_method_12_code, 2, none),
  (⟨"DryPlacesModel", "endsThought", "()V"⟩, prog_13_method_13_code, 2, none),
  (⟨"DryPlacesModel", "state", "(I)I"⟩, prog_13_method_14_code, 3, some .int),
  (⟨"DryPlacesModel", "draw", "(I)I"⟩, prog_13_method_15_code, 2, some .int),
  (⟨"DryPlacesModel", "isPlace", "(I)Z"⟩, prog_13_method_16_code, 2, some .boolean),
  (⟨"DryPlacesModel", "isCell", "(I)Z"⟩, prog_13_method_17_code, 2, some .boolean),
  (⟨"DryPlacesModel", "rowAt", "(II)I"⟩, prog_13_method_18_code, 3, some .int),
  (⟨"DryPlacesModel", "isDry", "(III)Z"⟩, prog_13_method_19_code, 4, some .boolean),
  (⟨"DryPlacesModel", "isDryCell", "(II)Z"⟩, prog_13_method_20_code, 3, some .boolean),
  (⟨"DryPlacesModel", "wetBeside", "(II)I"⟩, prog_13_method_21_code, 5, some .int),
  (⟨"DryPlacesModel", "dryOf", "(I)I"⟩, prog_13_method_22_code, 4, some .int),
  (⟨"DryPlacesModel", "edgesOf", "(I)I"⟩, prog_13_method_23_code, 4, some .int),
  (⟨"DryPlacesModel", "place", "(I)I"⟩, prog_13_method_24_code, 3, some .int),
  (⟨"DryPlacesModel", "row", "(III)Z"⟩, prog_13_method_25_code, 4, some .boolean),
  (⟨"DryPlacesModel", "purse", "(I)Z"⟩, prog_13_method_26_code, 2, some .boolean),
  (⟨"DryPlacesModel", "types", "(I)V"⟩, prog_13_method_27_code, 3, none),
  (⟨"DryPlacesModel", "feed", "(IIIII)I"⟩, prog_13_method_28_code, 6, some .int),
  (⟨"DryPlacesModel", "end", "(I)Z"⟩, prog_13_method_29_code, 2, some .boolean),
  (⟨"DryPlacesModel", "raw", "(I)I"⟩, prog_13_method_30_code, 2, some .int),
  (⟨"DryPlacesModel", "isLetter", "(I)Z"⟩, prog_13_method_31_code, 2, some .boolean),
  (⟨"DryPlacesModel", "isDigit", "(I)Z"⟩, prog_13_method_32_code, 2, some .boolean),
  (⟨"DryPlacesModel", "isMarkSign", "(I)Z"⟩, prog_13_method_33_code, 2, some .boolean),
  (⟨"DryPlacesModel", "wordAt", "(II)I"⟩, prog_13_method_34_code, 6, some .int),
  (⟨"DryPlacesModel", "reads", "()V"⟩, prog_13_method_35_code, 2, none),
  (⟨"DryPlacesModel", "errs", "(I)I"⟩, prog_13_method_36_code, 2, some .int),
  (⟨"DryPlacesModel", "isWord", "(I)Z"⟩, prog_13_method_37_code, 2, some .boolean),
  (⟨"DryPlacesModel", "isSign", "(I)Z"⟩, prog_13_method_38_code, 2, some .boolean),
  (⟨"DryPlacesModel", "emits", "(II)V"⟩, prog_13_method_39_code, 3, none),
  (⟨"DryPlacesModel", "canAsk", "(I)Z"⟩, prog_13_method_40_code, 2, some .boolean),
  (⟨"DryPlacesModel", "readUnit", "()I"⟩, prog_13_method_41_code, 2, some .int),
  (⟨"DryPlacesModel", "readProduct", "()I"⟩, prog_13_method_42_code, 2, some .int),
  (⟨"DryPlacesModel", "readSum", "()I"⟩, prog_13_method_43_code, 2, some .int),
  (⟨"DryPlacesModel", "readCompared", "()I"⟩, prog_13_method_44_code, 2, some .int),
  (⟨"DryPlacesModel", "waits", "(I)V"⟩, prog_13_method_45_code, 2, none),
  (⟨"DryPlacesModel", "settles", "(I)V"⟩, prog_13_method_46_code, 2, none),
  (⟨"DryPlacesModel", "readAny", "()I"⟩, prog_13_method_47_code, 4, some .int),
  (⟨"DryPlacesModel", "isLineWord", "()Z"⟩, prog_13_method_48_code, 1, some .boolean),
  (⟨"DryPlacesModel", "readLaw", "()I"⟩, prog_13_method_49_code, 3, some .int),
  (⟨"DryPlacesModel", "takesLaw", "(I)V"⟩, prog_13_method_50_code, 3, none),
  (⟨"DryPlacesModel", "readNumber", "(II)I"⟩, prog_13_method_51_code, 4, some .int),
  (⟨"DryPlacesModel", "readMark", "(I)I"⟩, prog_13_method_52_code, 2, some .int),
  (⟨"DryPlacesModel", "readTold", "(III)I"⟩, prog_13_method_53_code, 4, some .int),
  (⟨"DryPlacesModel", "readOther", "(III)I"⟩, prog_13_method_54_code, 4, some .int),
  (⟨"DryPlacesModel", "takesPassage", "(II)V"⟩, prog_13_method_55_code, 3, none),
  (⟨"DryPlacesModel", "readPassage", "()I"⟩, prog_13_method_56_code, 4, some .int),
  (⟨"DryPlacesModel", "readPassages", "()I"⟩, prog_13_method_57_code, 2, some .int),
  (⟨"DryPlacesModel", "kindOfDeed", "()I"⟩, prog_13_method_58_code, 1, some .int),
  (⟨"DryPlacesModel", "readDeedMore", "(I)I"⟩, prog_13_method_59_code, 2, some .int),
  (⟨"DryPlacesModel", "readDeed", "(I)I"⟩, prog_13_method_60_code, 3, some .int),
  (⟨"DryPlacesModel", "readDiary", "()I"⟩, prog_13_method_61_code, 2, some .int),
  (⟨"DryPlacesModel", "readVouch", "()I"⟩, prog_13_method_62_code, 3, some .int),
  (⟨"DryPlacesModel", "readVouches", "()I"⟩, prog_13_method_63_code, 2, some .int),
  (⟨"DryPlacesModel", "readsText", "(I)I"⟩, prog_13_method_64_code, 2, some .int),
  (⟨"DryPlacesModel", "takesOther", "(II)V"⟩, prog_13_method_65_code, 4, none),
  (⟨"DryPlacesModel", "text", "(I)I"⟩, prog_13_method_66_code, 3, some .int),
  (⟨"DryPlacesModel", "fault", "(I)I"⟩, prog_13_method_67_code, 2, some .int),
  (⟨"DryPlacesModel", "twoOf", "(III)I"⟩, prog_13_method_68_code, 4, some .int),
  (⟨"DryPlacesModel", "runs", "(III)I"⟩, prog_13_method_69_code, 6, some .int),
  (⟨"DryPlacesModel", "lineOf", "(I)I"⟩, prog_13_method_70_code, 3, some .int),
  (⟨"DryPlacesModel", "lightOf", "(I)I"⟩, prog_13_method_71_code, 2, some .int),
  (⟨"DryPlacesModel", "asks", "(II)V"⟩, prog_13_method_72_code, 3, none),
  (⟨"DryPlacesModel", "lawTells", "(III)I"⟩, prog_13_method_73_code, 5, some .int),
  (⟨"DryPlacesModel", "creepsOf", "(II)I"⟩, prog_13_method_74_code, 3, some .int),
  (⟨"DryPlacesModel", "worthOf", "(I)I"⟩, prog_13_method_75_code, 2, some .int),
  (⟨"DryPlacesModel", "comesOf", "(I)I"⟩, prog_13_method_76_code, 2, some .int),
  (⟨"DryPlacesModel", "notes", "(III)V"⟩, prog_13_method_77_code, 5, none),
  (⟨"DryPlacesModel", "getsPaid", "(I)V"⟩, prog_13_method_78_code, 2, none),
  (⟨"DryPlacesModel", "isTold", "(III)Z"⟩, prog_13_method_79_code, 4, some .boolean),
  (⟨"DryPlacesModel", "canAct", "(III)Z"⟩, prog_13_method_80_code, 4, some .boolean),
  (⟨"DryPlacesModel", "isBought", "(I)V"⟩, prog_13_method_81_code, 3, none),
  (⟨"DryPlacesModel", "sells", "(I)V"⟩, prog_13_method_82_code, 3, none),
  (⟨"DryPlacesModel", "hoses", "(II)V"⟩, prog_13_method_83_code, 3, none),
  (⟨"DryPlacesModel", "wets", "(II)V"⟩, prog_13_method_84_code, 3, none),
  (⟨"DryPlacesModel", "acts", "(III)V"⟩, prog_13_method_85_code, 4, none),
  (⟨"DryPlacesModel", "act", "(III)Z"⟩, prog_13_method_86_code, 4, some .boolean),
  (⟨"DryPlacesModel", "creepsOn", "(I)I"⟩, prog_13_method_87_code, 5, some .int),
  (⟨"DryPlacesModel", "isShown", "(I)Z"⟩, prog_13_method_88_code, 2, some .boolean),
  (⟨"DryPlacesModel", "goesBy", "()I"⟩, prog_13_method_89_code, 4, some .int),
  (⟨"DryPlacesModel", "days", "(I)I"⟩, prog_13_method_90_code, 4, some .int),
  (⟨"DryPlacesModel", "of", "(II)I"⟩, prog_13_method_91_code, 3, some .int),
  (⟨"DryPlacesModel", "creeps", "(II)I"⟩, prog_13_method_92_code, 3, some .int),
  (⟨"DryPlacesModel", "room", "(II)I"⟩, prog_13_method_93_code, 4, some .int),
  (⟨"DryPlacesModel", "book", "(II)I"⟩, prog_13_method_94_code, 3, some .int),
  (⟨"DryPlacesModel", "ownedSet", "()I"⟩, prog_13_method_95_code, 3, some .int),
  (⟨"DryPlacesModel", "goes", "(II)I"⟩, prog_13_method_96_code, 5, some .int),
  (⟨"DryPlacesModel", "isBeside", "(II)Z"⟩, prog_13_method_97_code, 3, some .boolean),
  (⟨"DryPlacesModel", "findsParts", "(IZ)V"⟩, prog_13_method_98_code, 6, none),
  (⟨"DryPlacesModel", "isAtEdge", "(I)Z"⟩, prog_13_method_99_code, 2, some .boolean),
  (⟨"DryPlacesModel", "comesOut", "(I)Z"⟩, prog_13_method_100_code, 3, some .boolean),
  (⟨"DryPlacesModel", "islandsOf", "(I)I"⟩, prog_13_method_101_code, 4, some .int),
  (⟨"DryPlacesModel", "holesOf", "(I)I"⟩, prog_13_method_102_code, 4, some .int),
  (⟨"DryPlacesModel", "takesOwn", "(I)V"⟩, prog_13_method_103_code, 3, none),
  (⟨"DryPlacesModel", "isOwnLeft", "()Z"⟩, prog_13_method_104_code, 2, some .boolean),
  (⟨"DryPlacesModel", "shrinks", "()V"⟩, prog_13_method_105_code, 2, none),
  (⟨"DryPlacesModel", "depthOf", "(I)I"⟩, prog_13_method_106_code, 3, some .int),
  (⟨"DryPlacesModel", "shape", "(II)I"⟩, prog_13_method_107_code, 3, some .int),
  (⟨"DryPlacesModel", "mirrors", "()V"⟩, prog_13_method_108_code, 4, none),
  (⟨"DryPlacesModel", "turnsRight", "()V"⟩, prog_13_method_109_code, 4, none),
  (⟨"DryPlacesModel", "pushes", "()V"⟩, prog_13_method_110_code, 4, none),
  (⟨"DryPlacesModel", "isAim", "()Z"⟩, prog_13_method_111_code, 2, some .boolean),
  (⟨"DryPlacesModel", "turned", "(II)I"⟩, prog_13_method_112_code, 5, some .int),
  (⟨"DryPlacesModel", "isSquare", "(III)Z"⟩, prog_13_method_113_code, 6, some .boolean),
  (⟨"DryPlacesModel", "firstSquare", "(II)I"⟩, prog_13_method_114_code, 4, some .int),
  (⟨"DryPlacesModel", "restOf", "(II)I"⟩, prog_13_method_115_code, 6, some .int),
  (⟨"DryPlacesModel", "isRound", "(III)Z"⟩, prog_13_method_116_code, 6, some .boolean),
  (⟨"DryPlacesModel", "firstRound", "(II)I"⟩, prog_13_method_117_code, 4, some .int),
  (⟨"DryPlacesModel", "square", "(II)I"⟩, prog_13_method_118_code, 5, some .int),
  (⟨"DryPlacesModel", "pushedRow", "(IIII)I"⟩, prog_13_method_119_code, 5, some .int),
  (⟨"DryPlacesModel", "couplesBy", "(IIII)I"⟩, prog_13_method_120_code, 9, some .int),
  (⟨"DryPlacesModel", "fit", "(III)I"⟩, prog_13_method_121_code, 8, some .int),
  (⟨"DryPlacesModel", "stepsBy", "(III)I"⟩, prog_13_method_122_code, 7, some .int),
  (⟨"DryPlacesModel", "beside", "(II)I"⟩, prog_13_method_123_code, 5, some .int),
  (⟨"DryPlacesModel", "comesTo", "(II)Z"⟩, prog_13_method_124_code, 3, some .boolean),
  (⟨"DryPlacesModel", "turnsBy", "(III)I"⟩, prog_13_method_125_code, 7, some .int),
  (⟨"DryPlacesModel", "walk", "(IIII)I"⟩, prog_13_method_126_code, 6, some .int),
  (⟨"DryPlacesModel", "sumOf", "(II)I"⟩, prog_13_method_127_code, 5, some .int),
  (⟨"DryPlacesModel", "areLike", "(II)Z"⟩, prog_13_method_128_code, 4, some .boolean),
  (⟨"DryPlacesModel", "switchOf", "(I)I"⟩, prog_13_method_129_code, 7, some .int),
  (⟨"DryPlacesModel", "sums", "(II)I"⟩, prog_13_method_130_code, 3, some .int),
  (⟨"DryPlacesModel", "sumOver", "(IZ)I"⟩, prog_13_method_131_code, 5, some .int),
  (⟨"DryPlacesModel", "buys", "(II)I"⟩, prog_13_method_132_code, 6, some .int),
  (⟨"DryPlacesModel", "findsWays", "()V"⟩, prog_13_method_133_code, 4, none),
  (⟨"DryPlacesModel", "leastTo", "(III)I"⟩, prog_13_method_134_code, 7, some .int),
  (⟨"DryPlacesModel", "tour", "(II)I"⟩, prog_13_method_135_code, 5, some .int),
  (⟨"DryPlacesModel", "vouchersOf", "(I)I"⟩, prog_13_method_136_code, 4, some .int),
  (⟨"DryPlacesModel", "vouched", "(I)I"⟩, prog_13_method_137_code, 4, some .int),
  (⟨"DryPlacesModel", "isLie", "(II)Z"⟩, prog_13_method_138_code, 3, some .boolean),
  (⟨"DryPlacesModel", "lie", "(III)I"⟩, prog_13_method_139_code, 4, some .int),
  (⟨"DryPlacesModel", "feet", "(I)I"⟩, prog_13_method_140_code, 5, some .int),
  (⟨"DryPlacesModel", "game", "(I)I"⟩, prog_13_method_141_code, 8, some .int),
  (⟨"DryPlacesModel", "keeps", "(I)I"⟩, prog_13_method_142_code, 2, some .int),
  (⟨"DryPlacesModel", "keepsLaw", "()V"⟩, prog_13_method_143_code, 2, none),
  (⟨"DryPlacesModel", "keepsTold", "()V"⟩, prog_13_method_144_code, 2, none),
  (⟨"DryPlacesModel", "image", "(Z)Z"⟩, prog_13_method_145_code, 3, some .boolean),
  (⟨"DryPlacesModel", "look", "(I)I"⟩, prog_13_method_146_code, 2, some .int),
  (⟨"java/lang/Long", "bitCount", "(J)I"⟩, prog_15_method_50_code, 2, some .int),
  (⟨"java/lang/String", "length", "()I"⟩, prog_17_method_54_code, 1, some .int),
  (⟨"java/lang/String", "charAt", "(I)C"⟩, prog_17_method_56_code, 2, some .char),
  (⟨"java/lang/String", "indexOf", "(I)I"⟩, prog_17_method_79_code, 2, some .int),
  (⟨"java/lang/String", "indexOf", "(II)I"⟩, prog_17_method_80_code, 3, some .int),
  (⟨"java/lang/String", "coder", "()B"⟩, prog_17_method_152_code, 1, some .byte),
  (⟨"java/lang/String", "isLatin1", "()Z"⟩, prog_17_method_154_code, 1, some .boolean),
  (⟨"java/lang/String", "checkIndex", "(II)V"⟩, prog_17_method_155_code, 2, none),
  (⟨"java/lang/StringLatin1", "charAt", "([BI)C"⟩, prog_18_method_2_code, 2, some .char),
  (⟨"java/lang/StringLatin1", "canEncode", "(I)Z"⟩, prog_18_method_4_code, 1, some .boolean),
  (⟨"java/lang/StringLatin1", "indexOf", "([BIII)I"⟩, prog_18_method_22_code, 4, some .int),
  (⟨"java/lang/StringLatin1", "indexOfChar", "([BIII)I"⟩, prog_18_method_23_code, 6, some .int),
  (⟨"java/util/Arrays", "fill", "([II)V"⟩, prog_21_method_103_code, 4, none),
  (⟨"jdk/internal/util/Preconditions", "checkIndex", "(IILjava/util/function/BiFunction;)I"⟩, prog_22_method_11_code, 3, some .int),
  (⟨"DryPlacesLaw", "law", "([I)Z"⟩, code, 4, some .boolean)]
def gk_M (j : Nat) : gk_J := gk_Ms.getD j (⟨"", "", ""⟩, code, 0, none)
abbrev jgr_isDry : Nat := 0
abbrev jgr_rowOf : Nat := 1
abbrev jgr_withRow : Nat := 2
abbrev jgr_up : Nat := 3
abbrev jgr_down : Nat := 4
abbrev jgr_left : Nat := 5
abbrev jgr_right : Nat := 6
abbrev jgr_beside : Nat := 7
abbrev jgr_firstOf : Nat := 8
abbrev jgr_wetBeside : Nat := 9
abbrev jgr_edges : Nat := 10
abbrev jgr_partOf : Nat := 11
abbrev jgr_parts : Nat := 12
abbrev jgr_holes : Nat := 13
abbrev jgr_shrunk : Nat := 14
abbrev jgr_depth : Nat := 15
abbrev jgr_turnedCell : Nat := 16
abbrev jgr_turnedBy : Nat := 17
abbrev jgr_cornered : Nat := 18
abbrev jgr_squareCorners : Nat := 19
abbrev jgr_squareSide : Nat := 20
abbrev jgr_squaresFrom : Nat := 21
abbrev jgr_pushed : Nat := 22
abbrev jgr_overlap : Nat := 23
abbrev jgr_couples : Nat := 24
abbrev jgr_bestPush : Nat := 25
abbrev jgr_fewestSteps : Nat := 26
abbrev jgr_fewestTurnings : Nat := 27
abbrev jgr_straightFrom : Nat := 28
abbrev jgr_sumOf : Nat := 29
abbrev jgr_hasSameSums : Nat := 30
abbrev jgr_firstSwitch : Nat := 31
abbrev jgr_switchColumns : Nat := 32
abbrev jgr_isLie : Nat := 33
abbrev jgr_standings : Nat := 34
abbrev jgr_rightHeels : Nat := 35
abbrev jke_init : Nat := 36
abbrev jke_canDo : Nat := 37
abbrev jke_carryOut : Nat := 38
abbrev jke_purchase : Nat := 39
abbrev jke_partWith : Nat := 40
abbrev jke_note : Nat := 41
abbrev jke_passDay : Nat := 42
abbrev jke_keepDiary : Nat := 43
abbrev jke_creepIn : Nat := 44
abbrev jke_isHit : Nat := 45
abbrev jke_receive : Nat := 46
abbrev jla_init : Nat := 47
abbrev jla_clear : Nat := 48
abbrev jla_copy : Nat := 49
abbrev jla_begin : Nat := 50
abbrev jla_beginWhen : Nat := 51
abbrev jla_finish : Nat := 52
abbrev jla_add : Nat := 53
abbrev jpa_init : Nat := 54
abbrev jpa_parse : Nat := 55
abbrev jpa_canBegin : Nat := 56
abbrev jpa_refuse : Nat := 57
abbrev jpa_step : Nat := 58
abbrev jpa_take : Nat := 59
abbrev jpa_takeNumber : Nat := 60
abbrev jpa_takePlace : Nat := 61
abbrev jpa_takeRoom : Nat := 62
abbrev jpa_readPassage : Nat := 63
abbrev jpa_readVoucher : Nat := 64
abbrev jpa_readEntry : Nat := 65
abbrev jpa_actOfWord : Nat := 66
abbrev jpa_takeDetail : Nat := 67
abbrev jpa_readLaw : Nat := 68
abbrev jpa_readCondition : Nat := 69
abbrev jpa_readOne : Nat := 70
abbrev jpa_comparison : Nat := 71
abbrev jpa_readSum : Nat := 72
abbrev jpa_addWaiting : Nat := 73
abbrev jpa_isReckoning : Nat := 74
abbrev jpa_readUnit : Nat := 75
abbrev jps_init : Nat := 76
abbrev jps_keep : Nat := 77
abbrev jps_goBack : Nat := 78
abbrev jps_forget : Nat := 79
abbrev jta_init : Nat := 80
abbrev jta_hasSpaceForFive : Nat := 81
abbrev jta_append : Nat := 82
abbrev jta_cutUp : Nat := 83
abbrev jta_skipBlanks : Nat := 84
abbrev jta_readWord : Nat := 85
abbrev jta_isWordAt : Nat := 86
abbrev jta_readNumber : Nat := 87
abbrev jta_isLetter : Nat := 88
abbrev jta_isDigit : Nat := 89
abbrev jte_init : Nat := 90
abbrev jte_worthOf : Nat := 91
abbrev jte_comersTo : Nat := 92
abbrev jte_chanceIn : Nat := 93
abbrev jte_held : Nat := 94
abbrev jte_face : Nat := 95
abbrev jte_ask : Nat := 96
abbrev jte_run : Nat := 97
abbrev jte_changed : Nat := 98
abbrev jte_joined : Nat := 99
abbrev jtx_init : Nat := 100
abbrev jtx_count : Nat := 101
abbrev jtx_clearOne : Nat := 102
abbrev jtx_copyOne : Nat := 103
abbrev jtx_copyAll : Nat := 104
abbrev jtx_addPassage : Nat := 105
abbrev jtx_addVoucher : Nat := 106
abbrev jtx_addEntry : Nat := 107
abbrev jtr_init : Nat := 108
abbrev jtr_lastRoom : Nat := 109
abbrev jtr_lengthTo : Nat := 110
abbrev jtr_measure : Nat := 111
abbrev jtr_goOn : Nat := 112
abbrev jwo_init : Nat := 113
abbrev jwo_copy : Nat := 114
abbrev jwo_add : Nat := 115
abbrev jwo_has : Nat := 116
abbrev jwo_isOwned : Nat := 117
abbrev jwo_isHosed : Nat := 118
abbrev jwo_isShown : Nat := 119
abbrev jwo_earn : Nat := 120
abbrev jwo_drawOfThousand : Nat := 121
abbrev jwo_dryOf : Nat := 122
abbrev jwo_dryOfOwned : Nat := 123
abbrev jdp_init : Nat := 124
abbrev jdp_state : Nat := 125
abbrev jdp_place : Nat := 126
abbrev jdp_row : Nat := 127
abbrev jdp_purse : Nat := 128
abbrev jdp_act : Nat := 129
abbrev jdp_days : Nat := 130
abbrev jdp_feed : Nat := 131
abbrev jdp_end : Nat := 132
abbrev jdp_text : Nat := 133
abbrev jdp_fault : Nat := 134
abbrev jdp_of : Nat := 135
abbrev jdp_creeps : Nat := 136
abbrev jdp_room : Nat := 137
abbrev jdp_book : Nat := 138
abbrev jdp_goes : Nat := 139
abbrev jdp_shape : Nat := 140
abbrev jdp_turned : Nat := 141
abbrev jdp_square : Nat := 142
abbrev jdp_fit : Nat := 143
abbrev jdp_walk : Nat := 144
abbrev jdp_sums : Nat := 145
abbrev jdp_buys : Nat := 146
abbrev jdp_tour : Nat := 147
abbrev jdp_vouched : Nat := 148
abbrev jdp_lie : Nat := 149
abbrev jdp_feet : Nat := 150
abbrev jdp_game : Nat := 151
abbrev jdp_undo : Nat := 152
abbrev jdp_image : Nat := 153
abbrev jdp_look : Nat := 154
abbrev jdp_isWithin : Nat := 155
abbrev jdp_isCell : Nat := 156
abbrev jdp_isRoom : Nat := 157
abbrev jdp_priceOf : Nat := 158
abbrev jdp_vouchersOfAll : Nat := 159
abbrev jdp_heapOf : Nat := 160
abbrev jdp_winningTake : Nat := 161
abbrev jmo_init : Nat := 162
abbrev jmo_isIn : Nat := 163
abbrev jmo_held : Nat := 164
abbrev jmo_greater : Nat := 165
abbrev jmo_lesser : Nat := 166
abbrev jmo_apart : Nat := 167
abbrev jmo_onesOf : Nat := 168
abbrev jmo_has : Nat := 169
abbrev jmo_keepsAhead : Nat := 170
abbrev jmo_undo : Nat := 171
abbrev jmo_thinks : Nat := 172
abbrev jmo_endsThought : Nat := 173
abbrev jmo_state : Nat := 174
abbrev jmo_draw : Nat := 175
abbrev jmo_isPlace : Nat := 176
abbrev jmo_isCell : Nat := 177
abbrev jmo_rowAt : Nat := 178
abbrev jmo_isDry : Nat := 179
abbrev jmo_isDryCell : Nat := 180
abbrev jmo_wetBeside : Nat := 181
abbrev jmo_dryOf : Nat := 182
abbrev jmo_edgesOf : Nat := 183
abbrev jmo_place : Nat := 184
abbrev jmo_row : Nat := 185
abbrev jmo_purse : Nat := 186
abbrev jmo_types : Nat := 187
abbrev jmo_feed : Nat := 188
abbrev jmo_end : Nat := 189
abbrev jmo_raw : Nat := 190
abbrev jmo_isLetter : Nat := 191
abbrev jmo_isDigit : Nat := 192
abbrev jmo_isMarkSign : Nat := 193
abbrev jmo_wordAt : Nat := 194
abbrev jmo_reads : Nat := 195
abbrev jmo_errs : Nat := 196
abbrev jmo_isWord : Nat := 197
abbrev jmo_isSign : Nat := 198
abbrev jmo_emits : Nat := 199
abbrev jmo_canAsk : Nat := 200
abbrev jmo_readUnit : Nat := 201
abbrev jmo_readProduct : Nat := 202
abbrev jmo_readSum : Nat := 203
abbrev jmo_readCompared : Nat := 204
abbrev jmo_waits : Nat := 205
abbrev jmo_settles : Nat := 206
abbrev jmo_readAny : Nat := 207
abbrev jmo_isLineWord : Nat := 208
abbrev jmo_readLaw : Nat := 209
abbrev jmo_takesLaw : Nat := 210
abbrev jmo_readNumber : Nat := 211
abbrev jmo_readMark : Nat := 212
abbrev jmo_readTold : Nat := 213
abbrev jmo_readOther : Nat := 214
abbrev jmo_takesPassage : Nat := 215
abbrev jmo_readPassage : Nat := 216
abbrev jmo_readPassages : Nat := 217
abbrev jmo_kindOfDeed : Nat := 218
abbrev jmo_readDeedMore : Nat := 219
abbrev jmo_readDeed : Nat := 220
abbrev jmo_readDiary : Nat := 221
abbrev jmo_readVouch : Nat := 222
abbrev jmo_readVouches : Nat := 223
abbrev jmo_readsText : Nat := 224
abbrev jmo_takesOther : Nat := 225
abbrev jmo_text : Nat := 226
abbrev jmo_fault : Nat := 227
abbrev jmo_twoOf : Nat := 228
abbrev jmo_runs : Nat := 229
abbrev jmo_lineOf : Nat := 230
abbrev jmo_lightOf : Nat := 231
abbrev jmo_asks : Nat := 232
abbrev jmo_lawTells : Nat := 233
abbrev jmo_creepsOf : Nat := 234
abbrev jmo_worthOf : Nat := 235
abbrev jmo_comesOf : Nat := 236
abbrev jmo_notes : Nat := 237
abbrev jmo_getsPaid : Nat := 238
abbrev jmo_isTold : Nat := 239
abbrev jmo_canAct : Nat := 240
abbrev jmo_isBought : Nat := 241
abbrev jmo_sells : Nat := 242
abbrev jmo_hoses : Nat := 243
abbrev jmo_wets : Nat := 244
abbrev jmo_acts : Nat := 245
abbrev jmo_act : Nat := 246
abbrev jmo_creepsOn : Nat := 247
abbrev jmo_isShown : Nat := 248
abbrev jmo_goesBy : Nat := 249
abbrev jmo_days : Nat := 250
abbrev jmo_of : Nat := 251
abbrev jmo_creeps : Nat := 252
abbrev jmo_room : Nat := 253
abbrev jmo_book : Nat := 254
abbrev jmo_ownedSet : Nat := 255
abbrev jmo_goes : Nat := 256
abbrev jmo_isBeside : Nat := 257
abbrev jmo_findsParts : Nat := 258
abbrev jmo_isAtEdge : Nat := 259
abbrev jmo_comesOut : Nat := 260
abbrev jmo_islandsOf : Nat := 261
abbrev jmo_holesOf : Nat := 262
abbrev jmo_takesOwn : Nat := 263
abbrev jmo_isOwnLeft : Nat := 264
abbrev jmo_shrinks : Nat := 265
abbrev jmo_depthOf : Nat := 266
abbrev jmo_shape : Nat := 267
abbrev jmo_mirrors : Nat := 268
abbrev jmo_turnsRight : Nat := 269
abbrev jmo_pushes : Nat := 270
abbrev jmo_isAim : Nat := 271
abbrev jmo_turned : Nat := 272
abbrev jmo_isSquare : Nat := 273
abbrev jmo_firstSquare : Nat := 274
abbrev jmo_restOf : Nat := 275
abbrev jmo_isRound : Nat := 276
abbrev jmo_firstRound : Nat := 277
abbrev jmo_square : Nat := 278
abbrev jmo_pushedRow : Nat := 279
abbrev jmo_couplesBy : Nat := 280
abbrev jmo_fit : Nat := 281
abbrev jmo_stepsBy : Nat := 282
abbrev jmo_beside : Nat := 283
abbrev jmo_comesTo : Nat := 284
abbrev jmo_turnsBy : Nat := 285
abbrev jmo_walk : Nat := 286
abbrev jmo_sumOf : Nat := 287
abbrev jmo_areLike : Nat := 288
abbrev jmo_switchOf : Nat := 289
abbrev jmo_sums : Nat := 290
abbrev jmo_sumOver : Nat := 291
abbrev jmo_buys : Nat := 292
abbrev jmo_findsWays : Nat := 293
abbrev jmo_leastTo : Nat := 294
abbrev jmo_tour : Nat := 295
abbrev jmo_vouchersOf : Nat := 296
abbrev jmo_vouched : Nat := 297
abbrev jmo_isLie : Nat := 298
abbrev jmo_lie : Nat := 299
abbrev jmo_feet : Nat := 300
abbrev jmo_game : Nat := 301
abbrev jmo_keeps : Nat := 302
abbrev jmo_keepsLaw : Nat := 303
abbrev jmo_keepsTold : Nat := 304
abbrev jmo_image : Nat := 305
abbrev jmo_look : Nat := 306
abbrev jjl_bitCount : Nat := 307
abbrev jjs_length : Nat := 308
abbrev jjs_charAt : Nat := 309
abbrev jjs_indexOf : Nat := 310
abbrev jjs_indexOf2 : Nat := 311
abbrev jjs_coder : Nat := 312
abbrev jjs_isLatin1 : Nat := 313
abbrev jjs_checkIndex : Nat := 314
abbrev jjt_charAt : Nat := 315
abbrev jjt_canEncode : Nat := 316
abbrev jjt_indexOf : Nat := 317
abbrev jjt_indexOfChar : Nat := 318
abbrev jja_fill : Nat := 319
abbrev jjp_checkIndex : Nat := 320
abbrev jlw_law : Nat := 321
