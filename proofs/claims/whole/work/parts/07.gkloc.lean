/-! locals -/
def gk_kill (L : gk_L) (i : Nat) : gk_L := match i with
  | 0 => L
  | k + 1 => match L[k]? with
    | some (some (.long _)) => L.set k none
    | some (some (.double _)) => L.set k none
    | _ => L
def gk_s1 (L : gk_L) (i : Nat) (v : Value) : gk_L := (gk_kill L i).set i (some v)
def gk_s2 (L : gk_L) (i : Nat) (v : Value) : gk_L := ((gk_kill L i).set i (some v)).set (i + 1) none
def gk_lol (ad : Nat → Nat) (L : gk_L) : List (Nat × Value) := L.zipIdx.filterMap (fun q => q.1.map (fun v => (q.2, gk_v ad v)))
theorem gk_lol_mem {ad : Nat → Nat} {L : gk_L} {i : Nat} {v : Value} (h : L[i]? = some (some v)) : (i, gk_v ad v) ∈ gk_lol ad L := by
  refine List.mem_filterMap.mpr ⟨(some v, i), ?_, rfl⟩
  rw [List.mem_zipIdx_iff_getElem?]; exact h
theorem gk_lol_of {ad : Nat → Nat} {L : gk_L} {q : Nat × Value} (h : q ∈ gk_lol ad L) : ∃ v, L[q.1]? = some (some v) ∧ q.2 = gk_v ad v := by
  obtain ⟨⟨o, i⟩, h1, h2⟩ := List.mem_filterMap.mp h
  rw [List.mem_zipIdx_iff_getElem?] at h1
  cases o with
  | none => cases h2
  | some v => cases h2; exact ⟨v, h1, rfl⟩
theorem gk_Ls.has {ad : Nat → Nat} {ls : Array Slot} {n : Nat} {L : gk_L} (h : gk_Ls ad ls n L) : lv_has ls n (gk_lol ad L) := by
  refine ⟨h.1, h.2.2.1, fun q hq => ?_⟩
  obtain ⟨v, h1, h2⟩ := gk_lol_of hq
  rw [h2]; exact h.2.2.2 _ _ h1
theorem gk_kill_len (L : gk_L) (i : Nat) : (gk_kill L i).length = L.length := by
  unfold gk_kill
  split
  · rfl
  · split <;> simp
theorem gk_kill_get {L : gk_L} {i j : Nat} {w : Value} (h : (gk_kill L i)[j]? = some (some w)) : L[j]? = some (some w) ∧ ¬ (j + 1 = i ∧ w.category = 2) := by
  unfold gk_kill at h
  split at h
  · exact ⟨h, fun q => by omega⟩
  · rename_i k
    split at h
    · by_cases hj : j = k
      · subst hj
        rename_i x heq
        have hl := (List.getElem?_eq_some_iff.mp heq).1
        rw [List.getElem?_set_self hl] at h; cases h
      · rw [List.getElem?_set_ne (Ne.symm hj)] at h
        exact ⟨h, fun q => hj (by omega)⟩
    · by_cases hj : j = k
      · subst hj
        rename_i x heq
        have hl := (List.getElem?_eq_some_iff.mp heq).1
        rw [List.getElem?_set_self hl] at h; cases h
      · rw [List.getElem?_set_ne (Ne.symm hj)] at h
        exact ⟨h, fun q => hj (by omega)⟩
    · rename_i n1 n2
      refine ⟨h, fun q => ?_⟩
      obtain ⟨q1, q2⟩ := q
      have : j = k := by omega
      subst this
      cases w <;> simp [Value.category] at q2
      · exact n1 _ h
      · exact n2 _ h
theorem gk_Ls.st1 {ad : Nat → Nat} {ls' : Array Slot} {n i : Nat} {L : gk_L} {v : Value} (hn : L.length = n) (hi : i < n) (h : lv_has ls' n ((i, gk_v ad v) :: (gk_lol ad L).filter (fun q => !(q.1 == i) && !(q.1 + 1 == i && q.2.category == 2)))) : gk_Ls ad ls' n (gk_s1 L i v) := by
  have hk := gk_kill_len L i
  refine ⟨h.1, by rw [gk_s1, List.length_set, hk, hn], h.2.1, fun j w hj => ?_⟩
  by_cases e : j = i
  · subst e
    rw [gk_s1, List.getElem?_set_self (by omega)] at hj
    cases hj
    exact h.2.2 _ List.mem_cons_self
  · rw [gk_s1, List.getElem?_set_ne (Ne.symm e)] at hj
    obtain ⟨h1, h2⟩ := gk_kill_get hj
    refine h.2.2 (j, gk_v ad w) (List.mem_cons_of_mem _ (List.mem_filter.mpr ⟨gk_lol_mem h1, ?_⟩))
    simp only [gk_cat, Bool.and_eq_true, Bool.not_eq_true', beq_eq_false_iff_ne, ne_eq, Bool.and_eq_false_iff]
    refine ⟨e, ?_⟩
    by_cases a : j + 1 = i
    · right
      intro b
      exact h2 ⟨a, b⟩
    · left; exact a
theorem gk_Ls.st2 {ad : Nat → Nat} {ls' : Array Slot} {n i : Nat} {L : gk_L} {v : Value} (hn : L.length = n) (hi : i + 1 < n) (h : lv_has ls' n ((i, gk_v ad v) :: (gk_lol ad L).filter (fun q => !(q.1 == i) && (!(q.1 == i + 1) && !(q.1 + 1 == i && q.2.category == 2))))) : gk_Ls ad ls' n (gk_s2 L i v) := by
  have hk := gk_kill_len L i
  refine ⟨h.1, by rw [gk_s2, List.length_set, List.length_set, hk, hn], h.2.1, fun j w hj => ?_⟩
  by_cases e2 : j = i + 1
  · subst e2
    rw [gk_s2, List.getElem?_set_self (by rw [List.length_set]; omega)] at hj
    cases hj
  · rw [gk_s2, List.getElem?_set_ne (Ne.symm e2)] at hj
    by_cases e : j = i
    · subst e
      rw [List.getElem?_set_self (by omega)] at hj
      cases hj
      exact h.2.2 _ List.mem_cons_self
    · rw [List.getElem?_set_ne (Ne.symm e)] at hj
      obtain ⟨h1, h2⟩ := gk_kill_get hj
      refine h.2.2 (j, gk_v ad w) (List.mem_cons_of_mem _ (List.mem_filter.mpr ⟨gk_lol_mem h1, ?_⟩))
      simp only [gk_cat, Bool.and_eq_true, Bool.not_eq_true', beq_eq_false_iff_ne, ne_eq, Bool.and_eq_false_iff]
      refine ⟨e, e2, ?_⟩
      by_cases a : j + 1 = i
      · right
        intro b
        exact h2 ⟨a, b⟩
      · left; exact a
section GKL
variable {M : Nat → gk_J} {E : gk_E} {d j : Nat} {cf : Bool} {mc ms : Nat} {Γe : gk_G} {Q : Option Value → gk_H → Prop} {pc : Nat} {L : gk_L} {st : List Value} {Γ : gk_G} {h : gk_H} {nc ns : Nat}
theorem gk_go_alu {i : Instr} {st' : List Value} (hdg : decode (M j).2.1 pc = .ok (i, gk_ln i)) (ha : gk_alu i st = some st') (k : gk_Go M E d j cf mc ms Γe Q (pc + gk_ln i) L st' Γ h nc ns) : gk_Go M E d j cf mc ms Γe Q pc L st Γ h nc ns := by
  intro p l e R s m args below meth c base ro cs D QF H locs ls X hret hrel hS hL hac
  exact gk_alu_row X.1 X.2.1 hdg ha (k p l e R s m args below meth c base ro cs D QF H locs ls X hret hrel hS hL hac)
/-- which local an instruction reads, and how long it is -/
theorem gk_go_iload {i : Nat} {x : Int32} (hl : L[i]? = some (some (.int x))) (hdg : decode (M j).2.1 pc = .ok (.iload i, 2)) (k : gk_Go M E d j cf mc ms Γe Q (pc + 2) L (.int x :: st) Γ h nc ns) : gk_Go M E d j cf mc ms Γe Q pc L st Γ h nc ns := by
  intro p l e R s m args below meth c base ro cs D QF H locs ls X hret hrel hS hL hac
  exact lv_iload X.1 X.2.1 hdg (hL.2.2.2 _ _ hl) (k p l e R s m args below meth c base ro cs D QF H locs ls X hret hrel hS hL hac)
theorem gk_go_iload_n {i : Fin 4} {x : Int32} (hl : L[i.val]? = some (some (.int x))) (hdg : decode (M j).2.1 pc = .ok (.iload_n i, 1)) (k : gk_Go M E d j cf mc ms Γe Q (pc + 1) L (.int x :: st) Γ h nc ns) : gk_Go M E d j cf mc ms Γe Q pc L st Γ h nc ns := by
  intro p l e R s m args below meth c base ro cs D QF H locs ls X hret hrel hS hL hac
  exact lv_iload_n X.1 X.2.1 hdg rfl (hL.2.2.2 _ _ hl) (k p l e R s m args below meth c base ro cs D QF H locs ls X hret hrel hS hL hac)
theorem gk_go_lload {i : Nat} {x : Int64} (hl : L[i]? = some (some (.long x))) (hdg : decode (M j).2.1 pc = .ok (.lload i, 2)) (k : gk_Go M E d j cf mc ms Γe Q (pc + 2) L (.long x :: st) Γ h nc ns) : gk_Go M E d j cf mc ms Γe Q pc L st Γ h nc ns := by
  intro p l e R s m args below meth c base ro cs D QF H locs ls X hret hrel hS hL hac
  exact lv_lload X.1 X.2.1 hdg (hL.2.2.2 _ _ hl) (k p l e R s m args below meth c base ro cs D QF H locs ls X hret hrel hS hL hac)
theorem gk_go_lload_n {i : Fin 4} {x : Int64} (hl : L[i.val]? = some (some (.long x))) (hdg : decode (M j).2.1 pc = .ok (.lload_n i, 1)) (k : gk_Go M E d j cf mc ms Γe Q (pc + 1) L (.long x :: st) Γ h nc ns) : gk_Go M E d j cf mc ms Γe Q pc L st Γ h nc ns := by
  intro p l e R s m args below meth c base ro cs D QF H locs ls X hret hrel hS hL hac
  exact lv_lload_n X.1 X.2.1 hdg rfl (hL.2.2.2 _ _ hl) (k p l e R s m args below meth c base ro cs D QF H locs ls X hret hrel hS hL hac)
theorem gk_go_aload {i : Nat} {x : Nat} (hl : L[i]? = some (some (.ref x))) (hdg : decode (M j).2.1 pc = .ok (.aload i, 2)) (k : gk_Go M E d j cf mc ms Γe Q (pc + 2) L (.ref x :: st) Γ h nc ns) : gk_Go M E d j cf mc ms Γe Q pc L st Γ h nc ns := by
  intro p l e R s m args below meth c base ro cs D QF H locs ls X hret hrel hS hL hac
  exact lv_aload X.1 X.2.1 hdg (hL.2.2.2 _ _ hl) (k p l e R s m args below meth c base ro cs D QF H locs ls X hret hrel hS hL hac)
theorem gk_go_aload_n {i : Fin 4} {x : Nat} (hl : L[i.val]? = some (some (.ref x))) (hdg : decode (M j).2.1 pc = .ok (.aload_n i, 1)) (k : gk_Go M E d j cf mc ms Γe Q (pc + 1) L (.ref x :: st) Γ h nc ns) : gk_Go M E d j cf mc ms Γe Q pc L st Γ h nc ns := by
  intro p l e R s m args below meth c base ro cs D QF H locs ls X hret hrel hS hL hac
  exact lv_aload_n X.1 X.2.1 hdg rfl (hL.2.2.2 _ _ hl) (k p l e R s m args below meth c base ro cs D QF H locs ls X hret hrel hS hL hac)
theorem gk_go_aloadN {i : Nat} (hl : L[i]? = some (some .null)) (hdg : decode (M j).2.1 pc = .ok (.aload i, 2)) (k : gk_Go M E d j cf mc ms Γe Q (pc + 2) L (.null :: st) Γ h nc ns) : gk_Go M E d j cf mc ms Γe Q pc L st Γ h nc ns := by
  intro p l e R s m args below meth c base ro cs D QF H locs ls X hret hrel hS hL hac
  exact lv_aloadN X.1 X.2.1 hdg (hL.2.2.2 _ _ hl) (k p l e R s m args below meth c base ro cs D QF H locs ls X hret hrel hS hL hac)
theorem gk_go_istore {i : Nat} {x : Int32} (hi : i < L.length) (hdg : decode (M j).2.1 pc = .ok (.istore i, 2)) (k : gk_Go M E d j cf mc ms Γe Q (pc + 2) (gk_s1 L i (.int x)) st Γ h nc ns) : gk_Go M E d j cf mc ms Γe Q pc L (.int x :: st) Γ h nc ns := by
  intro p l e R s m args below meth c base ro cs D QF H locs ls X hret hrel hS hL hac
  have hi2 : i < (M j).2.2.1 := by rw [← hL.2.1]; exact hi
  exact lv_istore X.1 X.2.1 hdg hL.has hi2 rfl (fun ls' h' => k p l e R s m args below meth c base ro cs D QF H locs ls' X hret hrel hS (gk_Ls.st1 (v := .int x) hL.2.1 hi2 h') hac)
theorem gk_go_istore_n {i : Fin 4} {x : Int32} (hi : i.val < L.length) (hdg : decode (M j).2.1 pc = .ok (.istore_n i, 1)) (k : gk_Go M E d j cf mc ms Γe Q (pc + 1) (gk_s1 L i.val (.int x)) st Γ h nc ns) : gk_Go M E d j cf mc ms Γe Q pc L (.int x :: st) Γ h nc ns := by
  intro p l e R s m args below meth c base ro cs D QF H locs ls X hret hrel hS hL hac
  have hi2 : i.val < (M j).2.2.1 := by rw [← hL.2.1]; exact hi
  exact lv_istore_n X.1 X.2.1 hdg rfl hL.has hi2 rfl (fun ls' h' => k p l e R s m args below meth c base ro cs D QF H locs ls' X hret hrel hS (gk_Ls.st1 (v := .int x) hL.2.1 hi2 h') hac)
theorem gk_go_astore {i : Nat} {x : Nat} (hi : i < L.length) (hdg : decode (M j).2.1 pc = .ok (.astore i, 2)) (k : gk_Go M E d j cf mc ms Γe Q (pc + 2) (gk_s1 L i (.ref x)) st Γ h nc ns) : gk_Go M E d j cf mc ms Γe Q pc L (.ref x :: st) Γ h nc ns := by
  intro p l e R s m args below meth c base ro cs D QF H locs ls X hret hrel hS hL hac
  have hi2 : i < (M j).2.2.1 := by rw [← hL.2.1]; exact hi
  exact lv_astore X.1 X.2.1 hdg hL.has hi2 rfl (fun ls' h' => k p l e R s m args below meth c base ro cs D QF H locs ls' X hret hrel hS (gk_Ls.st1 (v := .ref x) hL.2.1 hi2 h') hac)
theorem gk_go_astore_n {i : Fin 4} {x : Nat} (hi : i.val < L.length) (hdg : decode (M j).2.1 pc = .ok (.astore_n i, 1)) (k : gk_Go M E d j cf mc ms Γe Q (pc + 1) (gk_s1 L i.val (.ref x)) st Γ h nc ns) : gk_Go M E d j cf mc ms Γe Q pc L (.ref x :: st) Γ h nc ns := by
  intro p l e R s m args below meth c base ro cs D QF H locs ls X hret hrel hS hL hac
  have hi2 : i.val < (M j).2.2.1 := by rw [← hL.2.1]; exact hi
  exact lv_astore_n X.1 X.2.1 hdg rfl hL.has hi2 rfl (fun ls' h' => k p l e R s m args below meth c base ro cs D QF H locs ls' X hret hrel hS (gk_Ls.st1 (v := .ref x) hL.2.1 hi2 h') hac)
theorem gk_go_lstore {i : Nat} {x : Int64} (hi : i + 1 < L.length) (hdg : decode (M j).2.1 pc = .ok (.lstore i, 2)) (k : gk_Go M E d j cf mc ms Γe Q (pc + 2) (gk_s2 L i (.long x)) st Γ h nc ns) : gk_Go M E d j cf mc ms Γe Q pc L (.long x :: st) Γ h nc ns := by
  intro p l e R s m args below meth c base ro cs D QF H locs ls X hret hrel hS hL hac
  have hi2 : i + 1 < (M j).2.2.1 := by rw [← hL.2.1]; exact hi
  exact lv_lstore X.1 X.2.1 hdg hL.has hi2 rfl (fun ls' h' => k p l e R s m args below meth c base ro cs D QF H locs ls' X hret hrel hS (gk_Ls.st2 (v := .long x) hL.2.1 hi2 h') hac)
theorem gk_go_lstore_n {i : Fin 4} {x : Int64} (hi : i.val + 1 < L.length) (hdg : decode (M j).2.1 pc = .ok (.lstore_n i, 1)) (k : gk_Go M E d j cf mc ms Γe Q (pc + 1) (gk_s2 L i.val (.long x)) st Γ h nc ns) : gk_Go M E d j cf mc ms Γe Q pc L (.long x :: st) Γ h nc ns := by
  intro p l e R s m args below meth c base ro cs D QF H locs ls X hret hrel hS hL hac
  have hi2 : i.val + 1 < (M j).2.2.1 := by rw [← hL.2.1]; exact hi
  exact lv_lstore_n X.1 X.2.1 hdg rfl hL.has hi2 rfl (fun ls' h' => k p l e R s m args below meth c base ro cs D QF H locs ls' X hret hrel hS (gk_Ls.st2 (v := .long x) hL.2.1 hi2 h') hac)
theorem gk_go_iinc {i : Nat} {n : Int} {x : Int32} (hl : L[i]? = some (some (.int x))) (hdg : decode (M j).2.1 pc = .ok (.iinc i n, 3)) (k : gk_Go M E d j cf mc ms Γe Q (pc + 3) (gk_s1 L i (.int (x + gk_lit n))) st Γ h nc ns) : gk_Go M E d j cf mc ms Γe Q pc L st Γ h nc ns := by
  intro p l e R s m args below meth c base ro cs D QF H locs ls X hret hrel hS hL hac
  have hi2 : i < (M j).2.2.1 := by rw [← hL.2.1]; exact (List.getElem?_eq_some_iff.mp hl).1
  obtain ⟨q, hq⟩ := List.getElem?_of_mem (gk_lol_mem (ad := gk_ad base ro) hl)
  exact lv_iinc (v := x + gk_lit n) X.1 X.2.1 hdg hL.has hq (by rw [gk_lit_eq]) hi2 rfl (fun ls' h' => k p l e R s m args below meth c base ro cs D QF H locs ls' X hret hrel hS (gk_Ls.st1 (v := .int (x + gk_lit n)) hL.2.1 hi2 h') hac)
/-- fewer locals known -/
theorem gk_go_mono {L' : gk_L} (hl : L'.length = L.length) (hs : ∀ (i : Nat) (v : Value), L'[i]? = some (some v) → L[i]? = some (some v)) (k : gk_Go M E d j cf mc ms Γe Q pc L' st Γ h nc ns) : gk_Go M E d j cf mc ms Γe Q pc L st Γ h nc ns := by
  intro p l e R s m args below meth c base ro cs D QF H locs ls X hret hrel hS hL hac
  exact k p l e R s m args below meth c base ro cs D QF H locs ls X hret hrel hS ⟨hL.1, hl.trans hL.2.1, hL.2.2.1, fun i v hi => hL.2.2.2 i v (hs i v hi)⟩ hac
end GKL
