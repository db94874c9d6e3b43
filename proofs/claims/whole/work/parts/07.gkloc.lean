/-! locals -/
/-- a long whose second half is overwritten is gone -/
def gk_k1 (a : Option Value) : Option Value := match a with
  | some (.long _) => none
  | some (.double _) => none
  | a => a
def gk_s1 : gk_L → Nat → Value → gk_L
  | [], _, _ => []
  | _ :: r, 0, v => some v :: r
  | a :: r, 1, v => gk_k1 a :: gk_s1 r 0 v
  | a :: r, n + 2, v => a :: gk_s1 r (n + 1) v
def gk_s2 : gk_L → Nat → Value → gk_L
  | [], _, _ => []
  | _ :: [], 0, v => [some v]
  | _ :: _ :: r, 0, v => some v :: none :: r
  | a :: r, 1, v => gk_k1 a :: gk_s2 r 0 v
  | a :: r, n + 2, v => a :: gk_s2 r (n + 1) v
def gk_lol (ad : Nat → Nat) (L : gk_L) : List (Nat × Value) := L.zipIdx.filterMap (fun q => q.1.map (fun v => (q.2, gk_v ad v)))
theorem gk_lol_mem {ad : Nat → Nat} {L : gk_L} {i : Nat} {v : Value} (h : L[i]? = some (some v)) : (i, gk_v ad v) ∈ gk_lol ad L := by
  refine List.mem_filterMap.mpr ⟨(some v, i), ?_, rfl⟩
  rw [List.mem_zipIdx_iff_getElem?]; exact h
theorem gk_lol_of {ad : Nat → Nat} {L : gk_L} {q : Nat × Value} (h : q ∈ gk_lol ad L) : ∃ v, L[q.1]? = some (some v) ∧ q.2 = gk_v ad v := by
  obtain ⟨⟨o, i⟩, h1, h2⟩ := List.mem_filterMap.mp h
  rw [List.mem_zipIdx_iff_getElem?] at h1
  cases o with
  | none => cases h2
  | some v => cases h2; exact ⟨v, h1, rfl⟩
theorem gk_Ls.has {ad : Nat → Nat} {ls : Array Slot} {n : Nat} {L : gk_L} (h : gk_Ls ad ls n L) : lv_has ls n (gk_lol ad L) := by
  refine ⟨h.1, h.2.2.1, fun q hq => ?_⟩
  obtain ⟨v, h1, h2⟩ := gk_lol_of hq
  rw [h2]; exact h.2.2.2 _ _ h1
theorem gk_k1_get {a : Option Value} {w : Value} (h : gk_k1 a = some w) : a = some w ∧ ¬ w.category = 2 := by
  unfold gk_k1 at h
  split at h
  · cases h
  · cases h
  · rename_i n1 n2
    refine ⟨h, fun q => ?_⟩
    subst h
    cases w <;> simp [Value.category] at q
    · exact n1 _ rfl
    · exact n2 _ rfl
theorem gk_s1_len : ∀ (L : gk_L) (i : Nat) (v : Value), (gk_s1 L i v).length = L.length := by
  intro L
  induction L with
  | nil => intro i v; cases i <;> rfl
  | cons a r ih =>
    intro i v
    match i with
    | 0 => rfl
    | 1 => simp [gk_s1, ih]
    | n + 2 => simp [gk_s1, ih]
theorem gk_s1_get : ∀ (L : gk_L) (i : Nat) (v : Value) (j : Nat) (w : Value), (gk_s1 L i v)[j]? = some (some w) → (j = i ∧ w = v) ∨ (j ≠ i ∧ L[j]? = some (some w) ∧ ¬ (j + 1 = i ∧ w.category = 2)) := by
  intro L
  induction L with
  | nil => intro i v j w h; cases i <;> simp [gk_s1] at h
  | cons a r ih =>
    intro i v j w h
    match i, j, h with
    | 0, 0, h => cases h; exact Or.inl ⟨rfl, rfl⟩
    | 0, j + 1, h => exact Or.inr ⟨by omega, h, fun q => by omega⟩
    | 1, 0, h =>
      have h1 : gk_k1 a = some w := by simpa [gk_s1] using h
      obtain ⟨h2, h3⟩ := gk_k1_get h1
      exact Or.inr ⟨by omega, by simp [h2], fun q => h3 q.2⟩
    | 1, j + 1, h =>
      rcases ih 0 v j w (by simpa [gk_s1] using h) with ⟨h1, h2⟩ | ⟨h1, h2, h3⟩
      · exact Or.inl ⟨by omega, h2⟩
      · exact Or.inr ⟨by omega, h2, fun q => by omega⟩
    | n + 2, 0, h => exact Or.inr ⟨by omega, by simpa [gk_s1] using h, fun q => by omega⟩
    | n + 2, j + 1, h =>
      rcases ih (n + 1) v j w (by simpa [gk_s1] using h) with ⟨h1, h2⟩ | ⟨h1, h2, h3⟩
      · exact Or.inl ⟨by omega, h2⟩
      · exact Or.inr ⟨by omega, h2, fun q => h3 ⟨by omega, q.2⟩⟩
theorem gk_s2_len : ∀ (L : gk_L) (i : Nat) (v : Value), (gk_s2 L i v).length = L.length := by
  intro L
  induction L with
  | nil => intro i v; cases i <;> rfl
  | cons a r ih =>
    intro i v
    match i with
    | 0 => cases r <;> rfl
    | 1 => simp [gk_s2, ih]
    | n + 2 => simp [gk_s2, ih]
theorem gk_s2_get : ∀ (L : gk_L) (i : Nat) (v : Value) (j : Nat) (w : Value), (gk_s2 L i v)[j]? = some (some w) → (j = i ∧ w = v) ∨ (j ≠ i ∧ j ≠ i + 1 ∧ L[j]? = some (some w) ∧ ¬ (j + 1 = i ∧ w.category = 2)) := by
  intro L
  induction L with
  | nil => intro i v j w h; cases i <;> simp [gk_s2] at h
  | cons a r ih =>
    intro i v j w h
    match i, j, h with
    | 0, 0, h => cases r <;> (cases h; exact Or.inl ⟨rfl, rfl⟩)
    | 0, 1, h => cases r <;> simp [gk_s2] at h
    | 0, j + 2, h => cases r with
      | nil => simp [gk_s2] at h
      | cons b r => exact Or.inr ⟨by omega, by omega, by simpa [gk_s2] using h, fun q => by omega⟩
    | 1, 0, h =>
      have h1 : gk_k1 a = some w := by simpa [gk_s2] using h
      obtain ⟨h2, h3⟩ := gk_k1_get h1
      exact Or.inr ⟨by omega, by omega, by simp [h2], fun q => h3 q.2⟩
    | 1, j + 1, h =>
      rcases ih 0 v j w (by simpa [gk_s2] using h) with ⟨h1, h2⟩ | ⟨h1, h2, h3, h4⟩
      · exact Or.inl ⟨by omega, h2⟩
      · exact Or.inr ⟨by omega, by omega, h3, fun q => by omega⟩
    | n + 2, 0, h => exact Or.inr ⟨by omega, by omega, by simpa [gk_s2] using h, fun q => by omega⟩
    | n + 2, j + 1, h =>
      rcases ih (n + 1) v j w (by simpa [gk_s2] using h) with ⟨h1, h2⟩ | ⟨h1, h2, h3, h4⟩
      · exact Or.inl ⟨by omega, h2⟩
      · exact Or.inr ⟨by omega, by omega, h3, fun q => h4 ⟨by omega, q.2⟩⟩
theorem gk_Ls.st1 {ad : Nat → Nat} {ls' : Array Slot} {n i : Nat} {L : gk_L} {v : Value} (hn : L.length = n) (hi : i < n) (h : lv_has ls' n ((i, gk_v ad v) :: (gk_lol ad L).filter (fun q => !(q.1 == i) && !(q.1 + 1 == i && q.2.category == 2)))) : gk_Ls ad ls' n (gk_s1 L i v) := by
  refine ⟨h.1, by rw [gk_s1_len, hn], h.2.1, fun j w hj => ?_⟩
  rcases gk_s1_get _ _ _ _ _ hj with ⟨rfl, rfl⟩ | ⟨e, h1, h2⟩
  · exact h.2.2 _ List.mem_cons_self
  · refine h.2.2 (j, gk_v ad w) (List.mem_cons_of_mem _ (List.mem_filter.mpr ⟨gk_lol_mem h1, ?_⟩))
    simp only [gk_cat, Bool.and_eq_true, Bool.not_eq_true', beq_eq_false_iff_ne, ne_eq, Bool.and_eq_false_iff]
    refine ⟨e, ?_⟩
    by_cases a : j + 1 = i
    · right
      intro b
      exact h2 ⟨a, b⟩
    · left; exact a
theorem gk_Ls.st2 {ad : Nat → Nat} {ls' : Array Slot} {n i : Nat} {L : gk_L} {v : Value} (hn : L.length = n) (hi : i + 1 < n) (h : lv_has ls' n ((i, gk_v ad v) :: (gk_lol ad L).filter (fun q => !(q.1 == i) && (!(q.1 == i + 1) && !(q.1 + 1 == i && q.2.category == 2))))) : gk_Ls ad ls' n (gk_s2 L i v) := by
  refine ⟨h.1, by rw [gk_s2_len, hn], h.2.1, fun j w hj => ?_⟩
  rcases gk_s2_get _ _ _ _ _ hj with ⟨rfl, rfl⟩ | ⟨e, e2, h1, h2⟩
  · exact h.2.2 _ List.mem_cons_self
  · refine h.2.2 (j, gk_v ad w) (List.mem_cons_of_mem _ (List.mem_filter.mpr ⟨gk_lol_mem h1, ?_⟩))
    simp only [gk_cat, Bool.and_eq_true, Bool.not_eq_true', beq_eq_false_iff_ne, ne_eq, Bool.and_eq_false_iff]
    refine ⟨e, e2, ?_⟩
    by_cases a : j + 1 = i
    · right
      intro b
      exact h2 ⟨a, b⟩
    · left; exact a
section GKL
variable {M : Nat → gk_J} {E : gk_E} {d j : Nat} {cf : Bool} {mc ms : Nat} {Γe : gk_G} {Q : Option Value → gk_H → Prop} {pc : Nat} {L : gk_L} {st : List Value} {Γ : gk_G} {h : gk_H} {nc ns : Nat}
theorem gk_go_alu {i : Instr} {st' : List Value} (hdg : decode (M j).2.1 pc = .ok (i, gk_ln i)) (ha : gk_alu i st = some st') (k : gk_Go M E d j cf mc ms Γe Q (pc + gk_ln i) L st' Γ h nc ns) : gk_Go M E d j cf mc ms Γe Q pc L st Γ h nc ns := by
  intro p l e R s m args below meth c base ro cs D QF H locs ls X hret hrel hS hL hac
  exact gk_alu_row X.1 X.2.1 hdg ha (k p l e R s m args below meth c base ro cs D QF H locs ls X hret hrel hS hL hac)
/-- which local an instruction reads, and how long it is -/
theorem gk_go_iload {i : Nat} {x : Int32} (hl : L[i]? = some (some (.int x))) (hdg : decode (M j).2.1 pc = .ok (.iload i, 2)) (k : gk_Go M E d j cf mc ms Γe Q (pc + 2) L (.int x :: st) Γ h nc ns) : gk_Go M E d j cf mc ms Γe Q pc L st Γ h nc ns := by
  intro p l e R s m args below meth c base ro cs D QF H locs ls X hret hrel hS hL hac
  exact lv_iload X.1 X.2.1 hdg (hL.2.2.2 _ _ hl) (k p l e R s m args below meth c base ro cs D QF H locs ls X hret hrel hS hL hac)
theorem gk_go_iload_n {i : Fin 4} {x : Int32} (hl : L[i.val]? = some (some (.int x))) (hdg : decode (M j).2.1 pc = .ok (.iload_n i, 1)) (k : gk_Go M E d j cf mc ms Γe Q (pc + 1) L (.int x :: st) Γ h nc ns) : gk_Go M E d j cf mc ms Γe Q pc L st Γ h nc ns := by
  intro p l e R s m args below meth c base ro cs D QF H locs ls X hret hrel hS hL hac
  exact lv_iload_n X.1 X.2.1 hdg rfl (hL.2.2.2 _ _ hl) (k p l e R s m args below meth c base ro cs D QF H locs ls X hret hrel hS hL hac)
theorem gk_go_lload {i : Nat} {x : Int64} (hl : L[i]? = some (some (.long x))) (hdg : decode (M j).2.1 pc = .ok (.lload i, 2)) (k : gk_Go M E d j cf mc ms Γe Q (pc + 2) L (.long x :: st) Γ h nc ns) : gk_Go M E d j cf mc ms Γe Q pc L st Γ h nc ns := by
  intro p l e R s m args below meth c base ro cs D QF H locs ls X hret hrel hS hL hac
  exact lv_lload X.1 X.2.1 hdg (hL.2.2.2 _ _ hl) (k p l e R s m args below meth c base ro cs D QF H locs ls X hret hrel hS hL hac)
theorem gk_go_lload_n {i : Fin 4} {x : Int64} (hl : L[i.val]? = some (some (.long x))) (hdg : decode (M j).2.1 pc = .ok (.lload_n i, 1)) (k : gk_Go M E d j cf mc ms Γe Q (pc + 1) L (.long x :: st) Γ h nc ns) : gk_Go M E d j cf mc ms Γe Q pc L st Γ h nc ns := by
  intro p l e R s m args below meth c base ro cs D QF H locs ls X hret hrel hS hL hac
  exact lv_lload_n X.1 X.2.1 hdg rfl (hL.2.2.2 _ _ hl) (k p l e R s m args below meth c base ro cs D QF H locs ls X hret hrel hS hL hac)
theorem gk_go_aload {i : Nat} {x : Nat} (hl : L[i]? = some (some (.ref x))) (hdg : decode (M j).2.1 pc = .ok (.aload i, 2)) (k : gk_Go M E d j cf mc ms Γe Q (pc + 2) L (.ref x :: st) Γ h nc ns) : gk_Go M E d j cf mc ms Γe Q pc L st Γ h nc ns := by
  intro p l e R s m args below meth c base ro cs D QF H locs ls X hret hrel hS hL hac
  exact lv_aload X.1 X.2.1 hdg (hL.2.2.2 _ _ hl) (k p l e R s m args below meth c base ro cs D QF H locs ls X hret hrel hS hL hac)
theorem gk_go_aload_n {i : Fin 4} {x : Nat} (hl : L[i.val]? = some (some (.ref x))) (hdg : decode (M j).2.1 pc = .ok (.aload_n i, 1)) (k : gk_Go M E d j cf mc ms Γe Q (pc + 1) L (.ref x :: st) Γ h nc ns) : gk_Go M E d j cf mc ms Γe Q pc L st Γ h nc ns := by
  intro p l e R s m args below meth c base ro cs D QF H locs ls X hret hrel hS hL hac
  exact lv_aload_n X.1 X.2.1 hdg rfl (hL.2.2.2 _ _ hl) (k p l e R s m args below meth c base ro cs D QF H locs ls X hret hrel hS hL hac)
theorem gk_go_aloadN {i : Nat} (hl : L[i]? = some (some .null)) (hdg : decode (M j).2.1 pc = .ok (.aload i, 2)) (k : gk_Go M E d j cf mc ms Γe Q (pc + 2) L (.null :: st) Γ h nc ns) : gk_Go M E d j cf mc ms Γe Q pc L st Γ h nc ns := by
  intro p l e R s m args below meth c base ro cs D QF H locs ls X hret hrel hS hL hac
  exact lv_aloadN X.1 X.2.1 hdg (hL.2.2.2 _ _ hl) (k p l e R s m args below meth c base ro cs D QF H locs ls X hret hrel hS hL hac)
theorem gk_go_istore {i : Nat} {x : Int32} (hi : i < L.length) (hdg : decode (M j).2.1 pc = .ok (.istore i, 2)) (k : gk_Go M E d j cf mc ms Γe Q (pc + 2) (gk_s1 L i (.int x)) st Γ h nc ns) : gk_Go M E d j cf mc ms Γe Q pc L (.int x :: st) Γ h nc ns := by
  intro p l e R s m args below meth c base ro cs D QF H locs ls X hret hrel hS hL hac
  have hi2 : i < (M j).2.2.1 := by rw [← hL.2.1]; exact hi
  exact lv_istore X.1 X.2.1 hdg hL.has hi2 rfl (fun ls' h' => k p l e R s m args below meth c base ro cs D QF H locs ls' X hret hrel hS (gk_Ls.st1 (v := .int x) hL.2.1 hi2 h') hac)
theorem gk_go_istore_n {i : Fin 4} {x : Int32} (hi : i.val < L.length) (hdg : decode (M j).2.1 pc = .ok (.istore_n i, 1)) (k : gk_Go M E d j cf mc ms Γe Q (pc + 1) (gk_s1 L i.val (.int x)) st Γ h nc ns) : gk_Go M E d j cf mc ms Γe Q pc L (.int x :: st) Γ h nc ns := by
  intro p l e R s m args below meth c base ro cs D QF H locs ls X hret hrel hS hL hac
  have hi2 : i.val < (M j).2.2.1 := by rw [← hL.2.1]; exact hi
  exact lv_istore_n X.1 X.2.1 hdg rfl hL.has hi2 rfl (fun ls' h' => k p l e R s m args below meth c base ro cs D QF H locs ls' X hret hrel hS (gk_Ls.st1 (v := .int x) hL.2.1 hi2 h') hac)
theorem gk_go_astore {i : Nat} {x : Nat} (hi : i < L.length) (hdg : decode (M j).2.1 pc = .ok (.astore i, 2)) (k : gk_Go M E d j cf mc ms Γe Q (pc + 2) (gk_s1 L i (.ref x)) st Γ h nc ns) : gk_Go M E d j cf mc ms Γe Q pc L (.ref x :: st) Γ h nc ns := by
  intro p l e R s m args below meth c base ro cs D QF H locs ls X hret hrel hS hL hac
  have hi2 : i < (M j).2.2.1 := by rw [← hL.2.1]; exact hi
  exact lv_astore X.1 X.2.1 hdg hL.has hi2 rfl (fun ls' h' => k p l e R s m args below meth c base ro cs D QF H locs ls' X hret hrel hS (gk_Ls.st1 (v := .ref x) hL.2.1 hi2 h') hac)
theorem gk_go_astore_n {i : Fin 4} {x : Nat} (hi : i.val < L.length) (hdg : decode (M j).2.1 pc = .ok (.astore_n i, 1)) (k : gk_Go M E d j cf mc ms Γe Q (pc + 1) (gk_s1 L i.val (.ref x)) st Γ h nc ns) : gk_Go M E d j cf mc ms Γe Q pc L (.ref x :: st) Γ h nc ns := by
  intro p l e R s m args below meth c base ro cs D QF H locs ls X hret hrel hS hL hac
  have hi2 : i.val < (M j).2.2.1 := by rw [← hL.2.1]; exact hi
  exact lv_astore_n X.1 X.2.1 hdg rfl hL.has hi2 rfl (fun ls' h' => k p l e R s m args below meth c base ro cs D QF H locs ls' X hret hrel hS (gk_Ls.st1 (v := .ref x) hL.2.1 hi2 h') hac)
theorem gk_go_lstore {i : Nat} {x : Int64} (hi : i + 1 < L.length) (hdg : decode (M j).2.1 pc = .ok (.lstore i, 2)) (k : gk_Go M E d j cf mc ms Γe Q (pc + 2) (gk_s2 L i (.long x)) st Γ h nc ns) : gk_Go M E d j cf mc ms Γe Q pc L (.long x :: st) Γ h nc ns := by
  intro p l e R s m args below meth c base ro cs D QF H locs ls X hret hrel hS hL hac
  have hi2 : i + 1 < (M j).2.2.1 := by rw [← hL.2.1]; exact hi
  exact lv_lstore X.1 X.2.1 hdg hL.has hi2 rfl (fun ls' h' => k p l e R s m args below meth c base ro cs D QF H locs ls' X hret hrel hS (gk_Ls.st2 (v := .long x) hL.2.1 hi2 h') hac)
theorem gk_go_lstore_n {i : Fin 4} {x : Int64} (hi : i.val + 1 < L.length) (hdg : decode (M j).2.1 pc = .ok (.lstore_n i, 1)) (k : gk_Go M E d j cf mc ms Γe Q (pc + 1) (gk_s2 L i.val (.long x)) st Γ h nc ns) : gk_Go M E d j cf mc ms Γe Q pc L (.long x :: st) Γ h nc ns := by
  intro p l e R s m args below meth c base ro cs D QF H locs ls X hret hrel hS hL hac
  have hi2 : i.val + 1 < (M j).2.2.1 := by rw [← hL.2.1]; exact hi
  exact lv_lstore_n X.1 X.2.1 hdg rfl hL.has hi2 rfl (fun ls' h' => k p l e R s m args below meth c base ro cs D QF H locs ls' X hret hrel hS (gk_Ls.st2 (v := .long x) hL.2.1 hi2 h') hac)
theorem gk_go_iinc {i : Nat} {n : Int} {x : Int32} (hl : L[i]? = some (some (.int x))) (hdg : decode (M j).2.1 pc = .ok (.iinc i n, 3)) (k : gk_Go M E d j cf mc ms Γe Q (pc + 3) (gk_s1 L i (.int (x + gk_lit n))) st Γ h nc ns) : gk_Go M E d j cf mc ms Γe Q pc L st Γ h nc ns := by
  intro p l e R s m args below meth c base ro cs D QF H locs ls X hret hrel hS hL hac
  have hi2 : i < (M j).2.2.1 := by rw [← hL.2.1]; exact (List.getElem?_eq_some_iff.mp hl).1
  obtain ⟨q, hq⟩ := List.getElem?_of_mem (gk_lol_mem (ad := gk_ad base ro) hl)
  exact lv_iinc (v := x + gk_lit n) X.1 X.2.1 hdg hL.has hq (by rw [gk_lit_eq]) hi2 rfl (fun ls' h' => k p l e R s m args below meth c base ro cs D QF H locs ls' X hret hrel hS (gk_Ls.st1 (v := .int (x + gk_lit n)) hL.2.1 hi2 h') hac)
/-- fewer locals known -/
theorem gk_go_mono {L' : gk_L} (hl : L'.length = L.length) (hs : ∀ (i : Nat) (v : Value), L'[i]? = some (some v) → L[i]? = some (some v)) (k : gk_Go M E d j cf mc ms Γe Q pc L' st Γ h nc ns) : gk_Go M E d j cf mc ms Γe Q pc L st Γ h nc ns := by
  intro p l e R s m args below meth c base ro cs D QF H locs ls X hret hrel hS hL hac
  exact k p l e R s m args below meth c base ro cs D QF H locs ls X hret hrel hS ⟨hL.1, hl.trans hL.2.1, hL.2.2.1, fun i v hi => hL.2.2.2 i v (hs i v hi)⟩ hac
end GKL
