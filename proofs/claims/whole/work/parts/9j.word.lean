/-! words: which word is written, the class -/
def wst : List Nat := [1, 8, 14, 20, 25, 28, 32, 36, 40, 46, 51, 57, 62, 68, 73, 77, 81, 86, 89, 93, 98, 103, 106, 111, 117]
def wln : List Nat := [6, 5, 5, 4, 2, 3, 3, 3, 5, 4, 5, 4, 5, 4, 3, 3, 4, 2, 3, 4, 4, 2, 4, 5, 2]
def cwN : Nat → Nat
  | 0 => 0
  | i + 1 => if wdN.getD (i + 1) 0 = 32 then cwN i + 1 else cwN i
theorem wd_tab : ∀ i, i < 119 → (wdN.getD (i + 1) 0 = 32 → i + 1 = wst.getD (cwN i) 0 + wln.getD (cwN i) 0 ∧ cwN (i + 1) = cwN i + 1 ∧ (i + 1 < 119 → wst.getD (cwN (i + 1)) 0 = i + 2)) ∧ (¬ wdN.getD (i + 1) 0 = 32 → cwN (i + 1) = cwN i) ∧ cwN i < 25 ∧ 1 ≤ wst.getD (cwN i) 0 ∧ wst.getD (cwN i) 0 ≤ i + 1 := by decide +kernel
theorem wd_end : cwN 119 = 25 := by decide +kernel
theorem wd_in : ∀ w, w < 25 → wst.getD w 0 + wln.getD w 0 < 120 ∧ 1 ≤ wst.getD w 0 ∧ wdN.getD (wst.getD w 0 + wln.getD w 0) 0 = 32 ∧ wdN.getD (wst.getD w 0 - 1) 0 = 32 := by decide +kernel
theorem wd_no32 : ∀ w, w < 25 → ∀ j, j < wln.getD w 0 → ¬ wdN.getD (wst.getD w 0 + j) 0 = 32 := by decide +kernel
theorem wd_one : ∀ w, w < 25 → ∀ v, v < 25 → wln.getD w 0 = wln.getD v 0 → (∀ j, j < wln.getD w 0 → wdN.getD (wst.getD w 0 + j) 0 = wdN.getD (wst.getD v 0 + j) 0) → w = v := by decide +kernel
/-- the signs a .. b - 1 are word w -/
def wm (s : Nat → Nat) (a b w : Nat) : Prop := b - a = wln.getD w 0 ∧ ∀ j, j < wln.getD w 0 → wdN.getD (wst.getD w 0 + j) 0 = s (a + j)
theorem wm_one {s : Nat → Nat} {a b w v : Nat} (hw : w < 25) (hv : v < 25) (m : wm s a b w) (m' : wm s a b v) : w = v := by
  have e : wln.getD w 0 = wln.getD v 0 := m.1.symm.trans m'.1
  exact wd_one w hw v hv e fun j hj => (m.2 j hj).trans (m'.2 j (by omega)).symm
section WRD
variable {E : gk_E} {d : Nat} {h : gk_H}
theorem s_ta_isWordAt {K : Int32 → gk_H → Prop} {n a b w i : Nat} {s : Nat → Nat} (t : TCs h n s) (hw : w < 25) (hab : a ≤ b) (hb : b ≤ n) (el : b - a = wln.getD w 0) (ei : i + 1 = wst.getD w 0 + wln.getD w 0) (k1 : wm s a b w → K 1 h) (k0 : ¬ wm s a b w → K 0 h) : gk_ci E (d + 5) jta_isWordAt [.ref 58, .int (nI (wst.getD w 0 - 1)), .int (nI i), .int (nI a)] h K := by
  obtain ⟨w1, w2, -, -⟩ := wd_in w hw
  have h4 := t.1
  have sub : nI i - nI (wst.getD w 0 - 1) = nI (wln.getD w 0) := by rw [pk_sub (by omega)]; congr 1; omega
  refine gk_ci_mk (x_ta_isWordAt (fe ?_))
  refine lp_up (N := wln.getD w 0) (fun j (_ : Unit) => g_ta_isWordAt_3 E (d + 4) (gk_qi K) (nI (wst.getD w 0 - 1)) (nI i) (nI a) (nI j) h) (fun j _ => ∀ l, l < j → wdN.getD (wst.getD w 0 + l) 0 = s (a + l)) ?_ ?_ 0 () (Nat.zero_le _) (fun l hl => absurd hl (Nat.not_lt_zero _))
  · intro j _ hj al ih
    refine x_ta_isWordAt_3 (pk_le (wln.getD w 0) j (fun q => by omega) (fun _ => ?_) (hx := sub))
    rw [show nI (wst.getD w 0 - 1) + nI j = nI (wst.getD w 0 - 1 + j) from nI_add _ _, show nI a + nI j = nI (a + j) from nI_add _ _, nI_1]
    refine s_js_charAt (d := d) (by omega) ⟨vp_in_nI (by omega) (by decide), ?_⟩
    obtain ⟨c1, c2⟩ := t.2.2 (a + j) (by omega)
    rw [nI_clamp (by omega), c2, show wst.getD w 0 - 1 + j + 1 = wst.getD w 0 + j by omega]
    have wb : ∀ k, k < 120 → wdN.getD k 0 < 256 := by decide +kernel
    have := wb (wst.getD w 0 + j) (by omega)
    refine pk_eq (wdN.getD (wst.getD w 0 + j) 0) (s (a + j)) (fun q => fe (ih () fun l hl => ?_)) (fun q => ⟨Or.inl rfl, k0 fun m => q (m.2 j hj)⟩)
    by_cases z : l = j
    · rw [z]; exact q
    · exact al l (by omega)
  · intro _ al
    exact x_ta_isWordAt_3 (pk_le (wln.getD w 0) (wln.getD w 0) (fun _ => ⟨Or.inr rfl, k1 ⟨el, al⟩⟩) (fun q => by omega) (hx := sub))
end WRD
