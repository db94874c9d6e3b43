/-! texts copied, the class -/
theorem hc_o {h : gk_H} {k k0 n k' s : Nat} (e : ¬ k' = k) : (gk_hc h k k0 0 0 n).2.1 k' s = h.2.1 k' s := by rw [hc_a, if_neg (fun q => e q.1)]
theorem hc_e {h : gk_H} {k k0 n s : Nat} (e : s < n) : (gk_hc h k k0 0 0 n).2.1 k s = h.2.1 k0 s := by rw [hc_a, if_pos ⟨rfl, e⟩]
theorem fr_hc {S : Nat → Prop} {h : gk_H} {k k0 n : Nat} (hk : S k) : fr S h (gk_hc h k k0 0 0 n) := by
  intro k' hk'
  refine ⟨rfl, funext fun s => ?_, rfl⟩
  rw [hc_o (fun q => hk' (by rw [q]; exact hk))]
/-- a law copied: u of its codes are used -/
def LCp (h h' : gk_H) (dl sl u : Nat) : Prop := (h'.1 dl 0 = h.1 sl 0 ∧ h'.1 dl 1 = h.1 sl 1) ∧ (∀ j, j < 16 → h'.2.1 (dl + 1) j = h.2.1 (sl + 1) j ∧ h'.2.1 (dl + 2) j = h.2.1 (sl + 2) j ∧ h'.2.1 (dl + 3) j = h.2.1 (sl + 3) j ∧ h'.2.1 (dl + 4) j = h.2.1 (sl + 4) j) ∧ ∀ j, j < u → h'.2.1 (dl + 5) j = h.2.1 (sl + 5) j ∧ h'.2.1 (dl + 6) j = h.2.1 (sl + 6) j
section TC7_99
variable {E : gk_E} {d : Nat} {h : gk_H} {K : gk_H → Prop}
theorem s_la_copy_8_100 {u : Nat} (hu : u ≤ 400) (e : h.1 100 1 = nI u) (k : ∀ h', fr (fun k => 8 ≤ k ∧ k ≤ 14) h h' → LCp h h' 8 100 u → K h') : gk_cv E (d + 2) jla_copy [.ref 8, .ref 100] h K := by
  have c0 : (0 : Int32).toNatClampNeg = 0 := by decide
  have c16 : (16 : Int32).toNatClampNeg = 16 := by decide
  refine gk_cv_mk (x_la_copy_8_100 (fe (fe ?_)))
  rw [c0, c16]
  have p16 : 1 ≤ d + 1 ∧ ¬ (0 : Int32) < 0 ∧ ¬ (0 : Int32) < 0 ∧ ¬ (16 : Int32) < 0 ∧ 0 + 16 ≤ 16 ∧ 0 + 16 ≤ 16 := ⟨by omega, by decide, by decide, by decide, by decide, by decide⟩
  have e1 : (gk_hf h 8 0 (h.1 100 0)).1 100 1 = nI u := by rw [hf_f, if_neg (by decide)]; exact e
  rw [e1]
  refine ⟨p16, fe ⟨p16, fe ⟨p16, fe ⟨p16, fe ?_⟩⟩⟩⟩
  have e6 : (gk_hc (gk_hc (gk_hc (gk_hc (gk_hf (gk_hf h 8 0 (h.1 100 0)) 8 1 (nI u)) 9 101 0 0 16) 10 102 0 0 16) 11 103 0 0 16) 12 104 0 0 16).1 8 1 = nI u := by
    rw [hc_1, hc_1, hc_1, hc_1, hf_f, if_pos ⟨rfl, rfl⟩]
  rw [e6, nI_clamp (by omega)]
  have pu : 1 ≤ d + 1 ∧ ¬ (0 : Int32) < 0 ∧ ¬ (0 : Int32) < 0 ∧ ¬ nI u < 0 ∧ 0 + u ≤ 400 ∧ 0 + u ≤ 400 := ⟨by omega, by decide, by decide, nI_pos (by omega), by omega, by omega⟩
  refine ⟨pu, fe ?_⟩
  rw [hc_1, e6, nI_clamp (by omega)]
  refine ⟨pu, fe (k _ ?_ ⟨⟨?_, ?_⟩, fun j hj => ⟨?_, ?_, ?_, ?_⟩, fun j hj => ⟨?_, ?_⟩⟩)⟩
  · exact fr_tr (fr_tr (fr_tr (fr_tr (fr_tr (fr_tr (fr_tr (fr_hf (by omega)) (fr_hf (by omega))) (fr_hc (by omega))) (fr_hc (by omega))) (fr_hc (by omega))) (fr_hc (by omega))) (fr_hc (by omega))) (fr_hc (by omega))
  · rw [hc_1, hc_1, hc_1, hc_1, hc_1, hc_1, hf_f, if_neg (by decide), hf_f, if_pos ⟨rfl, rfl⟩]
  · rw [hc_1, hc_1, hc_1, hc_1, hc_1, hc_1, hf_f, if_pos ⟨rfl, rfl⟩, e]
  · rw [hc_o (by decide), hc_o (by decide), hc_o (by decide), hc_o (by decide), hc_o (by decide), hc_e hj]; rfl
  · rw [hc_o (by decide), hc_o (by decide), hc_o (by decide), hc_o (by decide), hc_e hj, hc_o (by decide)]; rfl
  · rw [hc_o (by decide), hc_o (by decide), hc_o (by decide), hc_e hj, hc_o (by decide), hc_o (by decide)]; rfl
  · rw [hc_o (by decide), hc_o (by decide), hc_e hj, hc_o (by decide), hc_o (by decide), hc_o (by decide)]; rfl
  · rw [hc_o (by decide), hc_e hj, hc_o (by decide), hc_o (by decide), hc_o (by decide), hc_o (by decide)]; rfl
  · rw [hc_e hj, hc_o (by decide), hc_o (by decide), hc_o (by decide), hc_o (by decide), hc_o (by decide)]; rfl
theorem s_tx_copy0_7_99 {u : Nat} (hu : u ≤ 400) (e : h.1 100 1 = nI u) (k : ∀ h', fr (fun k => (8 ≤ k ∧ k ≤ 14) ∨ k = 15) h h' → LCp h h' 8 100 u → (∀ j, ¬ j = 0 → h'.2.1 15 j = h.2.1 15 j) → K h') : gk_cv E (d + 3) jtx_copyOne [.ref 7, .int 0, .ref 99] h K := by
  have c0 : (0 : Int32).toNatClampNeg = 0 := by decide
  refine gk_cv_mk (x_tx_copyOne_7_99 (yF (by decide) (yT (by decide) ⟨vpi (by decide), vpi (by decide), fe (zT rfl (s_la_copy_8_100 (d := d) hu e fun h' f' l' => k h' ?_ l' fun j hj => ?_))⟩)))
  · exact fr_tr (fr_ha (Or.inr rfl)) (fr_mo f' (fun k q => Or.inl q))
  · rw [(f' 15 (by omega)).2.1, c0, OW_set, if_neg hj]
theorem s_tx_copy1_7_99 (k : ∀ h', fr (fun k => k = 15 ∨ k = 16) h h' → h'.2.1 15 1 = h.2.1 107 1 → (∀ j, ¬ j = 1 → h'.2.1 15 j = h.2.1 15 j) → (∀ j, j < 36 → h'.2.1 16 j = h.2.1 108 j) → K h') : gk_cv E (d + 3) jtx_copyOne [.ref 7, .int 1, .ref 99] h K := by
  have c0 : (0 : Int32).toNatClampNeg = 0 := by decide
  have c1 : (1 : Int32).toNatClampNeg = 1 := by decide
  have cn : (36 : Int32).toNatClampNeg = 36 := by decide
  refine gk_cv_mk (x_tx_copyOne_7_99 (yF (by decide) (yT (by decide) ⟨vpi (by decide), vpi (by decide), fe (zF (by decide) (zT rfl ⟨⟨by omega, by decide, by decide, by decide, by decide, by decide⟩, ?_⟩))⟩)))
  rw [c0, c1, cn]
  refine fe (k _ (fr_tr (fr_ha (Or.inl rfl)) (fr_hc (Or.inr rfl))) ?_ (fun j hj => ?_) (fun j hj => ?_))
  · rw [hc_o (by decide), OW_set, if_pos rfl]
  · rw [hc_o (by decide), OW_set, if_neg hj]
  · rw [hc_e hj, ha_o (by decide)]
theorem s_tx_copy2_7_99 (k : ∀ h', fr (fun k => k = 15 ∨ k = 17) h h' → h'.2.1 15 2 = h.2.1 107 2 → (∀ j, ¬ j = 2 → h'.2.1 15 j = h.2.1 15 j) → (∀ j, j < 64 → h'.2.1 17 j = h.2.1 109 j) → K h') : gk_cv E (d + 3) jtx_copyOne [.ref 7, .int 2, .ref 99] h K := by
  have c0 : (0 : Int32).toNatClampNeg = 0 := by decide
  have c1 : (2 : Int32).toNatClampNeg = 2 := by decide
  have cn : (64 : Int32).toNatClampNeg = 64 := by decide
  refine gk_cv_mk (x_tx_copyOne_7_99 (yF (by decide) (yT (by decide) ⟨vpi (by decide), vpi (by decide), fe (zF (by decide) (zF (by decide) (zT rfl ⟨⟨by omega, by decide, by decide, by decide, by decide, by decide⟩, ?_⟩)))⟩)))
  rw [c0, c1, cn]
  refine fe (k _ (fr_tr (fr_ha (Or.inl rfl)) (fr_hc (Or.inr rfl))) ?_ (fun j hj => ?_) (fun j hj => ?_))
  · rw [hc_o (by decide), OW_set, if_pos rfl]
  · rw [hc_o (by decide), OW_set, if_neg hj]
  · rw [hc_e hj, ha_o (by decide)]
theorem s_tx_copy3_7_99 (k : ∀ h', fr (fun k => k = 15 ∨ k = 18) h h' → h'.2.1 15 3 = h.2.1 107 3 → (∀ j, ¬ j = 3 → h'.2.1 15 j = h.2.1 15 j) → (∀ j, j < 10 → h'.2.1 18 j = h.2.1 110 j) → K h') : gk_cv E (d + 3) jtx_copyOne [.ref 7, .int 3, .ref 99] h K := by
  have c0 : (0 : Int32).toNatClampNeg = 0 := by decide
  have c1 : (3 : Int32).toNatClampNeg = 3 := by decide
  have cn : (10 : Int32).toNatClampNeg = 10 := by decide
  refine gk_cv_mk (x_tx_copyOne_7_99 (yF (by decide) (yT (by decide) ⟨vpi (by decide), vpi (by decide), fe (zF (by decide) (zF (by decide) (zF (by decide) ⟨⟨by omega, by decide, by decide, by decide, by decide, by decide⟩, ?_⟩)))⟩)))
  rw [c0, c1, cn]
  refine fe (k _ (fr_tr (fr_ha (Or.inl rfl)) (fr_hc (Or.inr rfl))) ?_ (fun j hj => ?_) (fun j hj => ?_))
  · rw [hc_o (by decide), OW_set, if_pos rfl]
  · rw [hc_o (by decide), OW_set, if_neg hj]
  · rw [hc_e hj, ha_o (by decide)]
end TC7_99
section TC99_7
variable {E : gk_E} {d : Nat} {h : gk_H} {K : gk_H → Prop}
theorem s_la_copy_100_8 {u : Nat} (hu : u ≤ 400) (e : h.1 8 1 = nI u) (k : ∀ h', fr (fun k => 100 ≤ k ∧ k ≤ 106) h h' → LCp h h' 100 8 u → K h') : gk_cv E (d + 2) jla_copy [.ref 100, .ref 8] h K := by
  have c0 : (0 : Int32).toNatClampNeg = 0 := by decide
  have c16 : (16 : Int32).toNatClampNeg = 16 := by decide
  refine gk_cv_mk (x_la_copy_100_8 (fe (fe ?_)))
  rw [c0, c16]
  have p16 : 1 ≤ d + 1 ∧ ¬ (0 : Int32) < 0 ∧ ¬ (0 : Int32) < 0 ∧ ¬ (16 : Int32) < 0 ∧ 0 + 16 ≤ 16 ∧ 0 + 16 ≤ 16 := ⟨by omega, by decide, by decide, by decide, by decide, by decide⟩
  have e1 : (gk_hf h 100 0 (h.1 8 0)).1 8 1 = nI u := by rw [hf_f, if_neg (by decide)]; exact e
  rw [e1]
  refine ⟨p16, fe ⟨p16, fe ⟨p16, fe ⟨p16, fe ?_⟩⟩⟩⟩
  have e6 : (gk_hc (gk_hc (gk_hc (gk_hc (gk_hf (gk_hf h 100 0 (h.1 8 0)) 100 1 (nI u)) 101 9 0 0 16) 102 10 0 0 16) 103 11 0 0 16) 104 12 0 0 16).1 100 1 = nI u := by
    rw [hc_1, hc_1, hc_1, hc_1, hf_f, if_pos ⟨rfl, rfl⟩]
  rw [e6, nI_clamp (by omega)]
  have pu : 1 ≤ d + 1 ∧ ¬ (0 : Int32) < 0 ∧ ¬ (0 : Int32) < 0 ∧ ¬ nI u < 0 ∧ 0 + u ≤ 400 ∧ 0 + u ≤ 400 := ⟨by omega, by decide, by decide, nI_pos (by omega), by omega, by omega⟩
  refine ⟨pu, fe ?_⟩
  rw [hc_1, e6, nI_clamp (by omega)]
  refine ⟨pu, fe (k _ ?_ ⟨⟨?_, ?_⟩, fun j hj => ⟨?_, ?_, ?_, ?_⟩, fun j hj => ⟨?_, ?_⟩⟩)⟩
  · exact fr_tr (fr_tr (fr_tr (fr_tr (fr_tr (fr_tr (fr_tr (fr_hf (by omega)) (fr_hf (by omega))) (fr_hc (by omega))) (fr_hc (by omega))) (fr_hc (by omega))) (fr_hc (by omega))) (fr_hc (by omega))) (fr_hc (by omega))
  · rw [hc_1, hc_1, hc_1, hc_1, hc_1, hc_1, hf_f, if_neg (by decide), hf_f, if_pos ⟨rfl, rfl⟩]
  · rw [hc_1, hc_1, hc_1, hc_1, hc_1, hc_1, hf_f, if_pos ⟨rfl, rfl⟩, e]
  · rw [hc_o (by decide), hc_o (by decide), hc_o (by decide), hc_o (by decide), hc_o (by decide), hc_e hj]; rfl
  · rw [hc_o (by decide), hc_o (by decide), hc_o (by decide), hc_o (by decide), hc_e hj, hc_o (by decide)]; rfl
  · rw [hc_o (by decide), hc_o (by decide), hc_o (by decide), hc_e hj, hc_o (by decide), hc_o (by decide)]; rfl
  · rw [hc_o (by decide), hc_o (by decide), hc_e hj, hc_o (by decide), hc_o (by decide), hc_o (by decide)]; rfl
  · rw [hc_o (by decide), hc_e hj, hc_o (by decide), hc_o (by decide), hc_o (by decide), hc_o (by decide)]; rfl
  · rw [hc_e hj, hc_o (by decide), hc_o (by decide), hc_o (by decide), hc_o (by decide), hc_o (by decide)]; rfl
theorem s_tx_copy0_99_7 {u : Nat} (hu : u ≤ 400) (e : h.1 8 1 = nI u) (k : ∀ h', fr (fun k => (100 ≤ k ∧ k ≤ 106) ∨ k = 107) h h' → LCp h h' 100 8 u → (∀ j, ¬ j = 0 → h'.2.1 107 j = h.2.1 107 j) → K h') : gk_cv E (d + 3) jtx_copyOne [.ref 99, .int 0, .ref 7] h K := by
  have c0 : (0 : Int32).toNatClampNeg = 0 := by decide
  refine gk_cv_mk (x_tx_copyOne_99_7 (yF (by decide) (yT (by decide) ⟨vpi (by decide), vpi (by decide), fe (zT rfl (s_la_copy_100_8 (d := d) hu e fun h' f' l' => k h' ?_ l' fun j hj => ?_))⟩)))
  · exact fr_tr (fr_ha (Or.inr rfl)) (fr_mo f' (fun k q => Or.inl q))
  · rw [(f' 107 (by omega)).2.1, c0, OW_set, if_neg hj]
theorem s_tx_copy1_99_7 (k : ∀ h', fr (fun k => k = 107 ∨ k = 108) h h' → h'.2.1 107 1 = h.2.1 15 1 → (∀ j, ¬ j = 1 → h'.2.1 107 j = h.2.1 107 j) → (∀ j, j < 36 → h'.2.1 108 j = h.2.1 16 j) → K h') : gk_cv E (d + 3) jtx_copyOne [.ref 99, .int 1, .ref 7] h K := by
  have c0 : (0 : Int32).toNatClampNeg = 0 := by decide
  have c1 : (1 : Int32).toNatClampNeg = 1 := by decide
  have cn : (36 : Int32).toNatClampNeg = 36 := by decide
  refine gk_cv_mk (x_tx_copyOne_99_7 (yF (by decide) (yT (by decide) ⟨vpi (by decide), vpi (by decide), fe (zF (by decide) (zT rfl ⟨⟨by omega, by decide, by decide, by decide, by decide, by decide⟩, ?_⟩))⟩)))
  rw [c0, c1, cn]
  refine fe (k _ (fr_tr (fr_ha (Or.inl rfl)) (fr_hc (Or.inr rfl))) ?_ (fun j hj => ?_) (fun j hj => ?_))
  · rw [hc_o (by decide), OW_set, if_pos rfl]
  · rw [hc_o (by decide), OW_set, if_neg hj]
  · rw [hc_e hj, ha_o (by decide)]
theorem s_tx_copy2_99_7 (k : ∀ h', fr (fun k => k = 107 ∨ k = 109) h h' → h'.2.1 107 2 = h.2.1 15 2 → (∀ j, ¬ j = 2 → h'.2.1 107 j = h.2.1 107 j) → (∀ j, j < 64 → h'.2.1 109 j = h.2.1 17 j) → K h') : gk_cv E (d + 3) jtx_copyOne [.ref 99, .int 2, .ref 7] h K := by
  have c0 : (0 : Int32).toNatClampNeg = 0 := by decide
  have c1 : (2 : Int32).toNatClampNeg = 2 := by decide
  have cn : (64 : Int32).toNatClampNeg = 64 := by decide
  refine gk_cv_mk (x_tx_copyOne_99_7 (yF (by decide) (yT (by decide) ⟨vpi (by decide), vpi (by decide), fe (zF (by decide) (zF (by decide) (zT rfl ⟨⟨by omega, by decide, by decide, by decide, by decide, by decide⟩, ?_⟩)))⟩)))
  rw [c0, c1, cn]
  refine fe (k _ (fr_tr (fr_ha (Or.inl rfl)) (fr_hc (Or.inr rfl))) ?_ (fun j hj => ?_) (fun j hj => ?_))
  · rw [hc_o (by decide), OW_set, if_pos rfl]
  · rw [hc_o (by decide), OW_set, if_neg hj]
  · rw [hc_e hj, ha_o (by decide)]
theorem s_tx_copy3_99_7 (k : ∀ h', fr (fun k => k = 107 ∨ k = 110) h h' → h'.2.1 107 3 = h.2.1 15 3 → (∀ j, ¬ j = 3 → h'.2.1 107 j = h.2.1 107 j) → (∀ j, j < 10 → h'.2.1 110 j = h.2.1 18 j) → K h') : gk_cv E (d + 3) jtx_copyOne [.ref 99, .int 3, .ref 7] h K := by
  have c0 : (0 : Int32).toNatClampNeg = 0 := by decide
  have c1 : (3 : Int32).toNatClampNeg = 3 := by decide
  have cn : (10 : Int32).toNatClampNeg = 10 := by decide
  refine gk_cv_mk (x_tx_copyOne_99_7 (yF (by decide) (yT (by decide) ⟨vpi (by decide), vpi (by decide), fe (zF (by decide) (zF (by decide) (zF (by decide) ⟨⟨by omega, by decide, by decide, by decide, by decide, by decide⟩, ?_⟩)))⟩)))
  rw [c0, c1, cn]
  refine fe (k _ (fr_tr (fr_ha (Or.inl rfl)) (fr_hc (Or.inr rfl))) ?_ (fun j hj => ?_) (fun j hj => ?_))
  · rw [hc_o (by decide), OW_set, if_pos rfl]
  · rw [hc_o (by decide), OW_set, if_neg hj]
  · rw [hc_e hj, ha_o (by decide)]
end TC99_7
section TC7_64
variable {E : gk_E} {d : Nat} {h : gk_H} {K : gk_H → Prop}
theorem s_la_copy_8_65 {u : Nat} (hu : u ≤ 400) (e : h.1 65 1 = nI u) (k : ∀ h', fr (fun k => 8 ≤ k ∧ k ≤ 14) h h' → LCp h h' 8 65 u → K h') : gk_cv E (d + 2) jla_copy [.ref 8, .ref 65] h K := by
  have c0 : (0 : Int32).toNatClampNeg = 0 := by decide
  have c16 : (16 : Int32).toNatClampNeg = 16 := by decide
  refine gk_cv_mk (x_la_copy_8_65 (fe (fe ?_)))
  rw [c0, c16]
  have p16 : 1 ≤ d + 1 ∧ ¬ (0 : Int32) < 0 ∧ ¬ (0 : Int32) < 0 ∧ ¬ (16 : Int32) < 0 ∧ 0 + 16 ≤ 16 ∧ 0 + 16 ≤ 16 := ⟨by omega, by decide, by decide, by decide, by decide, by decide⟩
  have e1 : (gk_hf h 8 0 (h.1 65 0)).1 65 1 = nI u := by rw [hf_f, if_neg (by decide)]; exact e
  rw [e1]
  refine ⟨p16, fe ⟨p16, fe ⟨p16, fe ⟨p16, fe ?_⟩⟩⟩⟩
  have e6 : (gk_hc (gk_hc (gk_hc (gk_hc (gk_hf (gk_hf h 8 0 (h.1 65 0)) 8 1 (nI u)) 9 66 0 0 16) 10 67 0 0 16) 11 68 0 0 16) 12 69 0 0 16).1 8 1 = nI u := by
    rw [hc_1, hc_1, hc_1, hc_1, hf_f, if_pos ⟨rfl, rfl⟩]
  rw [e6, nI_clamp (by omega)]
  have pu : 1 ≤ d + 1 ∧ ¬ (0 : Int32) < 0 ∧ ¬ (0 : Int32) < 0 ∧ ¬ nI u < 0 ∧ 0 + u ≤ 400 ∧ 0 + u ≤ 400 := ⟨by omega, by decide, by decide, nI_pos (by omega), by omega, by omega⟩
  refine ⟨pu, fe ?_⟩
  rw [hc_1, e6, nI_clamp (by omega)]
  refine ⟨pu, fe (k _ ?_ ⟨⟨?_, ?_⟩, fun j hj => ⟨?_, ?_, ?_, ?_⟩, fun j hj => ⟨?_, ?_⟩⟩)⟩
  · exact fr_tr (fr_tr (fr_tr (fr_tr (fr_tr (fr_tr (fr_tr (fr_hf (by omega)) (fr_hf (by omega))) (fr_hc (by omega))) (fr_hc (by omega))) (fr_hc (by omega))) (fr_hc (by omega))) (fr_hc (by omega))) (fr_hc (by omega))
  · rw [hc_1, hc_1, hc_1, hc_1, hc_1, hc_1, hf_f, if_neg (by decide), hf_f, if_pos ⟨rfl, rfl⟩]
  · rw [hc_1, hc_1, hc_1, hc_1, hc_1, hc_1, hf_f, if_pos ⟨rfl, rfl⟩, e]
  · rw [hc_o (by decide), hc_o (by decide), hc_o (by decide), hc_o (by decide), hc_o (by decide), hc_e hj]; rfl
  · rw [hc_o (by decide), hc_o (by decide), hc_o (by decide), hc_o (by decide), hc_e hj, hc_o (by decide)]; rfl
  · rw [hc_o (by decide), hc_o (by decide), hc_o (by decide), hc_e hj, hc_o (by decide), hc_o (by decide)]; rfl
  · rw [hc_o (by decide), hc_o (by decide), hc_e hj, hc_o (by decide), hc_o (by decide), hc_o (by decide)]; rfl
  · rw [hc_o (by decide), hc_e hj, hc_o (by decide), hc_o (by decide), hc_o (by decide), hc_o (by decide)]; rfl
  · rw [hc_e hj, hc_o (by decide), hc_o (by decide), hc_o (by decide), hc_o (by decide), hc_o (by decide)]; rfl
theorem s_tx_copy0_7_64 {u : Nat} (hu : u ≤ 400) (e : h.1 65 1 = nI u) (k : ∀ h', fr (fun k => (8 ≤ k ∧ k ≤ 14) ∨ k = 15) h h' → LCp h h' 8 65 u → (∀ j, ¬ j = 0 → h'.2.1 15 j = h.2.1 15 j) → K h') : gk_cv E (d + 3) jtx_copyOne [.ref 7, .int 0, .ref 64] h K := by
  have c0 : (0 : Int32).toNatClampNeg = 0 := by decide
  refine gk_cv_mk (x_tx_copyOne_7_64 (yF (by decide) (yT (by decide) ⟨vpi (by decide), vpi (by decide), fe (zT rfl (s_la_copy_8_65 (d := d) hu e fun h' f' l' => k h' ?_ l' fun j hj => ?_))⟩)))
  · exact fr_tr (fr_ha (Or.inr rfl)) (fr_mo f' (fun k q => Or.inl q))
  · rw [(f' 15 (by omega)).2.1, c0, OW_set, if_neg hj]
theorem s_tx_copy1_7_64 (k : ∀ h', fr (fun k => k = 15 ∨ k = 16) h h' → h'.2.1 15 1 = h.2.1 72 1 → (∀ j, ¬ j = 1 → h'.2.1 15 j = h.2.1 15 j) → (∀ j, j < 36 → h'.2.1 16 j = h.2.1 73 j) → K h') : gk_cv E (d + 3) jtx_copyOne [.ref 7, .int 1, .ref 64] h K := by
  have c0 : (0 : Int32).toNatClampNeg = 0 := by decide
  have c1 : (1 : Int32).toNatClampNeg = 1 := by decide
  have cn : (36 : Int32).toNatClampNeg = 36 := by decide
  refine gk_cv_mk (x_tx_copyOne_7_64 (yF (by decide) (yT (by decide) ⟨vpi (by decide), vpi (by decide), fe (zF (by decide) (zT rfl ⟨⟨by omega, by decide, by decide, by decide, by decide, by decide⟩, ?_⟩))⟩)))
  rw [c0, c1, cn]
  refine fe (k _ (fr_tr (fr_ha (Or.inl rfl)) (fr_hc (Or.inr rfl))) ?_ (fun j hj => ?_) (fun j hj => ?_))
  · rw [hc_o (by decide), OW_set, if_pos rfl]
  · rw [hc_o (by decide), OW_set, if_neg hj]
  · rw [hc_e hj, ha_o (by decide)]
theorem s_tx_copy2_7_64 (k : ∀ h', fr (fun k => k = 15 ∨ k = 17) h h' → h'.2.1 15 2 = h.2.1 72 2 → (∀ j, ¬ j = 2 → h'.2.1 15 j = h.2.1 15 j) → (∀ j, j < 64 → h'.2.1 17 j = h.2.1 74 j) → K h') : gk_cv E (d + 3) jtx_copyOne [.ref 7, .int 2, .ref 64] h K := by
  have c0 : (0 : Int32).toNatClampNeg = 0 := by decide
  have c1 : (2 : Int32).toNatClampNeg = 2 := by decide
  have cn : (64 : Int32).toNatClampNeg = 64 := by decide
  refine gk_cv_mk (x_tx_copyOne_7_64 (yF (by decide) (yT (by decide) ⟨vpi (by decide), vpi (by decide), fe (zF (by decide) (zF (by decide) (zT rfl ⟨⟨by omega, by decide, by decide, by decide, by decide, by decide⟩, ?_⟩)))⟩)))
  rw [c0, c1, cn]
  refine fe (k _ (fr_tr (fr_ha (Or.inl rfl)) (fr_hc (Or.inr rfl))) ?_ (fun j hj => ?_) (fun j hj => ?_))
  · rw [hc_o (by decide), OW_set, if_pos rfl]
  · rw [hc_o (by decide), OW_set, if_neg hj]
  · rw [hc_e hj, ha_o (by decide)]
theorem s_tx_copy3_7_64 (k : ∀ h', fr (fun k => k = 15 ∨ k = 18) h h' → h'.2.1 15 3 = h.2.1 72 3 → (∀ j, ¬ j = 3 → h'.2.1 15 j = h.2.1 15 j) → (∀ j, j < 10 → h'.2.1 18 j = h.2.1 75 j) → K h') : gk_cv E (d + 3) jtx_copyOne [.ref 7, .int 3, .ref 64] h K := by
  have c0 : (0 : Int32).toNatClampNeg = 0 := by decide
  have c1 : (3 : Int32).toNatClampNeg = 3 := by decide
  have cn : (10 : Int32).toNatClampNeg = 10 := by decide
  refine gk_cv_mk (x_tx_copyOne_7_64 (yF (by decide) (yT (by decide) ⟨vpi (by decide), vpi (by decide), fe (zF (by decide) (zF (by decide) (zF (by decide) ⟨⟨by omega, by decide, by decide, by decide, by decide, by decide⟩, ?_⟩)))⟩)))
  rw [c0, c1, cn]
  refine fe (k _ (fr_tr (fr_ha (Or.inl rfl)) (fr_hc (Or.inr rfl))) ?_ (fun j hj => ?_) (fun j hj => ?_))
  · rw [hc_o (by decide), OW_set, if_pos rfl]
  · rw [hc_o (by decide), OW_set, if_neg hj]
  · rw [hc_e hj, ha_o (by decide)]
end TC7_64
