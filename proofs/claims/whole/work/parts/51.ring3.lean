/-! going back over views, class; keeping and going back, reference -/
def S_back (k : Nat) : Prop := k = 20 ∨ (1 ≤ k ∧ k ≤ 6)
theorem S_undo {E : gk_E} {d : Nat} {h : gk_H} {K : Int32 → gk_H → Prop} {f n : Nat} {ws : Nat → gk_WV} (hU : cU h f n ws) (k0 : n = 0 → K 0 h) (k1 : ∀ m h', n = m + 1 → cU h' f m ws → wv h' 1 = ws m → fr S_back h h' → K 1 h') : gk_ci E (d + 4) jdp_undo [.ref 0] h K := by
  obtain ⟨hf, hn, e1, e2, hw⟩ := hU
  refine s_dp_undo hf hn e1 e2 k0 (fun m hm => k1 m _ hm ?_ ?_ ?_)
  · have hr : (f + m) % 6 < 6 := Nat.mod_lt _ (by decide)
    refine ⟨hf, by omega, ?_, ?_, fun i hi => ?_⟩
    · rw [cp_f (by omega), if_neg (fun q => absurd q.1 (by decide)), hf_f, if_neg (by decide), e1]
    · rw [cp_f (by omega), if_neg (fun q => absurd q.1 (by decide)), hf_f, if_pos ⟨rfl, rfl⟩]
    · rw [wv_copy_other (by omega) (by omega), wv_hf (by omega)]
      exact hw i (by omega)
  · have hr : (f + m) % 6 < 6 := Nat.mod_lt _ (by decide)
    rw [wv_copy_self (by omega), wv_hf (by omega)]
    exact hw m (by omega)
  · have hr : (f + m) % 6 < 6 := Nat.mod_lt _ (by decide)
    exact fr_tr (fr_hf (Or.inl rfl)) (fr_copy (by omega) (fun i hi => Or.inr (by omega)))
theorem rv_eq {h h' : gk_H} {k o k' o' : Nat} (e : ∀ j, j < 131 → h'.2.1 k' (o' + j) = h.2.1 k (o + j)) : rv h' k' o' = rv h k o := funext fun j => if_c (e j)
theorem cp_at {h : gk_H} {k k0 o t n j : Nat} (hj : j < n) : (h_cp h k k0 o t n).2.1 k (t + j) = h.2.1 k0 (o + j) := by
  simp only [h_cp]
  rw [if_pos ⟨trivial, by omega, by omega⟩]
  have : o + (t + j - t) = o + j := by omega
  rw [this]
theorem cp_off {h : gk_H} {k k0 o t n k' i : Nat} (hj : ¬ k' = k ∨ i < t ∨ t + n ≤ i) : (h_cp h k k0 o t n).2.1 k' i = h.2.1 k' i := by
  simp only [h_cp]
  rw [if_neg]
  intro q
  rcases hj with q1 | q1 | q1
  · exact q1 q.1
  · omega
  · omega
def S_mkeep (k : Nat) : Prop := k = 112 ∨ k = 114
theorem M_keep {E : gk_E} {d : Nat} {h : gk_H} {K : gk_H → Prop} {n : Nat} {rs : Nat → Nat → Int32} (hU : mU h n rs) (k : ∀ h', mU h' (kpN n) (kpS n rs (rv h 113 0)) → (∀ s, ¬ s = 3 → h'.1 112 s = h.1 112 s) → fr S_mkeep h h' → K h') : gk_cv E (d + 1) jmo_keepsAhead [.ref 112] h K := by
  obtain ⟨hn, e, hw⟩ := hU
  refine s_mo_keepsAhead hn e (fun hn6 => k _ ?_ ?_ ?_) (fun hn6 => k _ ?_ ?_ ?_)
  · have q6 : ¬ n = 6 := by omega
    refine ⟨by unfold kpN; rw [if_neg q6]; omega, ?_, fun i hi => ?_⟩
    · unfold kpN
      rw [hf_f, if_pos ⟨rfl, rfl⟩, if_neg q6]
    · unfold kpN at hi
      rw [if_neg q6] at hi
      unfold kpS
      rw [if_neg q6]
      by_cases q : i = n
      · rw [if_pos q, q]
        exact rv_eq fun j hj => cp_at hj
      · rw [if_neg q, ← hw i (by omega)]
        refine rv_eq fun j hj => ?_
        show (h_cp h 114 113 0 (131 * n) 131).2.1 114 (131 * i + j) = _
        exact cp_off (by omega)
  · intro s hs
    rw [hf_f, if_neg (fun q => hs q.2)]
    rfl
  · exact fr_tr (fr_cp (Or.inr rfl)) (fr_hf (Or.inl rfl))
  · refine ⟨by unfold kpN; rw [if_pos hn6]; decide, ?_, fun i hi => ?_⟩
    · unfold kpN
      rw [hf_f, if_pos ⟨rfl, rfl⟩, if_pos hn6]
    · unfold kpN at hi
      rw [if_pos hn6] at hi
      unfold kpS
      rw [if_pos hn6]
      by_cases q : i < 5
      · rw [if_pos q, ← hw (i + 1) (by omega)]
        refine rv_eq fun j hj => ?_
        show (h_cp (h_cp (gk_hf h 112 3 (nI 5)) 114 114 131 0 655) 114 113 0 655 131).2.1 114 (131 * i + j) = _
        rw [cp_off (by omega)]
        have := cp_at (h := gk_hf h 112 3 (nI 5)) (k := 114) (k0 := 114) (o := 131) (t := 0) (n := 655) (j := 131 * i + j) (by omega)
        rw [Nat.zero_add] at this
        rw [this]
        have e9 : 131 + (131 * i + j) = 131 * (i + 1) + j := by omega
        rw [e9]
        rfl
      · rw [if_neg q, show i = 5 by omega]
        refine rv_eq fun j hj => ?_
        show (h_cp (h_cp (gk_hf h 112 3 (nI 5)) 114 114 131 0 655) 114 113 0 655 131).2.1 114 (655 + j) = _
        rw [cp_at hj, cp_off (Or.inl (by decide))]
        rfl
  · intro s hs
    rw [hf_f, if_neg (fun q => hs q.2)]
    show (gk_hf h 112 3 (nI 5)).1 112 s = _
    rw [hf_f, if_neg (fun q => hs q.2)]
  · exact fr_tr (fr_tr (fr_hf (Or.inl rfl)) (fr_cp (Or.inr rfl))) (fr_tr (fr_cp (Or.inr rfl)) (fr_hf (Or.inl rfl)))
def S_mback (k : Nat) : Prop := k = 112 ∨ k = 113
theorem M_undo {E : gk_E} {d : Nat} {h : gk_H} {K : Int32 → gk_H → Prop} {n : Nat} {rs : Nat → Nat → Int32} (hU : mU h n rs) (k0 : n = 0 → K 0 (gk_hf h 112 0 0)) (k1 : ∀ m h', n = m + 1 → mU h' m rs → rv h' 113 0 = rs m → h'.1 112 0 = 0 → (∀ s, ¬ s = 0 → ¬ s = 3 → h'.1 112 s = h.1 112 s) → fr S_mback h h' → K 1 h') : gk_ci E (d + 1) jmo_undo [.ref 112] h K := by
  obtain ⟨hn, e, hw⟩ := hU
  refine s_mo_undo hn e k0 (fun m hm => k1 m _ hm ⟨by omega, ?_, fun i hi => ?_⟩ ?_ ?_ ?_ ?_)
  · show (gk_hf (gk_hf h 112 0 0) 112 3 (nI m)).1 112 3 = _
    rw [hf_f, if_pos ⟨rfl, rfl⟩]
  · rw [← hw i (by omega)]
    exact rv_eq fun j hj => cp_off (Or.inl (by decide))
  · rw [← hw m (by omega)]
    exact rv_eq fun j hj => cp_at hj
  · show (gk_hf (gk_hf h 112 0 0) 112 3 (nI m)).1 112 0 = _
    rw [hf_f, if_neg (by decide), hf_f, if_pos ⟨rfl, rfl⟩]
  · intro s h0 h3
    show (gk_hf (gk_hf h 112 0 0) 112 3 (nI m)).1 112 s = _
    rw [hf_f, if_neg (fun q => h3 q.2), hf_f, if_neg (fun q => h0 q.2)]
  · exact fr_tr (fr_tr (fr_hf (Or.inl rfl)) (fr_hf (Or.inl rfl))) (fr_cp (Or.inr rfl))
