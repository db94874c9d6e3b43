/-! a word read, the class -/
theorem ha_2 {h : gk_H} {k i : Nat} {x y : Int32} : gk_ha (gk_ha h k i x) k i y = gk_ha h k i y := by
  refine Prod.ext rfl (Prod.ext (funext fun k' => funext fun j => ?_) rfl)
  rw [ha_a, ha_a, ha_a]
  by_cases q : k' = k ∧ j = i
  · rw [if_pos q, if_pos q]
  · rw [if_neg q, if_neg q, if_neg q]
theorem hf_tw {h : gk_H} {k i : Nat} {x y : Int32} : gk_hf (gk_hf h k i x) k i y = gk_hf h k i y := by
  refine Prod.ext (funext fun k' => funext fun j => ?_) rfl
  rw [hf_f, hf_f, hf_f]
  by_cases q : k' = k ∧ j = i
  · rw [if_pos q, if_pos q]
  · rw [if_neg q, if_neg q, if_neg q]
theorem hf_same {h : gk_H} {k i : Nat} {x : Int32} (e : h.1 k i = x) : gk_hf h k i x = h := by
  refine Prod.ext (funext fun k' => funext fun j => ?_) rfl
  rw [hf_f]
  by_cases q : k' = k ∧ j = i
  · rw [if_pos q, q.1, q.2, e]
  · rw [if_neg q]
theorem TCs_fr {h h' : gk_H} {n : Nat} {s : Nat → Nat} (e : h'.1 58 4 = h.1 58 4) (e2 : h'.2.1 59 = h.2.1 59) (t : TCs h n s) : TCs h' n s := ⟨t.1, e.trans t.2.1, by rw [e2]; exact t.2.2⟩
section RW
variable {E : gk_E} {d : Nat} {h : gk_H} {K : gk_H → Prop} {n a e t : Nat} {s : Nat → Nat}
theorem g_readWord (tc : TCs h n s) (ht : t ≤ 400) (hae : a ≤ e) (hen : e ≤ n) (e5 : h.1 58 5 = nI e) (k1 : ∀ w, w < 25 → wm s a e w → K (gk_ha h 60 t (nI (100 + w)))) (k0 : (∀ w, w < 25 → ¬ wm s a e w) → K (gk_ha h 60 t 2)) : g_ta_readWord_56 E (d + 5) (gk_qv K) (nI t) (nI a) 100 0 0 (gk_ha h 60 t 2) := by
  have h4 := tc.1
  have T : ∀ x, TCs (gk_ha h 60 t x) n s := fun x => TCs_fr rfl (funext fun j => by rw [ha_a, if_neg (by omega)]) tc
  have go : g_ta_readWord_56 E (d + 5) (gk_qv K) (nI t) (nI a) (nI (100 + cwN 0)) (nI (wst.getD (cwN 0) 0 - 1)) (nI 0) (gk_ha h 60 t 2) := by
    refine lp_up (N := 119) (fun i (u : gk_H) => ∀ hd, (i < 119 → hd = wst.getD (cwN i) 0 - 1) → g_ta_readWord_56 E (d + 5) (gk_qv K) (nI t) (nI a) (nI (100 + cwN i)) (nI hd) (nI i) u) (fun i u => (∃ w, w < cwN i ∧ w < 25 ∧ wm s a e w ∧ u = gk_ha h 60 t (nI (100 + w))) ∨ ((∀ w, w < cwN i → ¬ wm s a e w) ∧ u = gk_ha h 60 t 2)) ?_ ?_ 0 _ (by decide) (Or.inr ⟨fun w hw => absurd hw (Nat.not_lt_zero _), rfl⟩) _ (fun _ => rfl)
    · intro i u hi iv ih hd ehd
      have ehd := ehd hi
      obtain ⟨x, ux⟩ : ∃ x, u = gk_ha h 60 t x := by
        rcases iv with ⟨w, -, -, -, eu⟩ | ⟨-, eu⟩
        · exact ⟨_, eu⟩
        · exact ⟨_, eu⟩
      have tu : TCs u n s := by rw [ux]; exact T x
      have u5 : u.1 58 5 = nI e := by rw [ux]; exact e5
      obtain ⟨tb1, tb2, tb3, tb4, tb5⟩ := wd_tab i hi
      refine x_ta_readWord_56 (s_js_length (d := d + 3) (pk_le 119 i (fun q => by omega) (fun _ => s_js_charAt (d := d + 1) hi ?_)))
      rw [nI_1, nI_1, u5, pk_sub hae, ehd, pk_sub (by omega)]
      have wb : ∀ k, k < 120 → wdN.getD k 0 < 256 := by decide +kernel
      have := wb (i + 1) (by omega)
      by_cases q : wdN.getD (i + 1) 0 = 32
      · obtain ⟨t1, t2, t3⟩ := tb1 q
        refine zT (by rw [q]; rfl) ?_
        have nxt : ∀ v, ((∃ w, w < cwN (i + 1) ∧ w < 25 ∧ wm s a e w ∧ v = gk_ha h 60 t (nI (100 + w))) ∨ ((∀ w, w < cwN (i + 1) → ¬ wm s a e w) ∧ v = gk_ha h 60 t 2)) → g_ta_readWord_56 E (d + 5) (gk_qv K) (nI t) (nI a) (nI (100 + cwN i + 1)) (nI (i + 1)) (nI (i + 1)) v := by
          intro v iv'
          have := ih v iv' (i + 1) (fun z => by have := t3 z; omega)
          rw [t2] at this
          exact this
        have keep : ¬ wm s a e (cwN i) → g_ta_readWord_56 E (d + 5) (gk_qv K) (nI t) (nI a) (nI (100 + cwN i + 1)) (nI (i + 1)) (nI (i + 1)) u := by
          intro nw
          refine nxt u ?_
          rw [t2]
          rcases iv with ⟨w, w1, w2, w3, eu⟩ | ⟨no, eu⟩
          · exact Or.inl ⟨w, by omega, w2, w3, eu⟩
          · refine Or.inr ⟨fun w hw => ?_, eu⟩
            by_cases z : w = cwN i
            · rw [z]; exact nw
            · exact no w (by omega)
        have sw := pk_eq (x := nI (i - (wst.getD (cwN i) 0 - 1))) (y := nI (e - a)) (A := gk_ci E (d + 5) jta_isWordAt [.ref 58, .int (nI (wst.getD (cwN i) 0 - 1)), .int (nI i), .int (nI a)] u (fun r_22 h_21 => (r_22 = 0 → (∀ x3_23 : Int32, x3_23 = nI (100 + cwN i + 1) → (∀ x4_24 : Int32, x4_24 = nI (i + 1) → (∀ x5_25 : Int32, x5_25 = nI (i + 1) → (g_ta_readWord_56 E (d + 5) (gk_qv K) (nI t) (nI a) x3_23 x4_24 x5_25 h_21))))) ∧ (¬ r_22 = 0 → (vp_in (nI t) 401 ∧ (∀ h_26 : gk_H, h_26 = gk_ha h_21 60 (nI t).toNatClampNeg (nI (100 + cwN i)) → (∀ x3_27 : Int32, x3_27 = nI (100 + cwN i + 1) → (∀ x4_28 : Int32, x4_28 = nI (i + 1) → (∀ x5_29 : Int32, x5_29 = nI (i + 1) → (g_ta_readWord_56 E (d + 5) (gk_qv K) (nI t) (nI a) x3_27 x4_28 x5_29 h_26))))))))) (B := ∀ x3_18 : Int32, x3_18 = nI (100 + cwN i + 1) → (∀ x4_19 : Int32, x4_19 = nI (i + 1) → (∀ x5_20 : Int32, x5_20 = nI (i + 1) → (g_ta_readWord_56 E (d + 5) (gk_qv K) (nI t) (nI a) x3_18 x4_19 x5_20 u)))) (i - (wst.getD (cwN i) 0 - 1)) (e - a) (fun q2 => ?_) (fun q2 => fe (fe (fe (keep fun m => q2 (by have := m.1; omega))))) 
        · exact ⟨sw.2, sw.1⟩
        · refine s_ta_isWordAt (d := d) tu tb3 hae hen (by omega) t1 (fun m => yF (by decide) ⟨vp_in_nI (by omega) (by decide), ?_⟩) (fun m => yT rfl (fe (fe (fe (keep m)))))
          rw [nI_clamp (by omega), ux, ha_2]
          refine fe (fe (fe (fe (nxt _ (Or.inl ⟨cwN i, by omega, tb3, m, rfl⟩)))))
      · have e2 := tb2 q
        refine zF (fun z => q ((nI_eq (b := 32) (by omega) (by decide)).mp z)) (fe ?_)
        have := ih u (by rw [e2]; exact iv) hd (fun z => by rw [e2]; exact ehd)
        rw [e2, ehd] at this
        exact this
    · intro u iv hd _
      refine x_ta_readWord_56 (s_js_length (d := d + 3) (pk_le 119 119 (fun _ => ?_) (fun q => by omega)))
      rw [wd_end] at iv
      rcases iv with ⟨w, w1, w2, w3, eu⟩ | ⟨no, eu⟩
      · rw [eu]; exact k1 w w2 w3
      · rw [eu]; exact k0 no
  exact go
end RW
