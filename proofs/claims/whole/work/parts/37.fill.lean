/-! Arrays.fill over any cells -/
def h_fill (h : gk_H) (k n : Nat) (v : Int32) : gk_H := (h.1, fun k' i => if k' = k ∧ i < n then v else h.2.1 k' i, h.2.2)
theorem h_fill_0 (h : gk_H) (k : Nat) (v : Int32) : h_fill h k 0 v = h := by
  simp [h_fill]
theorem h_fill_s (h : gk_H) (k n : Nat) (v : Int32) : gk_ha (h_fill h k n v) k n v = h_fill h k (n + 1) v := by
  simp only [h_fill, gk_ha]
  refine Prod.ext rfl (Prod.ext ?_ rfl)
  funext k' i
  simp only [va_up, upd]
  by_cases e : k' = k
  · subst e
    by_cases e2 : i = n
    · subst e2; simp [upd]
    · have : i < n + 1 ↔ i < n := by omega
      simp [upd, e2, this]
  · simp [e]

def g_fill (E : gk_E) (d k : Nat) (v : Int32) (Γ : gk_G) (Q : Option Value → gk_H → Prop) (i : Int32) (h : gk_H) : Prop := gk_Go gk_M E d jja_fill false 0 0 Γ Q 5 [some (.ref k), some (.int v), some (.int i), some (.int 10)] [] Γ h 0 0
theorem w_fill_5 {E : gk_E} {d k : Nat} {v i : Int32} {Γ : gk_G} {Q : Option Value → gk_H → Prop} {h : gk_H} {r : List (Option Nat)} (hG : Γ[k]? = some (1, 10, r)) (h1 : 10 ≤ i → Q none h) (h2 : ¬ 10 ≤ i → vp_in i 10 ∧ g_fill E d k v Γ Q (i + 1) (gk_ha h k i.toNatClampNeg v)) : g_fill E d k v Γ Q i h := by
  refine gk_wp_sound (nm := false) (nh := false) (hd := [(5, [true, true, true, true])]) (ok_ja_fill []) 6 5 _ _ _ _ _ _ ⟨fun _ => rfl, Nat.le_refl _, Nat.le_refl _⟩ ?_
  refine And.intro h1 (fun hn => ?_)
  have h3 := h2 hn
  refine gk_go_iast (pc := 13) hG h3.1 (by decide +kernel) ?_
  exact gk_wp_sound (nm := false) (nh := false) (hd := [(5, [true, true, true, true])]) (ok_ja_fill []) 6 14 _ _ _ _ _ _ ⟨fun _ => rfl, Nat.le_refl _, Nat.le_refl _⟩ h3.2
theorem fl_n : ∀ n : Nat, n < 10 → (¬ (10 : Int32) ≤ nI n) ∧ nI n + 1 = nI (n + 1) ∧ (nI n).toNatClampNeg = n ∧ ¬ (nI n < 0 ∨ 10 ≤ (nI n).toNatClampNeg) := by decide
theorem w_fill_l {E : gk_E} {d k : Nat} {v : Int32} {Γ : gk_G} {Q : Option Value → gk_H → Prop} {h : gk_H} {r : List (Option Nat)} (hG : Γ[k]? = some (1, 10, r)) (hQ : Q none (h_fill h k 10 v)) : ∀ n m : Nat, n + m = 10 → g_fill E d k v Γ Q (nI n) (h_fill h k n v) := by
  intro n m
  induction m generalizing n with
  | zero =>
    intro e
    have e : n = 10 := by omega
    rw [e]
    exact w_fill_5 hG (fun _ => hQ) (fun hn => absurd (by decide) hn)
  | succ m ih =>
    intro e
    have hn : n < 10 := by omega
    obtain ⟨e0, e1, e2, e3⟩ := fl_n n hn
    refine w_fill_5 hG (fun hc => absurd hc e0) (fun _ => ?_)
    rw [e1, e2, h_fill_s]
    exact ⟨e3, ih (n + 1) (by omega)⟩
theorem s_fill {E : gk_E} {d k : Nat} {v : Int32} {Γ : gk_G} {Q : Option Value → gk_H → Prop} {h : gk_H} {r : List (Option Nat)} (hG : Γ[k]? = some (1, 10, r)) (hQ : Q none (h_fill h k 10 v)) : gk_Con gk_M E d jja_fill [.ref k, .int v] Γ Γ h 0 0 Q := by
  refine gk_con (cf := false) (by decide +kernel) (fun h => by cases h) (Nat.le_of_ble_eq_true rfl) rfl ?_
  refine gk_wp_sound (nm := false) (nh := false) (hd := [(5, [true, true, true, true])]) (ok_ja_fill []) 3 0 _ _ _ _ _ _ ⟨fun _ => rfl, Nat.le_refl _, Nat.le_refl _⟩ ?_
  have h5 := w_fill_l (E := E) (d := d) hG hQ 0 10 rfl
  rw [h_fill_0] at h5
  refine gk_go_alen (M := gk_M) (j := jja_fill) (pc := 3) hG (Or.inl rfl) (by decide +kernel) ?_
  exact gk_wp_sound (nm := false) (nh := false) (hd := [(5, [true, true, true, true])]) (ok_ja_fill []) 6 4 _ _ _ _ _ _ ⟨fun _ => rfl, Nat.le_refl _, Nat.le_refl _⟩ h5
