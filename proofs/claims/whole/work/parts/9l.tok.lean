/-! tokens; the class cuts the tape up -/
open Classical in
noncomputable def tkW (s : Nat → Nat) (a e : Nat) : Nat := if h : ∃ w, w < 25 ∧ wm s a e w then 100 + h.choose else 2
theorem tkW_1 {s : Nat → Nat} {a e w : Nat} (hw : w < 25) (m : wm s a e w) : tkW s a e = 100 + w := by
  have h : ∃ w, w < 25 ∧ wm s a e w := ⟨w, hw, m⟩
  unfold tkW
  rw [dif_pos h, wm_one h.choose_spec.1 hw h.choose_spec.2 m]
theorem tkW_0 {s : Nat → Nat} {a e : Nat} (no : ∀ w, w < 25 → ¬ wm s a e w) : tkW s a e = 2 := by
  unfold tkW
  rw [dif_neg (fun ⟨w, h1, h2⟩ => no w h1 h2)]
def dec (s : Nat → Nat) (i : Nat) : Nat → Nat
  | 0 => 0
  | k + 1 => 10 * dec s i k + (s (i + k) - 48)
def tkE (s : Nat → Nat) (n i : Nat) : Nat := if isLt (s i) then spn (fun j => isLt (s j)) n i else if isDg (s i) then spn (fun j => isDg (s j)) n i else i + 1
noncomputable def tkK (s : Nat → Nat) (n i : Nat) : Nat := if isLt (s i) then tkW s i (tkE s n i) else if isDg (s i) then (if tkE s n i - i ≤ 4 then 1 else 2) else if isSg (s i) then s i else 2
def tkV (s : Nat → Nat) (n i : Nat) : Nat := if isLt (s i) then 0 else if isDg (s i) then dec s i (tkE s n i - i) else 0
theorem tkE_b {s : Nat → Nat} {n i : Nat} (hi : i < n) : i < tkE s n i ∧ tkE s n i ≤ n := by
  unfold tkE
  split
  · rename_i q
    rw [spn_s hi q]
    have := spn_le (P := fun j => isLt (s j)) (n := n) (n - (i + 1)) (i + 1) rfl (by omega)
    omega
  · split
    · rename_i q
      rw [spn_s hi q]
      have := spn_le (P := fun j => isDg (s j)) (n := n) (n - (i + 1)) (i + 1) rfl (by omega)
      omega
    · omega
section TOK
variable {E : gk_E} {d : Nat} {h : gk_H} {K : gk_H → Prop} {n i t : Nat} {s : Nat → Nat}
theorem s_ta_readWord (tc : TCs h n s) (hi : i < n) (hl : isLt (s i) = true) (ht : t ≤ 400) (e5 : h.1 58 5 = nI i) (k : K (gk_ha (gk_hf h 58 5 (nI (tkE s n i))) 60 t (nI (tkK s n i)))) : gk_cv E (d + 6) jta_readWord [.ref 58, .int (nI t)] h K := by
  have h4 := tc.1
  have eE : tkE s n i = spn (fun j => isLt (s j)) n i := by unfold tkE; rw [if_pos hl]
  have eK : tkK s n i = tkW s i (tkE s n i) := by unfold tkK; rw [if_pos hl]
  have vt : vp_in (nI t) 401 := vp_in_nI (by omega) (by decide)
  have key : ∀ (m j : Nat), n - j = m → i ≤ j → j ≤ n → spn (fun j => isLt (s j)) n j = tkE s n i → g_ta_readWord_5 E (d + 5) (gk_qv K) (nI t) (nI i) (gk_hf h 58 5 (nI j)) := by
    intro m
    induction m with
    | zero =>
      intro j hm h1 h2 es
      have ej : j = tkE s n i := by rw [← es, spn_e (by omega)]
      refine x_ta_readWord_5 (pk_le n j (fun _ => ⟨vt, ?_⟩) (fun q => by omega) (hx := by rw [hf_f, if_neg (by decide)]; exact tc.2.1) (hy := by rw [hf_f, if_pos ⟨rfl, rfl⟩]))
      rw [nI_clamp (by omega)]
      refine fe (fe (fe (fe (g_readWord (TCs_fr (by rw [hf_f, if_neg (by decide)]) rfl tc) ht h1 h2 (by rw [hf_f, if_pos ⟨rfl, rfl⟩]) (fun w hw mm => ?_) (fun no => ?_)))))
      · rw [eK, ← ej, tkW_1 hw mm] at k; exact k
      · rw [eK, ← ej, tkW_0 no] at k; exact k
    | succ m ih =>
      intro j hm h1 h2 es
      have u5 : (gk_hf h 58 5 (nI j)).1 58 5 = nI j := by rw [hf_f, if_pos ⟨rfl, rfl⟩]
      have u4 : (gk_hf h 58 5 (nI j)).1 58 4 = nI n := by rw [hf_f, if_neg (by decide)]; exact tc.2.1
      obtain ⟨c1, c2⟩ := tc.2.2 j (by omega)
      refine x_ta_readWord_5 (pk_le n j (fun q => by omega) (fun _ => ?_) (hx := u4) (hy := u5))
      rw [u5]
      refine s_ta_isLetter (d := d + 4) (by omega) c1 c2 (bsel (fun b => ⟨vt, ?_⟩) (fun b => ?_))
      · rw [nI_clamp (by omega)]
        have ej : j = tkE s n i := by rw [← es, spn_e (fun z => by have := z.2; rw [b] at this; cases this)]
        refine fe (fe (fe (fe (g_readWord (TCs_fr (by rw [hf_f, if_neg (by decide)]) rfl tc) ht h1 h2 u5 (fun w hw mm => ?_) (fun no => ?_)))))
        · rw [eK, ← ej, tkW_1 hw mm] at k; exact k
        · rw [eK, ← ej, tkW_0 no] at k; exact k
      · rw [u5, nI_1, hf_tw]
        refine fe (ih (j + 1) (by omega) (by omega) (by omega) ?_)
        rw [← es, spn_s (P := fun j => isLt (s j)) (by omega) b]
  refine gk_cv_mk (x_ta_readWord ?_)
  intro x ex
  rw [ex, e5]
  have := key (n - i) i rfl (Nat.le_refl _) (by omega) eE.symm
  rw [hf_same e5] at this
  exact this
end TOK
