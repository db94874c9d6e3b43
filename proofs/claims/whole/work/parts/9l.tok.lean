/-! tokens; the class cuts the tape up -/
theorem pk_ne {x y : Int32} {A B : Prop} (a b : Nat) (g : a ≠ b → B) (f : a = b → A) (hx : x = nI a := by rfl) (hy : y = nI b := by rfl) (ha : a < 2 ^ 31 := by omega) (hb : b < 2 ^ 31 := by omega) : (¬ x = y → B) ∧ (x = y → A) :=
  have h := pk_eq (A := A) (B := B) a b f g hx hy ha hb
  ⟨h.2, h.1⟩
theorem nI_m1 {v : Nat} (h : v < 2 ^ 31) : ¬ nI v = (-1 : Int32) := by
  intro z
  have := congrArg (fun x : Int32 => decide (x < 0)) z
  simp only [decide_eq_false (nI_pos h)] at this
  exact absurd this (by decide)
noncomputable def tkW (s : Nat → Nat) (a e : Nat) : Nat := @dite Nat (∃ w, w < 25 ∧ wm s a e w) (Classical.propDecidable _) (fun h => 100 + h.choose) (fun _ => 2)
theorem tkW_1 {s : Nat → Nat} {a e w : Nat} (hw : w < 25) (m : wm s a e w) : tkW s a e = 100 + w := by
  have h : ∃ w, w < 25 ∧ wm s a e w := ⟨w, hw, m⟩
  unfold tkW
  rw [dif_pos h, wm_one h.choose_spec.1 hw h.choose_spec.2 m]
theorem tkW_0 {s : Nat → Nat} {a e : Nat} (no : ∀ w, w < 25 → ¬ wm s a e w) : tkW s a e = 2 := by
  unfold tkW
  rw [dif_neg (fun ⟨w, h1, h2⟩ => no w h1 h2)]
def dec (s : Nat → Nat) (i : Nat) : Nat → Nat
  | 0 => 0
  | k + 1 => 10 * dec s i k + (s (i + k) - 48)
def tkE (s : Nat → Nat) (n i : Nat) : Nat := if isLt (s i) = true then spn (fun j => isLt (s j)) n i else if isDg (s i) = true then spn (fun j => isDg (s j)) n i else i + 1
noncomputable def tkK (s : Nat → Nat) (n i : Nat) : Nat := if isLt (s i) = true then tkW s i (tkE s n i) else if isDg (s i) = true then (if tkE s n i - i ≤ 4 then 1 else 2) else if isSg (s i) = true then s i else 2
def tkV (s : Nat → Nat) (n i : Nat) : Nat := dec s i (tkE s n i - i)
theorem tkE_b {s : Nat → Nat} {n i : Nat} (hi : i < n) : i < tkE s n i ∧ tkE s n i ≤ n := by
  unfold tkE
  split
  · rename_i q
    rw [spn_s (P := fun j => isLt (s j)) hi q]
    have := spn_le (P := fun j => isLt (s j)) (n := n) (n - (i + 1)) (i + 1) rfl (by omega)
    omega
  · split
    · rename_i q
      rw [spn_s (P := fun j => isDg (s j)) hi q]
      have := spn_le (P := fun j => isDg (s j)) (n := n) (n - (i + 1)) (i + 1) rfl (by omega)
      omega
    · omega
def sk (s : Nat → Nat) (n i : Nat) : Nat := spn (fun j => bl (s j)) n i
def nxp (s : Nat → Nat) (n p : Nat) : Nat := if p < n then sk s n (tkE s n p) else p
noncomputable def tK (s : Nat → Nat) (n p : Nat) : Nat := if p < n then tkK s n p else 0
def pos (s : Nat → Nat) (n : Nat) : Nat → Nat
  | 0 => sk s n 0
  | t + 1 => nxp s n (pos s n t)
theorem sk_b {s : Nat → Nat} {n i : Nat} (hi : i ≤ n) : i ≤ sk s n i ∧ sk s n i ≤ n := by
  have := spn_le (P := fun j => bl (s j)) (n := n) (n - i) i rfl hi
  exact ⟨this.1, this.2.1⟩
theorem nxp_b {s : Nat → Nat} {n p : Nat} (hp : p < n) : p < nxp s n p ∧ nxp s n p ≤ n := by
  have h1 := tkE_b (s := s) hp
  have h2 := sk_b (s := s) h1.2
  unfold nxp
  rw [if_pos hp]
  omega
theorem nxp_le {s : Nat → Nat} {n p : Nat} (hp : p ≤ n) : nxp s n p ≤ n := by
  by_cases q : p < n
  · exact (nxp_b q).2
  · unfold nxp; rw [if_neg q]; exact hp
theorem pos_le {s : Nat → Nat} {n : Nat} : ∀ t, pos s n t ≤ n
  | 0 => (sk_b (Nat.zero_le _)).2
  | t + 1 => nxp_le (pos_le t)
theorem pos_ge {s : Nat → Nat} {n : Nat} : ∀ t, (∀ v, v < t → pos s n v < n) → t ≤ pos s n t
  | 0, _ => Nat.zero_le _
  | t + 1, h => by
    have h1 := pos_ge t (fun v hv => h v (by omega))
    have h2 := nxp_b (s := s) (h t (by omega))
    show t + 1 ≤ nxp s n (pos s n t)
    omega
def tkA (u : gk_H) (n : Nat) (s : Nat → Nat) (v : Nat) : Prop := u.2.1 60 v = nI (tK s n (pos s n v)) ∧ u.2.1 62 v = nI (pos s n v) ∧ (tK s n (pos s n v) = 1 → u.2.1 61 v = nI (tkV s n (pos s n v)))
def TK (h : gk_H) (n : Nat) (s : Nat → Nat) (N : Nat) : Prop := N ≤ 400 ∧ pos s n N = n ∧ (∀ u, u < N → pos s n u < n) ∧ ∀ u, u ≤ N → tkA h n s u
section TOK
variable {E : gk_E} {d : Nat} {h : gk_H} {K : gk_H → Prop} {n i t : Nat} {s : Nat → Nat}
theorem s_ta_readWord (tc : TCs h n s) (hi : i < n) (hl : isLt (s i) = true) (ht : t ≤ 400) (e5 : h.1 58 5 = nI i) (k : K (gk_ha (gk_hf h 58 5 (nI (tkE s n i))) 60 t (nI (tkK s n i)))) : gk_cv E (d + 6) jta_readWord [.ref 58, .int (nI t)] h K := by
  have h4 := tc.1
  have eE : tkE s n i = spn (fun j => isLt (s j)) n i := by unfold tkE; rw [if_pos hl]
  have eK : tkK s n i = tkW s i (tkE s n i) := by unfold tkK; rw [if_pos hl]
  have vt : vp_in (nI t) 401 := vp_in_nI (by omega) (by decide)
  have key : ∀ (m j : Nat), n - j = m → i ≤ j → j ≤ n → spn (fun j => isLt (s j)) n j = tkE s n i → g_ta_readWord_5 E (d + 5) (gk_qv K) (nI t) (nI i) (gk_hf h 58 5 (nI j)) := by
    intro m
    induction m with
    | zero =>
      intro j hm h1 h2 es
      have ej : j = tkE s n i := by rw [← es, spn_e (by omega)]
      refine x_ta_readWord_5 (pk_le n j (fun _ => ⟨vt, ?_⟩) (fun q => by omega) (hx := by rw [hf_f, if_neg (by decide)]; exact tc.2.1) (hy := by rw [hf_f, if_pos ⟨rfl, rfl⟩]))
      rw [nI_clamp (by omega)]
      refine fe (fe (fe (fe (g_readWord (TCs_fr (by rw [hf_f, if_neg (by decide)]) rfl tc) ht h1 h2 (by rw [hf_f, if_pos ⟨rfl, rfl⟩]) (fun w hw mm => ?_) (fun no => ?_)))))
      · rw [eK, ← ej, tkW_1 hw mm] at k; exact k
      · rw [eK, ← ej, tkW_0 no] at k; exact k
    | succ m ih =>
      intro j hm h1 h2 es
      have u5 : (gk_hf h 58 5 (nI j)).1 58 5 = nI j := by rw [hf_f, if_pos ⟨rfl, rfl⟩]
      have u4 : (gk_hf h 58 5 (nI j)).1 58 4 = nI n := by rw [hf_f, if_neg (by decide)]; exact tc.2.1
      obtain ⟨c1, c2⟩ := tc.2.2 j (by omega)
      refine x_ta_readWord_5 (pk_le n j (fun q => by omega) (fun _ => ?_) (hx := u4) (hy := u5))
      rw [u5]
      refine s_ta_isLetter (d := d + 4) (by omega) c1 c2 (bsel (fun b => ⟨vt, ?_⟩) (fun b => ?_))
      · rw [nI_clamp (by omega)]
        have ej : j = tkE s n i := by rw [← es, spn_e (fun z => by have := z.2; rw [b] at this; cases this)]
        refine fe (fe (fe (fe (g_readWord (TCs_fr (by rw [hf_f, if_neg (by decide)]) rfl tc) ht h1 h2 u5 (fun w hw mm => ?_) (fun no => ?_)))))
        · rw [eK, ← ej, tkW_1 hw mm] at k; exact k
        · rw [eK, ← ej, tkW_0 no] at k; exact k
      · rw [u5, nI_1, hf_tw]
        refine fe (ih (j + 1) (by omega) (by omega) (by omega) ?_)
        rw [← es, spn_s (P := fun j => isLt (s j)) (by omega) b]
  refine gk_cv_mk (x_ta_readWord ?_)
  intro x ex
  rw [ex, e5]
  have := key (n - i) i rfl (Nat.le_refl _) (by omega) eE.symm
  rw [hf_same e5] at this
  exact this
theorem dec_s {c v : Nat} (hc : isDg c = true) : (10 : Int32) * nI v + nI c - 48 = nI (10 * v + (c - 48)) := by
  have : 48 ≤ c := by unfold isDg at hc; simp at hc; exact hc.1
  rw [show (10 : Int32) * nI v = nI (10 * v) from pk_mul 10 v, nI_add, show nI (10 * v + c) - 48 = nI (10 * v + c - 48) from pk_sub (a := 10 * v + c) (b := 48) (by omega)]
  congr 1
  omega
theorem s_ta_readNumber (tc : TCs h n s) (hi : i < n) (hl : ¬ isLt (s i) = true) (hd : isDg (s i) = true) (ht : t ≤ 400) (e5 : h.1 58 5 = nI i) (e0 : h.2.1 61 t = 0) (k : K (gk_ha (gk_ha (gk_hf h 58 5 (nI (tkE s n i))) 61 t (nI (tkV s n i))) 60 t (nI (tkK s n i)))) : gk_cv E (d + 2) jta_readNumber [.ref 58, .int (nI t)] h K := by
  have h4 := tc.1
  have eE : tkE s n i = spn (fun j => isDg (s j)) n i := by unfold tkE; rw [if_neg hl, if_pos hd]
  have eK : tkK s n i = if tkE s n i - i ≤ 4 then 1 else 2 := by unfold tkK; rw [if_neg hl, if_pos hd]
  have vt : vp_in (nI t) 401 := vp_in_nI (by omega) (by decide)
  have u5 : ∀ j x, (gk_ha (gk_hf h 58 5 (nI j)) 61 t x).1 58 5 = nI j := fun j x => by rw [ha_1, hf_f, if_pos ⟨rfl, rfl⟩]
  have u4 : ∀ j x, (gk_ha (gk_hf h 58 5 (nI j)) 61 t x).1 58 4 = nI n := fun j x => by rw [ha_1, hf_f, if_neg (by decide)]; exact tc.2.1
  have fin : ∀ j, i ≤ j → j ≤ n → j = tkE s n i → (((4 : Int32) < (gk_ha (gk_hf h 58 5 (nI j)) 61 t (nI (dec s i (j - i)))).1 58 5 - nI i → (vp_in (nI t) 401 ∧ ∀ h_2 : gk_H, h_2 = gk_ha (gk_ha (gk_hf h 58 5 (nI j)) 61 t (nI (dec s i (j - i)))) 60 (nI t).toNatClampNeg 2 → gk_qv K none h_2)) ∧ (¬ (4 : Int32) < (gk_ha (gk_hf h 58 5 (nI j)) 61 t (nI (dec s i (j - i)))).1 58 5 - nI i → (vp_in (nI t) 401 ∧ ∀ h_2 : gk_H, h_2 = gk_ha (gk_ha (gk_hf h 58 5 (nI j)) 61 t (nI (dec s i (j - i)))) 60 (nI t).toNatClampNeg 1 → gk_qv K none h_2))) := by
    intro j h1 h2 ej
    rw [nI_clamp (by omega)]
    have ev : tkV s n i = dec s i (j - i) := by unfold tkV; rw [← ej]
    rw [← ej] at eK
    refine pk_lt 4 (j - i) (fun q => ⟨vt, fe ?_⟩) (fun q => ⟨vt, fe ?_⟩) (hy := by rw [u5, pk_sub h1])
    · rw [eK, if_neg (by omega), ev, ← ej] at k; exact k
    · rw [eK, if_pos q, ev, ← ej] at k; exact k
  have key : ∀ (m j : Nat), n - j = m → i ≤ j → j ≤ n → spn (fun j => isDg (s j)) n j = tkE s n i → g_ta_readNumber_5 E (d + 1) (gk_qv K) (nI t) (nI i) (gk_ha (gk_hf h 58 5 (nI j)) 61 t (nI (dec s i (j - i)))) := by
    intro m
    induction m with
    | zero =>
      intro j hm h1 h2 es
      have ej : j = tkE s n i := by rw [← es, spn_e (by omega)]
      exact x_ta_readNumber_5 (pk_le n j (fun _ => fin j h1 h2 ej) (fun q => by omega) (hx := u4 _ _) (hy := u5 _ _))
    | succ m ih =>
      intro j hm h1 h2 es
      obtain ⟨c1, c2⟩ := tc.2.2 j (by omega)
      refine x_ta_readNumber_5 (pk_le n j (fun q => by omega) (fun _ => ?_) (hx := u4 _ _) (hy := u5 _ _))
      have c3 : (gk_ha (gk_hf h 58 5 (nI j)) 61 t (nI (dec s i (j - i)))).2.1 59 j = nI (s j) := by rw [ha_o (by decide)]; exact c2
      have f := fin j h1 h2
      rw [u5] at f ⊢
      refine s_ta_isDigit (d := d) (by omega) c1 c3 (bsel (fun b => ?_) (fun b => ⟨vt, ?_⟩))
      · exact fin j h1 h2 (by rw [← es, spn_e (fun z => by have := z.2; rw [b] at this; cases this)])
      · rw [nI_clamp (n := t) (by omega), u5, nI_clamp (by omega), c3, OW_set, if_pos rfl, dec_s b]
        refine ⟨vp_in_nI (by omega) (by decide), vt, fe ?_⟩
        rw [ha_1, u5, nI_1, ha_2]
        refine fe ?_
        have := ih (j + 1) (by omega) (by omega) (by omega) (by rw [← es, spn_s (P := fun j => isDg (s j)) (by omega) b])
        rw [show j + 1 - i = (j - i) + 1 by omega, dec, show i + (j - i) = j by omega, ← hf_tw (x := nI j)] at this
        exact this
  refine gk_cv_mk (x_ta_readNumber ?_)
  intro x ex
  rw [ex, e5]
  have := key (n - i) i rfl (Nat.le_refl _) (by omega) eE.symm
  rw [hf_same e5, Nat.sub_self, dec, show nI 0 = 0 from rfl, ha_same e0] at this
  exact this
def S_cu (k : Nat) : Prop := k = 58 ∨ k = 60 ∨ k = 61 ∨ k = 62
def cuI (h : gk_H) (n : Nat) (s : Nat → Nat) (t : Nat) (u : gk_H) : Prop := fr S_cu h u ∧ u.1 58 4 = nI n ∧ u.1 58 5 = nI (pos s n t) ∧ ∀ v, v < t → pos s n v < n ∧ tkA u n s v
theorem tkA_c {u u' : gk_H} {v : Nat} (e0 : u'.2.1 60 v = u.2.1 60 v) (e1 : u'.2.1 61 v = u.2.1 61 v) (e2 : u'.2.1 62 v = u.2.1 62 v) (a : tkA u n s v) : tkA u' n s v := ⟨e0.trans a.1, e2.trans a.2.1, fun q => e1.trans (a.2.2 q)⟩
theorem s_ta_cutUp (tc : TCs h n s) (k : ∀ h' N, fr S_cu h h' → h'.1 58 4 = h.1 58 4 → TK h' n s N → K h') : gk_cv E (d + 7) jta_cutUp [.ref 58] h K := by
  have h4 := tc.1
  have ende : ∀ t u, pos s n t = n → cuI h n s t u → g_ta_cutUp_11 E (d + 6) (gk_qv K) (nI t) u := by
    intro t u ep ⟨i1, i2, i3, i4⟩
    have ht : t ≤ 400 := by have := pos_ge (s := s) (n := n) t (fun v hv => (i4 v hv).1); omega
    have vt : vp_in (nI t) 401 := vp_in_nI (by omega) (by decide)
    refine x_ta_cutUp_11 (pk_le n (pos s n t) (fun _ => ⟨vt, ?_⟩) (fun q => by omega) (hx := i2) (hy := i3) (hb := by omega))
    rw [nI_clamp (by omega)]
    refine fe ⟨vt, fe ?_⟩
    rw [ha_1, i2]
    refine k _ t (fr_tr i1 (fr_tr (fr_ha (by unfold S_cu; omega)) (fr_ha (by unfold S_cu; omega)))) (by rw [ha_1, ha_1, i2]; exact tc.2.1.symm) ⟨ht, ep, fun v hv => (i4 v hv).1, fun v hv => ?_⟩
    by_cases q : v = t
    · have z : tK s n n = 0 := by unfold tK; rw [if_neg (by omega)]
      refine ⟨?_, ?_, fun q2 => ?_⟩
      · rw [ha_o (by decide), OW_set, if_pos q, q, ep, z]; rfl
      · rw [OW_set, if_pos q, q, ep]
      · rw [q, ep, z] at q2; cases q2
    · exact tkA_c (by rw [ha_o (by decide), OW_set, if_neg q]) (by rw [ha_o (by decide), ha_o (by decide)]) (by rw [OW_set, if_neg q, ha_o (by decide)]) (i4 v (by omega)).2
  have key : ∀ (m t : Nat) (u : gk_H), n - pos s n t ≤ m → cuI h n s t u → g_ta_cutUp_11 E (d + 6) (gk_qv K) (nI t) u := by
    intro m
    induction m with
    | zero => intro t u hm iv; exact ende t u (by have := pos_le (s := s) (n := n) t; omega) iv
    | succ m ih =>
      intro t u hm iv
      by_cases ep : pos s n t = n
      · exact ende t u ep iv
      obtain ⟨i1, i2, i3, i4⟩ := iv
      have hp : pos s n t < n := by have := pos_le (s := s) (n := n) t; omega
      have ht := pos_ge (s := s) (n := n) t (fun v hv => (i4 v hv).1)
      obtain ⟨p, hpe⟩ : ∃ p, p = pos s n t := ⟨_, rfl⟩
      rw [← hpe] at hp i3 ht
      have vt : vp_in (nI t) 401 := vp_in_nI (by omega) (by decide)
      have eK : tK s n p = tkK s n p := by unfold tK; rw [if_pos hp]
      have eE := tkE_b (s := s) hp
      have eN : pos s n (t + 1) = sk s n (tkE s n p) := by show nxp s n (pos s n t) = _; rw [← hpe]; unfold nxp; rw [if_pos hp]
      have fin : ∀ u3 : gk_H, fr S_cu u u3 → u3.1 58 4 = nI n → u3.1 58 5 = nI (tkE s n p) → (∀ v, v < t → u3.2.1 60 v = u.2.1 60 v ∧ u3.2.1 61 v = u.2.1 61 v ∧ u3.2.1 62 v = u.2.1 62 v) → u3.2.1 60 t = nI (tkK s n p) → u3.2.1 62 t = nI p → (tkK s n p = 1 → u3.2.1 61 t = nI (tkV s n p)) → gk_cv E (d + 6) jta_skipBlanks [.ref 58] u3 (fun h' => g_ta_cutUp_11 E (d + 6) (gk_qv K) (nI (t + 1)) h') := by
        intro u3 f3 e4 e5 ea a0 a2 a1
        have e59 : u3.2.1 59 = h.2.1 59 := ((f3 59 (by unfold S_cu; omega)).2.1).trans (i1 59 (by unfold S_cu; omega)).2.1
        refine s_ta_skipBlanks (d := d + 5) (n := n) (i := tkE s n p) (s := s) ⟨h4, e4, by rw [e59]; exact tc.2.2⟩ eE.2 e5 (ih (t + 1) _ ?_ ⟨fr_tr i1 (fr_tr f3 (fr_hf (by unfold S_cu; omega))), ?_, ?_, fun v hv => ?_⟩)
        · rw [eN]
          have := sk_b (s := s) eE.2
          omega
        · rw [hf_f, if_neg (by decide)]; exact e4
        · rw [hf_f, if_pos ⟨rfl, rfl⟩, eN]; rfl
        · by_cases q : v = t
          · refine ⟨by rw [q, ← hpe]; exact hp, ?_, ?_, fun q2 => ?_⟩
            · rw [q, ← hpe, eK]; exact a0
            · rw [q, ← hpe]; exact a2
            · rw [q, ← hpe, eK] at q2
              rw [q, ← hpe]; exact a1 q2
          · obtain ⟨j1, j2⟩ := i4 v (by omega)
            obtain ⟨z0, z1, z2⟩ := ea v (by omega)
            exact ⟨j1, tkA_c (u := u) z0 z1 z2 j2⟩
      refine x_ta_cutUp_11 (pk_le n p (fun q => by omega) (fun _ => pk_le 400 t (fun q => by omega) (fun _ => ⟨vt, ?_⟩)) (hx := i2) (hy := i3))
      rw [nI_clamp (n := t) (by omega), i3, nI_1]
      refine fe ⟨vt, fe ?_⟩
      obtain ⟨U, eU⟩ : ∃ U, U = gk_ha (gk_ha u 62 t (nI p)) 61 t 0 := ⟨_, rfl⟩
      rw [← eU]
      have U5 : U.1 58 5 = nI p := by rw [eU]; exact i3
      have U4 : U.1 58 4 = nI n := by rw [eU]; exact i2
      have Uf : fr S_cu u U := by rw [eU]; exact fr_tr (fr_ha (by unfold S_cu; omega)) (fr_ha (by unfold S_cu; omega))
      have U59 : U.2.1 59 = h.2.1 59 := ((Uf 59 (by unfold S_cu; omega)).2.1).trans (i1 59 (by unfold S_cu; omega)).2.1
      obtain ⟨c1, c2⟩ := tc.2.2 p hp
      have c3 : U.2.1 59 p = nI (s p) := by rw [U59]; exact c2
      have ut : TCs U n s := ⟨h4, U4, by rw [U59]; exact tc.2.2⟩
      have U62 : U.2.1 62 t = nI p := by rw [eU, ha_o (by decide), OW_set, if_pos rfl]
      have Ua : ∀ v, v < t → U.2.1 60 v = u.2.1 60 v ∧ U.2.1 61 v = u.2.1 61 v ∧ U.2.1 62 v = u.2.1 62 v := fun v hv => by
        rw [eU]
        exact ⟨by rw [ha_o (by decide), ha_o (by decide)], by rw [OW_set, if_neg (by omega), ha_o (by decide)], by rw [ha_o (by decide), OW_set, if_neg (by omega)]⟩
      rw [U5]
      refine s_ta_isLetter (d := d + 5) (by omega) c1 c3 (bsel (fun b => ?_) (fun b => ?_))
      · rw [U5]
        have hl : ¬ isLt (s p) = true := by rw [b]; decide
        refine s_ta_isDigit (d := d + 5) (by omega) c1 c3 (bsel (fun b2 => ?_) (fun b2 => ?_))
        · have hd : ¬ isDg (s p) = true := by rw [b2]; decide
          have eE1 : tkE s n p = p + 1 := by unfold tkE; rw [if_neg hl, if_neg hd]
          rw [U5]
          refine ⟨vp_in_nI (by omega) (by decide), ?_⟩
          rw [nI_clamp (by omega), c3]
          refine s_js_indexOf (d := d + 1) c1 (fun b3 => ?_) (fun j hj b3 => ?_)
          · have eK2 : tkK s n p = 2 := by unfold tkK; rw [if_neg hl, if_neg hd, if_neg (by rw [b3]; decide)]
            refine yT (by decide) ⟨vt, fe (fe (fe ?_))⟩
            rw [ha_1, U5, nI_1, ← eE1]
            refine fin _ (fr_tr Uf (fr_tr (fr_ha (by unfold S_cu; omega)) (fr_hf (by unfold S_cu; omega)))) (by rw [hf_f, if_neg (by decide), ha_1]; exact U4) (by rw [hf_f, if_pos ⟨rfl, rfl⟩]) (fun v hv => ?_) ?_ ?_ (fun q => by rw [eK2] at q; cases q)
            · obtain ⟨z0, z1, z2⟩ := Ua v hv
              rw [hf_2]
              exact ⟨by rw [OW_set, if_neg (by omega)]; exact z0, by rw [ha_o (by decide)]; exact z1, by rw [ha_o (by decide)]; exact z2⟩
            · rw [hf_2, OW_set, if_pos rfl, eK2]; rfl
            · rw [hf_2, ha_o (by decide)]; exact U62
          · have eK2 : tkK s n p = s p := by unfold tkK; rw [if_neg hl, if_neg hd, if_pos b3]
            refine yF (nI_pos (by omega)) ?_
            rw [U5]
            refine ⟨vp_in_nI (by omega) (by decide), vt, ?_⟩
            rw [nI_clamp (by omega), c3]
            refine fe (fe (fe ?_))
            rw [ha_1, U5, nI_1, ← eE1]
            refine fin _ (fr_tr Uf (fr_tr (fr_ha (by unfold S_cu; omega)) (fr_hf (by unfold S_cu; omega)))) (by rw [hf_f, if_neg (by decide), ha_1]; exact U4) (by rw [hf_f, if_pos ⟨rfl, rfl⟩]) (fun v hv => ?_) ?_ ?_ (fun q => ?_)
            · obtain ⟨z0, z1, z2⟩ := Ua v hv
              rw [hf_2]
              exact ⟨by rw [OW_set, if_neg (by omega)]; exact z0, by rw [ha_o (by decide)]; exact z1, by rw [ha_o (by decide)]; exact z2⟩
            · rw [hf_2, OW_set, if_pos rfl, eK2]
            · rw [hf_2, ha_o (by decide)]; exact U62
            · rw [eK2] at q
              rw [q] at b3
              exact absurd b3 (by decide)
        · refine s_ta_readNumber (d := d + 4) ut hp hl b2 (by omega) U5 (by rw [eU, OW_set, if_pos rfl]) (fe ?_)
          refine fin _ (fr_tr Uf (fr_tr (fr_tr (fr_hf (by unfold S_cu; omega)) (fr_ha (by unfold S_cu; omega))) (fr_ha (by unfold S_cu; omega)))) (by rw [ha_1, ha_1, hf_f, if_neg (by decide)]; exact U4) (by rw [ha_1, ha_1, hf_f, if_pos ⟨rfl, rfl⟩]) (fun v hv => ?_) ?_ ?_ (fun _ => ?_)
          · obtain ⟨z0, z1, z2⟩ := Ua v hv
            exact ⟨by rw [OW_set, if_neg (by omega), ha_o (by decide), hf_2]; exact z0, by rw [ha_o (by decide), OW_set, if_neg (by omega), hf_2]; exact z1, by rw [ha_o (by decide), ha_o (by decide), hf_2]; exact z2⟩
          · rw [OW_set, if_pos rfl]
          · rw [ha_o (by decide), ha_o (by decide), hf_2]; exact U62
          · rw [ha_o (by decide), OW_set, if_pos rfl]
      · refine s_ta_readWord (d := d) ut hp b (by omega) U5 (fe ?_)
        refine fin _ (fr_tr Uf (fr_tr (fr_hf (by unfold S_cu; omega)) (fr_ha (by unfold S_cu; omega)))) (by rw [ha_1, hf_f, if_neg (by decide)]; exact U4) (by rw [ha_1, hf_f, if_pos ⟨rfl, rfl⟩]) (fun v hv => ?_) ?_ ?_ (fun q => ?_)
        · obtain ⟨z0, z1, z2⟩ := Ua v hv
          exact ⟨by rw [OW_set, if_neg (by omega), hf_2]; exact z0, by rw [ha_o (by decide), hf_2]; exact z1, by rw [ha_o (by decide), hf_2]; exact z2⟩
        · rw [OW_set, if_pos rfl]
        · rw [ha_o (by decide), hf_2]; exact U62
        · have eK2 : tkK s n p = tkW s p (tkE s n p) := by unfold tkK; rw [if_pos b]
          rw [eK2] at q
          unfold tkW at q
          split at q
          · omega
          · cases q
  refine gk_cv_mk (x_ta_cutUp (fe (fe ?_)))
  refine s_ta_skipBlanks (d := d + 5) (n := n) (i := 0) (s := s) (TCs_fr (by rw [hf_f, if_neg (by decide)]) rfl tc) (Nat.zero_le _) (by rw [hf_f, if_pos ⟨rfl, rfl⟩]; rfl) (key n 0 _ (by omega) ⟨fr_tr (fr_hf (by unfold S_cu; omega)) (fr_hf (by unfold S_cu; omega)), ?_, ?_, fun v hv => absurd hv (Nat.not_lt_zero _)⟩)
  · rw [hf_f, if_neg (by decide), hf_f, if_neg (by decide)]; exact tc.2.1
  · rw [hf_f, if_pos ⟨rfl, rfl⟩]; rfl
end TOK
