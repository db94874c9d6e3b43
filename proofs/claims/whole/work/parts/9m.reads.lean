/-! tokens; the reference reads one -/
def wsp : List Nat := [0, 7, 13, 19, 24, 27, 31, 35, 39, 45, 50, 56, 61, 67, 72, 76, 80, 85, 88, 92, 97, 102, 105, 110, 116, 119]
theorem wsp_t : ∀ w, w < 25 → wsp.getD w 0 + 1 = wst.getD w 0 ∧ wsp.getD (w + 1) 0 = wst.getD w 0 + wln.getD w 0 ∧ wsp.getD w 0 < 119 := by decide +kernel
theorem wd_256 : ∀ k, k < 120 → wdN.getD k 0 < 256 := by decide +kernel
def TMs (h : gk_H) (n : Nat) (s : Nat → Nat) : Prop := n ≤ 400 ∧ h.1 112 10 = nI n ∧ ∀ i, i < n → s i < 256 ∧ h.2.1 118 i = nI (s i)
theorem isLt_32 {c : Nat} (h : isLt c = true) : ¬ c = 32 := by
  intro q
  rw [q] at h
  exact absurd h (by decide)
section RDS
variable {E : gk_E} {d : Nat} {h : gk_H} {n i : Nat} {s : Nat → Nat}
theorem s_mo_wordAt {K : Int32 → gk_H → Prop} {a b : Nat} (tm : TMs h n s) (wr : wordsR h) (hab : a ≤ b) (hb : b ≤ n) (lt : ∀ j, a ≤ j → j < b → isLt (s j) = true) (k1 : ∀ w, w < 25 → wm s a b w → K (nI w) h) (k0 : (∀ w, w < 25 → ¬ wm s a b w) → K (-1) h) : gk_ci E (d + 1) jmo_wordAt [.ref 112, .int (nI a), .int (nI b)] h K := by
  have h4 := tm.1
  have key : ∀ (m w : Nat), 25 - w = m → w ≤ 25 → (∀ v, v < w → ¬ wm s a b v) → g_mo_wordAt_5 E d (gk_qi K) (nI a) (nI b) (nI w - 1) (nI (wsp.getD w 0)) h := by
    intro m
    induction m with
    | zero =>
      intro w hm hw no
      have e : w = 25 := by omega
      rw [e] at no ⊢
      exact x_mo_wordAt_5 (pk_le 119 119 (fun _ => k0 no) (fun q => by omega))
    | succ m ih =>
      intro w hm hw no
      have hw : w < 25 := by omega
      obtain ⟨t1, t2, t3⟩ := wsp_t w hw
      obtain ⟨w1, w2, w3, -⟩ := wd_in w hw
      have em : nI w - 1 + 1 = nI w := by rw [Int32.sub_add_cancel]
      have nxt : ¬ wm s a b w → g_mo_wordAt_93 E d (gk_qi K) (nI a) (nI b) (nI w) (nI (wsp.getD w 0) + 1) h := by
        intro nw
        have next := ih (w + 1) (by omega) (by omega) (fun v hv => by
          by_cases z : v = w
          · rw [z]; exact nw
          · exact no v (by omega))
        rw [t2, show nI (w + 1) - 1 = nI w from pk_sub (a := w + 1) (b := 1) (by omega)] at next
        rw [nI_1, t1]
        refine lp_up (N := wln.getD w 0) (fun j (_ : Unit) => g_mo_wordAt_93 E d (gk_qi K) (nI a) (nI b) (nI w) (nI (wst.getD w 0 + j)) h) (fun _ _ => True) ?_ ?_ 0 () (Nat.zero_le _) trivial
        · intro j _ hj _ ih2
          have hh := wd_no32 w hw j hj
          have hv := wd_256 (wst.getD w 0 + j) (by omega)
          refine x_mo_wordAt_93 ⟨vp_in_nI (by omega) (by decide), ?_⟩
          rw [nI_clamp (by omega), wr _ (by omega), nI_1]
          exact pk_eq (wdN.getD (wst.getD w 0 + j) 0) 32 (fun q => absurd q hh) (fun _ => fe (ih2 () trivial))
        · intro _ _
          refine x_mo_wordAt_93 ⟨vp_in_nI (by omega) (by decide), ?_⟩
          rw [nI_clamp (by omega), wr _ (by omega), w3]
          exact yT rfl next
      have inner : ∀ (l i : Nat), (b - a) - i = l → i ≤ b - a → i ≤ wln.getD w 0 → (∀ j, j < i → wdN.getD (wst.getD w 0 + j) 0 = s (a + j)) → g_mo_wordAt_19 E d (gk_qi K) (nI a) (nI b) (nI w) (nI (wsp.getD w 0)) (nI i) h := by
        intro l
        induction l with
        | zero =>
          intro i hl hi hi2 al
          have ei : a + i = b := by omega
          have hv := wd_256 (wst.getD w 0 + i) (by omega)
          refine x_mo_wordAt_19 ?_
          unfold w_mo_wordAt_19
          rw [show nI a + nI i = nI (a + i) from nI_add _ _, show nI (wsp.getD w 0) + 1 + nI i = nI (wst.getD w 0 + i) by rw [nI_1, nI_add, t1]]
          refine pk_le b (a + i) (fun _ => zT (by rw [ei]) ⟨vp_in_nI (by omega) (by decide), ?_⟩) (fun q => by omega)
          rw [nI_clamp (by omega), wr _ (by omega)]
          refine pk_ne (wdN.getD (wst.getD w 0 + i) 0) 32 (fun q => fe (nxt fun mm => q ?_)) (fun q => k1 w hw ?_)
          · rw [show i = wln.getD w 0 by have := mm.1; omega]; exact w3
          · have : i = wln.getD w 0 := Classical.byContradiction fun z => wd_no32 w hw i (by omega) q
            exact ⟨by omega, fun j hj => al j (by omega)⟩
        | succ l ihl =>
          intro i hl hi hi2 al
          have hv := wd_256 (wst.getD w 0 + i) (by omega)
          obtain ⟨c1, c2⟩ := tm.2.2 (a + i) (by omega)
          refine x_mo_wordAt_19 ?_
          unfold w_mo_wordAt_19
          rw [show nI a + nI i = nI (a + i) from nI_add _ _, show nI (wsp.getD w 0) + 1 + nI i = nI (wst.getD w 0 + i) by rw [nI_1, nI_add, t1]]
          refine pk_le b (a + i) (fun q => by omega) (fun _ => ⟨vp_in_nI (by omega) (by decide), vp_in_nI (by omega) (by decide), ?_⟩)
          rw [nI_clamp (by omega), nI_clamp (by omega), wr _ (by omega), c2, nI_1 i]
          refine pk_ne (wdN.getD (wst.getD w 0 + i) 0) (s (a + i)) (fun q => ?_) (fun q => fe (ihl (i + 1) (by omega) (by omega) ?_ fun j hj => ?_))
          · exact zF (fun z => by have := (nI_eq (by omega) (by omega)).mp z; omega) (fe (nxt fun mm => q (mm.2 i (by have := mm.1; omega))))
          · have : ¬ i = wln.getD w 0 := fun z => isLt_32 (lt (a + i) (by omega) (by omega)) (by rw [← q, z]; exact w3)
            omega
          · by_cases z : j = i
            · rw [z]; exact q
            · exact al j (by omega)
      refine x_mo_wordAt_5 (pk_le 119 (wsp.getD w 0) (fun q => by omega) (fun _ => fe ?_))
      rw [em]
      exact fe (inner _ 0 rfl (Nat.zero_le _) (Nat.zero_le _) (fun j hj => absurd hj (Nat.not_lt_zero _)))
  refine gk_ci_mk (x_mo_wordAt (fe (fe ?_)))
  exact key 25 0 rfl (by decide) (fun v hv => absurd hv (Nat.not_lt_zero _))
/-- what the reference keeps of a token of kind k, value v -/
def RTok (k v : Nat) (tok val : Int32) : Prop := (k = 0 ∧ tok = 0) ∨ (k = 1 ∧ tok = 3 ∧ val = nI v ∧ v < 10000) ∨ (k = 2 ∧ tok = 1) ∨ (isSg k = true ∧ k < 64 ∧ 39 < k ∧ tok = 4 ∧ val = nI k) ∨ ∃ w, w < 25 ∧ k = 100 + w ∧ tok = 2 ∧ val = nI w
def RTk (h : gk_H) (n : Nat) (s : Nat → Nat) (p : Nat) : Prop := h.1 112 11 = nI (if p < n then tkE s n p else p) ∧ h.1 112 12 = nI p ∧ RTok (tK s n p) (tkV s n p) (h.1 112 13) (h.1 112 14)
def RD (h h' : gk_H) : Prop := h'.2 = h.2 ∧ ∀ k s, ¬ (k = 112 ∧ 11 ≤ s ∧ s ≤ 14) → h'.1 k s = h.1 k s
theorem RD_rf : RD h h := ⟨rfl, fun _ _ _ => rfl⟩
theorem RD_tr {h1 h2 h3 : gk_H} (a : RD h1 h2) (b : RD h2 h3) : RD h1 h3 := ⟨b.1.trans a.1, fun k s q => (b.2 k s q).trans (a.2 k s q)⟩
theorem RD_hf {h' : gk_H} {f : Nat} {x : Int32} (a : RD h h') (h1 : 11 ≤ f) (h2 : f ≤ 14) : RD h (gk_hf h' 112 f x) := ⟨a.1, fun k s q => by
  rw [hf_f, if_neg (fun z => q ⟨z.1, by omega, by omega⟩)]; exact a.2 k s q⟩
theorem RD_tm {h' : gk_H} (a : RD h h') (t : TMs h n s) : TMs h' n s := ⟨t.1, (a.2 112 10 (by omega)).trans t.2.1, by rw [a.1]; exact t.2.2⟩
theorem RD_wr {h' : gk_H} (a : RD h h') (t : wordsR h) : wordsR h' := by unfold wordsR; rw [a.1]; exact t
theorem isDg_b {c : Nat} (h : isDg c = true) : 48 ≤ c ∧ c ≤ 57 := by unfold isDg at h; simp at h; exact h
theorem dec_lt : ∀ k, k ≤ 4 → (∀ j, j < k → isDg (s (i + j)) = true) → dec s i k < 10 ^ k := by
  intro k
  induction k with
  | zero => intro _ _; exact Nat.one_pos
  | succ k ih =>
    intro h1 h2
    have h3 := ih (by omega) (fun j hj => h2 j (by omega))
    have h5 := isDg_b (h2 k (by omega))
    rw [dec, Nat.pow_succ]
    omega
theorem isSg_b : ∀ c, c < 256 → isSg c = true → c < 64 ∧ 39 < c := by decide +kernel
theorem sk_p {p : Nat} (hi : i ≤ n) (e : sk s n i = p) (hp : p < n) : bl (s p) = false := by
  have := (spn_le (P := fun j => bl (s j)) (n := n) (n - i) i rfl hi).2.2
  rw [show spn (fun j => bl (s j)) n i = p from e] at this
  cases q : bl (s p) with
  | false => rfl
  | true => exact absurd ⟨hp, q⟩ this
theorem s_mo_reads {K : gk_H → Prop} (tm : TMs h n s) (wr : wordsR h) (hi : i ≤ n) (e11 : h.1 112 11 = nI i) (k : ∀ h', RD h h' → RTk h' n s (sk s n i) → K h') : gk_cv E (d + 4) jmo_reads [.ref 112] h K := by
  have h4 := tm.1
  have key : ∀ (m i : Nat) (u : gk_H), n - i = m → i ≤ n → u.1 112 11 = nI i → RD h u → (∀ h', RD h h' → RTk h' n s (sk s n i) → K h') → w_mo_reads_0 E (d + 3) (gk_qv K) u := by
    intro m
    induction m with
    | zero =>
      intro i u hm hi e ru ku
      have ei : i = n := by omega
      have es : sk s n i = n := by unfold sk; rw [spn_e (by omega)]; exact ei
      have u10 := (RD_tm ru tm).2.1
      unfold w_mo_reads_0
      rw [e]
      refine s_mo_rawN (d := d + 2) h4 u10 (by omega) (by omega) (yF (by decide) ?_)
      rw [e]
      refine s_mo_rawN (d := d + 2) h4 u10 (by omega) (by omega) (zF (by decide) ?_)
      rw [e]
      refine fe (fe ?_)
      have e2 : (gk_hf (gk_hf u 112 12 (nI i)) 112 13 1).1 112 11 = nI i := by rw [hf_f, if_neg (by decide), hf_f, if_neg (by decide)]; exact e
      have r2 : RD h (gk_hf (gk_hf u 112 12 (nI i)) 112 13 1) := RD_hf (RD_hf ru (by decide) (by decide)) (by decide) (by decide)
      rw [e2]
      refine s_mo_rawN (d := d + 2) h4 (RD_tm r2 tm).2.1 (by omega) (by omega) (fe (zT rfl (fe (ku _ (RD_hf r2 (by decide) (by decide)) ⟨?_, ?_, Or.inl ⟨?_, ?_⟩⟩))))
      · rw [hf_f, if_neg (by decide), e2, es, if_neg (Nat.lt_irrefl _), ei]
      · rw [hf_f, if_neg (by decide), hf_f, if_neg (by decide), hf_f, if_pos ⟨rfl, rfl⟩, es, ei]
      · unfold tK; rw [es, if_neg (Nat.lt_irrefl _)]
      · rw [hf_f, if_pos ⟨rfl, rfl⟩]
    | succ m ih =>
      intro i u hm hi e ru ku
      have hl : i < n := by omega
      have ut := RD_tm ru tm
      obtain ⟨c1, c2⟩ := ut.2.2 i hl
      have nxt : bl (s i) = true → g_mo_reads_0 E (d + 3) (gk_qv K) (gk_hf u 112 11 (nI (i + 1))) := fun b => by
        refine x_mo_reads_0 (ih (i + 1) _ (by omega) (by omega) (by rw [hf_f, if_pos ⟨rfl, rfl⟩]) (RD_hf ru (by decide) (by decide)) ?_)
        rw [show sk s n (i + 1) = sk s n i from (spn_s (P := fun j => bl (s j)) hl b).symm]
        exact ku
      unfold w_mo_reads_0
      rw [e]
      refine s_mo_raw (d := d + 2) h4 ut.2.1 hl c2 ?_
      rw [e, nI_1]
      refine pk_eq (s i) 32 (fun q => fe (nxt (by unfold bl; rw [q]; decide))) (fun q => ?_)
      refine s_mo_raw (d := d + 2) h4 ut.2.1 hl c2 ?_
      rw [e, nI_1]
      refine pk_ne (s i) 10 (fun q2 => ?_) (fun q2 => fe (nxt (by unfold bl; rw [q2]; decide)))
      have es : sk s n i = i := spn_e (fun z => by have := z.2; unfold bl at this; simp [q, q2] at this)
      rw [es] at ku
      refine fe (fe ?_)
      have e2 : (gk_hf (gk_hf u 112 12 (nI i)) 112 13 1).1 112 11 = nI i := by rw [hf_f, if_neg (by decide), hf_f, if_neg (by decide)]; exact e
      have r2 : RD h (gk_hf (gk_hf u 112 12 (nI i)) 112 13 1) := RD_hf (RD_hf ru (by decide) (by decide)) (by decide) (by decide)
      rw [e2]
      refine s_mo_raw (d := d + 2) h4 (RD_tm r2 tm).2.1 hl c2 (fe (zF (nI_m1 (by omega)) ?_))
      rw [e2, nI_1]
      refine fe (fe ?_)
      obtain ⟨U, eU⟩ : ∃ U, U = gk_hf (gk_hf (gk_hf (gk_hf u 112 12 (nI i)) 112 13 1) 112 11 (nI (i + 1))) 112 14 (nI (s i)) := ⟨_, rfl⟩
      rw [← eU]
      have rU : RD h U := by rw [eU]; exact RD_hf (RD_hf r2 (by decide) (by decide)) (by decide) (by decide)
      have U11 : U.1 112 11 = nI (i + 1) := by rw [eU, hf_f, if_neg (by decide), hf_f, if_pos ⟨rfl, rfl⟩]
      have U12 : U.1 112 12 = nI i := by rw [eU, hf_f, if_neg (by decide), hf_f, if_neg (by decide), hf_f, if_neg (by decide), hf_f, if_pos ⟨rfl, rfl⟩]
      have U13 : U.1 112 13 = 1 := by rw [eU, hf_f, if_neg (by decide), hf_f, if_neg (by decide), hf_f, if_pos ⟨rfl, rfl⟩]
      have U14 : U.1 112 14 = nI (s i) := by rw [eU, hf_f, if_pos ⟨rfl, rfl⟩]
      have eK : tK s n i = tkK s n i := by unfold tK; rw [if_pos hl]
      have eT : ∀ h' : gk_H, h'.1 112 11 = nI (tkE s n i) → h'.1 112 12 = nI i → RTok (tkK s n i) (tkV s n i) (h'.1 112 13) (h'.1 112 14) → RTk h' n s i := fun h' a b c => ⟨by rw [if_pos hl]; exact a, b, by rw [eK]; exact c⟩
      refine s_mo_isLetter (d := d + 1) c1 (bsel (fun b => ?_) (fun b => ?_))
      · have nl : ¬ isLt (s i) = true := by rw [b]; decide
        refine s_mo_isDigit (d := d + 1) c1 (bsel (fun b2 => ?_) (fun b2 => ?_))
        · have nd : ¬ isDg (s i) = true := by rw [b2]; decide
          have eE : tkE s n i = i + 1 := by unfold tkE; rw [if_neg nl, if_neg nd]
          refine s_mo_isMarkSign (d := d + 2) c1 (bsel (fun b3 => ?_) (fun b3 => fe ?_))
          · have eK2 : tkK s n i = 2 := by unfold tkK; rw [if_neg nl, if_neg nd, if_neg (by rw [b3]; decide)]
            exact ku U rU (eT U (by rw [eE]; exact U11) U12 (Or.inr (Or.inr (Or.inl ⟨eK2, U13⟩))))
          · have eK2 : tkK s n i = s i := by unfold tkK; rw [if_neg nl, if_neg nd, if_pos b3]
            obtain ⟨g1, g2⟩ := isSg_b (s i) c1 b3
            refine ku _ (RD_hf rU (by decide) (by decide)) (eT _ ?_ ?_ (Or.inr (Or.inr (Or.inr (Or.inl ⟨by rw [eK2]; exact b3, by omega, by omega, ?_, ?_⟩)))))
            · rw [hf_f, if_neg (by decide), eE]; exact U11
            · rw [hf_f, if_neg (by decide)]; exact U12
            · rw [hf_f, if_pos ⟨rfl, rfl⟩]
            · rw [hf_f, if_neg (by decide), eK2]; exact U14
        · have eE : tkE s n i = spn (fun j => isDg (s j)) n i := by unfold tkE; rw [if_neg nl, if_pos b2]
          have eK2 : tkK s n i = if tkE s n i - i ≤ 4 then 1 else 2 := by unfold tkK; rw [if_neg nl, if_pos b2]
          have d48 : nI (s i) - 48 = nI (dec s i 1) := by
            have := isDg_b b2
            rw [show nI (s i) - 48 = nI (s i - 48) from pk_sub (b := 48) this.1]
            congr 1
            show _ = 10 * 0 + (s (i + 0) - 48)
            rw [Nat.add_zero]; omega
          rw [d48]
          have lp : ∀ (l j : Nat) (v : gk_H), n - j = l → i < j → j ≤ n → (∀ q, i ≤ q → q < j → isDg (s q) = true) → spn (fun j => isDg (s j)) n j = tkE s n i → RD h v → v.1 112 11 = nI j → v.1 112 12 = nI i → v.1 112 13 = 1 → (j - i ≤ 4 → v.1 112 14 = nI (dec s i (j - i))) → g_mo_reads_171 E (d + 3) (gk_qv K) v := by
            intro l
            induction l with
            | zero =>
              intro j v hl2 j1 j2 al es2 rv v11 v12 v13 v14
              have ej : j = tkE s n i := by rw [← es2, spn_e (by omega)]
              refine x_mo_reads_171 ?_
              unfold w_mo_reads_171
              rw [v11]
              refine s_mo_rawN (d := d + 2) h4 (RD_tm rv tm).2.1 (by omega) (by omega) (s_mo_isDigitN (d := d + 1) (yT rfl ?_))
              refine pk_le 5 (j - i) (fun q => ku v rv (eT v (by rw [← ej]; exact v11) v12 (Or.inr (Or.inr (Or.inl ⟨by rw [eK2, ← ej, if_neg (by omega)], v13⟩))))) (fun q => fe ?_) (hy := by rw [v11, v12, pk_sub (by omega)])
              refine ku _ (RD_hf rv (by decide) (by decide)) (eT _ (by rw [hf_f, if_neg (by decide), ← ej]; exact v11) (by rw [hf_f, if_neg (by decide)]; exact v12) (Or.inr (Or.inl ⟨by rw [eK2, ← ej, if_pos (by omega)], by rw [hf_f, if_pos ⟨rfl, rfl⟩], ?_, ?_⟩)))
              · rw [hf_f, if_neg (by decide), v14 (by omega)]; unfold tkV; rw [← ej]
              · unfold tkV
                rw [← ej]
                have := dec_lt (s := s) (i := i) (j - i) (by omega) (fun q hq => al (i + q) (by omega) (by omega))
                have h2 : 10 ^ (j - i) ≤ 10 ^ 4 := Nat.pow_le_pow_right (by decide) (by omega)
                omega
            | succ l ihl =>
              intro j v hl2 j1 j2 al es2 rv v11 v12 v13 v14
              have vt := RD_tm rv tm
              obtain ⟨g1, g2⟩ := vt.2.2 j (by omega)
              refine x_mo_reads_171 ?_
              unfold w_mo_reads_171
              rw [v11]
              refine s_mo_raw (d := d + 2) h4 vt.2.1 (by omega) g2 (s_mo_isDigit (d := d + 1) g1 (bsel (fun b4 => ?_) (fun b4 => ?_)))
              · have ej : j = tkE s n i := by rw [← es2, spn_e (fun z => by have := z.2; rw [b4] at this; cases this)]
                refine pk_le 5 (j - i) (fun q => ku v rv (eT v (by rw [← ej]; exact v11) v12 (Or.inr (Or.inr (Or.inl ⟨by rw [eK2, ← ej, if_neg (by omega)], v13⟩))))) (fun q => fe ?_) (hy := by rw [v11, v12, pk_sub (by omega)])
                refine ku _ (RD_hf rv (by decide) (by decide)) (eT _ (by rw [hf_f, if_neg (by decide), ← ej]; exact v11) (by rw [hf_f, if_neg (by decide)]; exact v12) (Or.inr (Or.inl ⟨by rw [eK2, ← ej, if_pos (by omega)], by rw [hf_f, if_pos ⟨rfl, rfl⟩], ?_, ?_⟩)))
                · rw [hf_f, if_neg (by decide), v14 (by omega)]; unfold tkV; rw [← ej]
                · unfold tkV
                  rw [← ej]
                  have := dec_lt (s := s) (i := i) (j - i) (by omega) (fun q hq => al (i + q) (by omega) (by omega))
                  have h2 : 10 ^ (j - i) ≤ 10 ^ 4 := Nat.pow_le_pow_right (by decide) (by omega)
                  omega
              · have al2 : ∀ q, i ≤ q → q < j + 1 → isDg (s q) = true := fun q h1 h2 => by
                  by_cases z : q = j
                  · rw [z]; exact b4
                  · exact al q h1 (by omega)
                have es3 : spn (fun j => isDg (s j)) n (j + 1) = tkE s n i := by rw [← es2, spn_s (P := fun j => isDg (s j)) (by omega) b4]
                have st : ∀ x, (j + 1 - i ≤ 4 → x = nI (dec s i (j + 1 - i))) → g_mo_reads_171 E (d + 3) (gk_qv K) (gk_hf (gk_hf v 112 14 x) 112 11 (nI (j + 1))) := fun x hx => by
                  refine ihl (j + 1) _ (by omega) (by omega) (by omega) al2 es3 (RD_hf (RD_hf rv (by decide) (by decide)) (by decide) (by decide)) (by rw [hf_f, if_pos ⟨rfl, rfl⟩]) ?_ ?_ ?_
                  · rw [hf_f, if_neg (by decide), hf_f, if_neg (by decide)]; exact v12
                  · rw [hf_f, if_neg (by decide), hf_f, if_neg (by decide)]; exact v13
                  · rw [hf_f, if_neg (by decide), hf_f, if_pos ⟨rfl, rfl⟩]; exact hx
                constructor
                · intro big
                  refine fe (fe ?_)
                  rw [hf_f, if_neg (by decide), v11, nI_1]
                  refine st _ (fun q => ?_)
                  exfalso
                  have e14 := v14 (by omega)
                  rw [e14] at big
                  have := dec_lt (s := s) (i := i) (j - i) (by omega) (fun q hq => al (i + q) (by omega) (by omega))
                  have h2 : 10 ^ (j - i) ≤ 10 ^ 4 := Nat.pow_le_pow_right (by decide) (by omega)
                  have h3 := (nI_leI (a := 10000) (b := dec s i (j - i)) (by decide) (by omega)).mp big
                  omega
                · intro _
                  rw [v11]
                  refine s_mo_raw (d := d + 2) h4 vt.2.1 (by omega) g2 (fe (fe ?_))
                  rw [hf_f, if_neg (by decide), v11, nI_1]
                  refine st _ (fun q => ?_)
                  rw [v14 (by omega), dec_s b4, show j + 1 - i = (j - i) + 1 by omega, dec, show i + (j - i) = j by omega]
          refine fe (lp (n - (i + 1)) (i + 1) _ rfl (by omega) (by omega) (fun q h1 h2 => by rw [show q = i by omega]; exact b2) (by rw [eE, spn_s (P := fun j => isDg (s j)) hl b2]) (RD_hf rU (by decide) (by decide)) ?_ ?_ ?_ ?_)
          · rw [hf_f, if_neg (by decide)]; exact U11
          · rw [hf_f, if_neg (by decide)]; exact U12
          · rw [hf_f, if_neg (by decide)]; exact U13
          · intro _
            rw [hf_f, if_pos ⟨rfl, rfl⟩, Nat.add_sub_cancel_left]
      · have eE : tkE s n i = spn (fun j => isLt (s j)) n i := by unfold tkE; rw [if_pos b]
        have eK2 : tkK s n i = tkW s i (tkE s n i) := by unfold tkK; rw [if_pos b]
        have fin : ∀ (j : Nat) (v : gk_H), j = tkE s n i → i < j → j ≤ n → (∀ q, i ≤ q → q < j → isLt (s q) = true) → RD h v → v.1 112 11 = nI j → v.1 112 12 = nI i → v.1 112 13 = 1 → gk_ci E (d + 3) jmo_wordAt [.ref 112, .int (nI i), .int (nI j)] v (fun r_61 h_60 => ∀ h_62 : gk_H, h_62 = gk_hf h_60 112 14 r_61 → (((h_62.1 112 14) = (-1 : Int32) → (gk_qv K none h_62)) ∧ (¬ (h_62.1 112 14) = (-1 : Int32) → (∀ h_63 : gk_H, h_63 = gk_hf h_62 112 13 (2 : Int32) → (gk_qv K none h_63))))) := by
          intro j v ej j1 j2 al rv v11 v12 v13
          refine s_mo_wordAt (d := d + 2) (n := n) (s := s) (RD_tm rv tm) (RD_wr rv wr) (by omega) j2 al (fun w hw mm => fe ?_) (fun no => fe ?_)
          · have x14 : (gk_hf v 112 14 (nI w)).1 112 14 = nI w := by rw [hf_f, if_pos ⟨rfl, rfl⟩]
            rw [x14]
            refine yF ?_ (fe (ku _ (RD_hf (RD_hf rv (by decide) (by decide)) (by decide) (by decide)) (eT _ ?_ ?_ (Or.inr (Or.inr (Or.inr (Or.inr ⟨w, hw, ?_, ?_, ?_⟩)))))))
            · exact nI_m1 (by omega)
            · rw [hf_f, if_neg (by decide), hf_f, if_neg (by decide), ← ej]; exact v11
            · rw [hf_f, if_neg (by decide), hf_f, if_neg (by decide)]; exact v12
            · rw [eK2, ← ej, tkW_1 hw mm]
            · rw [hf_f, if_pos ⟨rfl, rfl⟩]
            · rw [hf_f, if_neg (by decide)]; exact x14
          · have x14 : (gk_hf v 112 14 (-1)).1 112 14 = -1 := by rw [hf_f, if_pos ⟨rfl, rfl⟩]
            rw [x14]
            refine yT rfl (ku _ (RD_hf rv (by decide) (by decide)) (eT _ ?_ ?_ (Or.inr (Or.inr (Or.inl ⟨?_, ?_⟩)))))
            · rw [hf_f, if_neg (by decide), ← ej]; exact v11
            · rw [hf_f, if_neg (by decide)]; exact v12
            · rw [eK2, ← ej, tkW_0 no]
            · rw [hf_f, if_neg (by decide)]; exact v13
        have lp : ∀ (l j : Nat) (v : gk_H), n - j = l → i < j → j ≤ n → (∀ q, i ≤ q → q < j → isLt (s q) = true) → spn (fun j => isLt (s j)) n j = tkE s n i → RD h v → v.1 112 11 = nI j → v.1 112 12 = nI i → v.1 112 13 = 1 → g_mo_reads_95 E (d + 3) (gk_qv K) v := by
          intro l
          induction l with
          | zero =>
            intro j v hl2 j1 j2 al es2 rv v11 v12 v13
            refine x_mo_reads_95 ?_
            unfold w_mo_reads_95
            rw [v11]
            refine s_mo_rawN (d := d + 2) h4 (RD_tm rv tm).2.1 (by omega) (by omega) (s_mo_isLetterN (d := d + 1) (yT rfl ?_))
            rw [v11, v12]
            exact fin j v (by rw [← es2, spn_e (by omega)]) j1 j2 al rv v11 v12 v13
          | succ l ihl =>
            intro j v hl2 j1 j2 al es2 rv v11 v12 v13
            have vt := RD_tm rv tm
            obtain ⟨g1, g2⟩ := vt.2.2 j (by omega)
            refine x_mo_reads_95 ?_
            unfold w_mo_reads_95
            rw [v11]
            refine s_mo_raw (d := d + 2) h4 vt.2.1 (by omega) g2 (s_mo_isLetter (d := d + 1) g1 (bsel (fun b4 => ?_) (fun b4 => fe ?_)))
            · rw [v11, v12]
              exact fin j v (by rw [← es2, spn_e (fun z => by have := z.2; rw [b4] at this; cases this)]) j1 j2 al rv v11 v12 v13
            · rw [v11, nI_1]
              refine ihl (j + 1) _ (by omega) (by omega) (by omega) (fun q h1 h2 => ?_) (by rw [← es2, spn_s (P := fun j => isLt (s j)) (by omega) b4]) (RD_hf rv (by decide) (by decide)) (by rw [hf_f, if_pos ⟨rfl, rfl⟩]) ?_ ?_
              · by_cases z : q = j
                · rw [z]; exact b4
                · exact al q h1 (by omega)
              · rw [hf_f, if_neg (by decide)]; exact v12
              · rw [hf_f, if_neg (by decide)]; exact v13
        exact lp (n - (i + 1)) (i + 1) U rfl (by omega) (by omega) (fun q h1 h2 => by rw [show q = i by omega]; exact b) (by rw [eE, spn_s (P := fun j => isLt (s j)) hl b]) rU U11 U12 U13
  exact gk_cv_mk (x_mo_reads (key (n - i) i h rfl hi e11 RD_rf k))
end RDS
