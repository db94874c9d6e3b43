/-! walks: turnings, the reference -/
section TB1
variable {E : gk_E} {d : Nat} {h : gk_H} {K : Int32 → gk_H → Prop}
theorem s_mo_beside {c w : Nat} (hc : c < 64) (hw : w < 4) (k1 : ∀ o, o < 64 → stp w c o → K (nI o) h) (k0 : (∀ o, o < 64 → ¬ stp w c o) → K (-1) h) : gk_ci E (d + 2) jmo_beside [.ref 112, .int (nI c), .int (nI w)] h K := by
  have e1 : nI c / 8 = nI (c / 8) := pk_div (d := 8) (by omega) (by omega) (by omega)
  have e2 : nI c - nI c / 8 * 8 = nI (c % 8) := pk_rem (d := 8) (by omega) (by omega) (by omega)
  have tl : ∀ x y : Int32, (∀ i j, i < 8 → j < 8 → x = nI i → y = nI j → K (nI (8 * i + j)) h) → (¬ ((0 ≤ x ∧ x ≤ 7) ∧ (0 ≤ y ∧ y ≤ 7)) → K (-1) h) → gk_ci E (d + 1) jmo_isIn [.ref 112, .int x, .int 0, .int 7] h (fun r_4 h_3 => (r_4 = 0 → gk_qi K (some (.int (-1))) h_3) ∧ (¬ r_4 = 0 → gk_ci E (d + 1) jmo_isIn [.ref 112, .int y, .int 0, .int 7] h_3 (fun r_6 h_5 => (r_6 = 0 → gk_qi K (some (.int (-1))) h_5) ∧ (¬ r_6 = 0 → gk_qi K (some (.int (8 * x + y))) h_5)))) := by
    intro x y h1 h0
    by_cases hx : (0 : Int32) ≤ x ∧ x ≤ 7
    · by_cases hy : (0 : Int32) ≤ y ∧ y ≤ 7
      · refine s_in1 hx (yF (by decide) (s_in1 hy (yF (by decide) ?_)))
        obtain ⟨i, hi, rfl⟩ := of05 (N := 7) (by decide) hx
        obtain ⟨j, hj, rfl⟩ := of05 (N := 7) (by decide) hy
        show K (nI 8 * nI i + nI j) h
        rw [nI_mulN, nI_add]
        exact h1 i j (by omega) (by omega) rfl rfl
      · exact s_in1 hx (yF (by decide) (s_in0 hy (yT rfl (h0 (fun z => hy z.2)))))
    · exact s_in0 hx (yT rfl (h0 (fun z => hx z.1)))
  have cr : (0 : Int32) ≤ nI (c / 8) ∧ nI (c / 8) ≤ 7 := ⟨nI_pos' (by omega), nI_le (b := 7) (by omega) (by decide)⟩
  have cc : (0 : Int32) ≤ nI (c % 8) ∧ nI (c % 8) ≤ 7 := ⟨nI_pos' (by omega), nI_le (b := 7) (by omega) (by decide)⟩
  have inj : ∀ {i j : Nat}, i < 64 → j < 64 → nI i = nI j → i = j := fun h1 h2 q => (nI_eq (by omega) (by omega)).mp q
  have pred : ∀ n, n < 8 → nI n + (-1) = if n = 0 then -1 else nI (n - 1) := by decide +kernel
  have succ : ∀ n, n < 8 → (0 ≤ nI n + 1 ∧ nI n + 1 ≤ 7 ↔ n < 7) := by decide +kernel
  refine gk_ci_mk (x_mo_beside ?_)
  unfold w_mo_beside
  rw [e2, e1]
  have : w = 0 ∨ w = 1 ∨ w = 2 ∨ w = 3 := by omega
  rcases this with rfl | rfl | rfl | rfl
  · refine ⟨by decide, zT rfl (fe ⟨by decide, zF (by decide) (zF (by decide) (fe (tl _ _ (fun i j h1 h2 h3 h4 => ?_) (fun z => k0 fun o h9 q => ?_))))⟩)⟩
    · rw [Int32.add_zero] at h4
      have ej := inj (by omega) (by omega) h4
      rw [pred _ (by omega)] at h3
      by_cases z : c / 8 = 0
      · rw [if_pos z] at h3
        exact absurd h3.symm (fun q => by have := nI_pos (n := i) (by omega); rw [q] at this; exact absurd (by decide) this)
      · rw [if_neg z] at h3
        have ei := inj (by omega) (by omega) h3
        exact k1 _ (by omega) (by unfold stp; omega)
    · unfold stp at q
      refine z ⟨?_, by rw [Int32.add_zero]; exact cc⟩
      rw [pred _ (by omega), if_neg (by omega)]
      exact ⟨nI_pos' (by omega), nI_le (b := 7) (by omega) (by decide)⟩
  · refine ⟨by decide, zF (by decide) (zF (by decide) (fe ⟨by decide, zF (by decide) (zT rfl (fe (tl _ _ (fun i j h1 h2 h3 h4 => ?_) (fun z => k0 fun o h9 q => ?_))))⟩))⟩
    · rw [Int32.add_zero] at h3
      rw [nI_1] at h4
      have ei := inj (by omega) (by omega) h3
      have ej := inj (by omega) (by omega) h4
      exact k1 _ (by omega) (by unfold stp; omega)
    · unfold stp at q
      exact z ⟨by rw [Int32.add_zero]; exact cr, (succ _ (by omega)).mpr (by omega)⟩
  · refine ⟨by decide, zF (by decide) (zT rfl (fe ⟨by decide, zF (by decide) (zF (by decide) (fe (tl _ _ (fun i j h1 h2 h3 h4 => ?_) (fun z => k0 fun o h9 q => ?_))))⟩))⟩
    · rw [Int32.add_zero] at h4
      rw [nI_1] at h3
      have ei := inj (by omega) (by omega) h3
      have ej := inj (by omega) (by omega) h4
      exact k1 _ (by omega) (by unfold stp; omega)
    · unfold stp at q
      exact z ⟨(succ _ (by omega)).mpr (by omega), by rw [Int32.add_zero]; exact cc⟩
  · refine ⟨by decide, zF (by decide) (zF (by decide) (fe ⟨by decide, zT rfl (fe (tl _ _ (fun i j h1 h2 h3 h4 => ?_) (fun z => k0 fun o h9 q => ?_)))⟩))⟩
    · rw [Int32.add_zero] at h3
      have ei := inj (by omega) (by omega) h3
      rw [pred _ (by omega)] at h4
      by_cases z : c % 8 = 0
      · rw [if_pos z] at h4
        exact absurd h4.symm (fun q => by have := nI_pos (n := j) (by omega); rw [q] at this; exact absurd (by decide) this)
      · rw [if_neg z] at h4
        have ej := inj (by omega) (by omega) h4
        exact k1 _ (by omega) (by unfold stp; omega)
    · unfold stp at q
      refine z ⟨by rw [Int32.add_zero]; exact cr, ?_⟩
      rw [pred _ (by omega), if_neg (by omega)]
      exact ⟨nI_pos' (by omega), nI_le (b := 7) (by omega) (by decide)⟩
theorem s_mo_comesTo {i : Nat} {x : Int32} (hi : i < 256) (k1 : x < h.2.1 139 i → K 1 (gk_ha h 139 i x)) (k0 : ¬ x < h.2.1 139 i → K 0 h) : gk_ci E (d + 1) jmo_comesTo [.ref 112, .int (nI i), .int x] h K := by
  refine gk_ci_mk (x_mo_comesTo ?_)
  unfold w_mo_comesTo
  rw [nI_clamp (by omega)]
  exact ⟨vp_in_nI hi (by decide), fun q => ⟨vp_in_nI hi (by decide), Or.inr rfl, k1 q⟩, fun q => ⟨Or.inl rfl, k0 q⟩⟩
end TB1
def TJ (f : Nat → Bool) (a : Nat) (m : Nat → Int32) : Prop := ∀ k, k < 256 → ∃ v, v ≤ 100000000 ∧ m k = nI v ∧ (v < 100000000 → lnP f (UU f a v) (k % 4) (k / 4))
def TZ (a : Nat) (m : Nat → Int32) : Prop := ∀ w, w < 4 → m (4 * a + w) = nI 0
def mu4 (m : Nat → Int32) : Nat := sm (fun k => (m k).toNatClampNeg) 256
def FxA (m : Nat → Int32) (k w : Nat) : Prop := ¬ m k = 100000000 → ¬ m k + 1 < m (4 * (k / 4) + w)
def FxB (f : Nat → Bool) (m : Nat → Int32) (k : Nat) : Prop := ¬ m k = 100000000 → ∀ o, stp (k % 4) (k / 4) o → f o = true → ¬ m k < m (4 * o + k % 4)
def IT (f : Nat → Bool) (a : Nat) (h0 : gk_H) (m0 : Nat → Int32) (k w : Nat) (s : Bool × gk_H) : Prop := fr (fun k => k = 139) h0 s.2 ∧ TJ f a (s.2.2.1 139) ∧ TZ a (s.2.2.1 139) ∧ ((s.1 = true ∧ mu4 (s.2.2.1 139) < mu4 m0) ∨ (s.1 = false ∧ s.2.2.1 139 = m0 ∧ (∀ k', k' < k → (∀ w', w' < 4 → FxA m0 k' w') ∧ FxB f m0 k') ∧ ∀ w', w' < w → FxA m0 k w'))
theorem IT_upd {f : Nat → Bool} {a : Nat} {h0 : gk_H} {m0 : Nat → Int32} {k w k' w' i v : Nat} {s : Bool × gk_H} (h : IT f a h0 m0 k w s) (hi : i < 256) (hv : v < 100000000) (hlt : nI v < s.2.2.1 139 i) (hl : lnP f (UU f a v) (i % 4) (i / 4)) : IT f a h0 m0 k' w' (true, gk_ha s.2 139 i (nI v)) := by
  obtain ⟨h1, h2, h3, h4⟩ := h
  obtain ⟨vi, b1, b2, b3⟩ := h2 i hi
  rw [b2] at hlt
  have lt := (nI_ltI (by omega) (by omega)).mp hlt
  refine ⟨fr_tr h1 (fr_ha rfl), fun j hj => ?_, fun w9 hw9 => ?_, Or.inl ⟨rfl, ?_⟩⟩
  · show ∃ v9, v9 ≤ 100000000 ∧ (gk_ha s.2 139 i (nI v)).2.1 139 j = nI v9 ∧ _
    rw [OW_set]
    by_cases z : j = i
    · rw [if_pos z]; exact ⟨v, by omega, rfl, fun _ => by rw [z]; exact hl⟩
    · rw [if_neg z]; exact h2 j hj
  · show (gk_ha s.2 139 i (nI v)).2.1 139 (4 * a + w9) = nI 0
    rw [OW_set]
    by_cases z : 4 * a + w9 = i
    · have := h3 w9 hw9
      rw [z, b2] at this
      have := (nI_eq (by omega) (by omega)).mp this
      omega
    · rw [if_neg z]; exact h3 w9 hw9
  · show mu4 ((gk_ha s.2 139 i (nI v)).2.1 139) < mu4 m0
    have m1 : mu4 ((gk_ha s.2 139 i (nI v)).2.1 139) < mu4 (s.2.2.1 139) := by
      refine sm_lt (k := i) (fun j z => ?_) ?_ hi
      · show ((gk_ha s.2 139 i (nI v)).2.1 139 j).toNatClampNeg = _
        rw [OW_set, if_neg z]
      · show ((gk_ha s.2 139 i (nI v)).2.1 139 i).toNatClampNeg < (s.2.2.1 139 i).toNatClampNeg
        rw [OW_set, if_pos rfl, b2, nI_clamp (by omega), nI_clamp (by omega)]
        exact lt
    rcases h4 with z | z
    · have := z.2; omega
    · have e9 : s.2.2.1 139 = m0 := z.2.1
      exact Nat.lt_of_lt_of_eq m1 (by rw [e9])
theorem s_mo_lesser {E : gk_E} {d : Nat} {h : gk_H} {K : Int32 → gk_H → Prop} {a b : Nat} (ha : a < 2 ^ 31) (hb : b < 2 ^ 31) (hk : K (nI (if b ≤ a then b else a)) h) : gk_ci E (d + 1) jmo_lesser [.ref 112, .int (nI a), .int (nI b)] h K := by
  refine gk_ci_mk (x_mo_lesser (pk_le b a (fun q => ?_) (fun q => ?_)))
  · rw [if_pos q] at hk; exact hk
  · rw [if_neg (by omega)] at hk; exact hk
theorem tb_end {f : Nat → Bool} {a b : Nat} {m : Nat → Int32} (ha : a < 64) (hf : ∀ c, f c = true → c < 64) (hb : b < 64) (j : TJ f a m) (z : TZ a m) (fx : ∀ k, k < 256 → (∀ w, w < 4 → FxA m k w) ∧ FxB f m k) : (∀ k, tuD f a b k → (∀ w, w < 4 → k ≤ (m (4 * b + w)).toNatClampNeg) ∧ ∃ w, w < 4 ∧ (m (4 * b + w)).toNatClampNeg = k) ∧ ((¬ ∃ k, tuD f a b k) → ∀ w, w < 4 → (m (4 * b + w)).toNatClampNeg = 100000000) := by
  have vl : ∀ t w, t < 64 → w < 4 → ∃ v, v ≤ 100000000 ∧ m (4 * t + w) = nI v ∧ (v < 100000000 → lnP f (UU f a v) w t) := by
    intro t w ht hw
    obtain ⟨v, v1, v2, v3⟩ := j (4 * t + w) (by omega)
    rw [show (4 * t + w) % 4 = w by omega, show (4 * t + w) / 4 = t by omega] at v3
    exact ⟨v, v1, v2, v3⟩
  have line : ∀ n, n < 1000 → (∀ t, UU f a n t → ∀ w, w < 4 → ∃ v, v ≤ n ∧ m (4 * t + w) = nI v) → ∀ w t, w < 4 → lnP f (UU f a n) w t → t < 64 ∧ ∃ v, v ≤ n ∧ m (4 * t + w) = nI v := by
    intro n hn hU w t hw hl
    refine hl (fun t => t < 64 ∧ ∃ v, v ≤ n ∧ m (4 * t + w) = nI v) (fun t' h' => ⟨UU_lt ha hf h', hU t' h' w hw⟩) ?_
    rintro x y ⟨x1, v, v1, v2⟩ hs hy
    have y1 := hf y hy
    obtain ⟨u, u1, u2, -⟩ := vl y w y1 hw
    have q := (fx (4 * x + w) (by omega)).2
    unfold FxB at q
    rw [v2, show (4 * x + w) % 4 = w by omega, show (4 * x + w) / 4 = x by omega] at q
    have q2 := q (far_ne (by omega)) y hs hy
    rw [u2, nI_ltI (by omega) (by omega)] at q2
    exact ⟨y1, u, by omega, u2⟩
  have all : ∀ n, n < 1000 → ∀ t, UU f a n t → ∀ w, w < 4 → ∃ v, v ≤ n ∧ m (4 * t + w) = nI v := by
    intro n
    induction n with
    | zero =>
      intro _ t ht w hw
      have ht : t = a := ht
      rw [ht]
      exact ⟨0, Nat.le_refl _, z w hw⟩
    | succ n ih =>
      rintro hn t ⟨w0, hw0, hl⟩ w hw
      obtain ⟨t1, v, v1, v2⟩ := line n (by omega) (ih (by omega)) w0 t hw0 hl
      obtain ⟨u, u1, u2, -⟩ := vl t w t1 hw
      have q := (fx (4 * t + w0) (by omega)).1 w hw
      unfold FxA at q
      rw [v2, show (4 * t + w0) / 4 = t by omega] at q
      have q2 := q (far_ne (by omega))
      rw [u2, nI_1, nI_ltI (by omega) (by omega)] at q2
      exact ⟨u, by omega, u2⟩
  refine ⟨fun k hk => ?_, fun q w hw => ?_⟩
  · have k63 := tuD_lt ha hf hk
    have low : ∀ w, w < 4 → k ≤ (m (4 * b + w)).toNatClampNeg := by
      intro w hw
      obtain ⟨v, v1, v2, v3⟩ := vl b w hb hw
      rw [v2, nI_clamp (by omega)]
      rcases Nat.lt_or_ge v k with y | y
      · exact absurd ⟨w, hw, v3 (by omega)⟩ (hk.2 v y)
      · exact y
    refine ⟨low, ?_⟩
    obtain ⟨w, hw, hl⟩ := hk.1
    obtain ⟨-, v, v1, v2⟩ := line k (by omega) (all k (by omega)) w b hw hl
    refine ⟨w, hw, ?_⟩
    have := low w hw
    rw [v2, nI_clamp (by omega)] at *
    omega
  · obtain ⟨v, v1, v2, v3⟩ := vl b w hb hw
    rw [v2, nI_clamp (by omega)]
    rcases Nat.lt_or_ge v 100000000 with y | y
    · exfalso
      obtain ⟨k, k1, k2⟩ := pk_least (fun n => UU f a (n + 1) b) ⟨v, w, hw, v3 y⟩
      exact q ⟨k, k1, k2⟩
    · omega
theorem l_turnsBy {E : gk_E} {d : Nat} {K : Int32 → gk_H → Prop} {p : Nat} {g : Int64} {a b : Nat} (hp : p < 10) (ha : a < 64) (hb : b < 64) (h0 : gk_H) (hg : MG h0 p g) (k1 : ∀ h' k, fr (fun k => k = 139) h0 h' → tuD (nb_bitL g) a b k → K (nI k) h') (k0 : ∀ h', fr (fun k => k = 139) h0 h' → (¬ ∃ k, tuD (nb_bitL g) a b k) → K 100000000 h') : ∀ (N : Nat) (h : gk_H), fr (fun k => k = 139) h0 h → TJ (nb_bitL g) a (h.2.1 139) → TZ a (h.2.1 139) → mu4 (h.2.1 139) < N → g_mo_turnsBy_42 E (d + 3) (gk_qi K) (nI p) (nI b) (nI 1) h := by
  intro N
  induction N with
  | zero => intro h _ _ _ q; omega
  | succ N IH =>
    intro h hfr hj hz hmu
    refine x_mo_turnsBy_42 (yF (by decide) (fe (fe ?_)))
    refine lp_up (N := 256) (fun k (s : Bool × gk_H) => g_mo_turnsBy_53 E (d + 3) (gk_qi K) (nI p) (nI b) (nb_b s.1) (nI k) s.2) (fun k s => IT (nb_bitL g) a h0 (h.2.1 139) k 0 s) ?_ ?_ 0 (false, h) (by decide) ⟨hfr, hj, hz, Or.inr ⟨rfl, rfl, fun k' q => by omega, fun w' q => by omega⟩⟩
    · intro k s hk hi ihk
      have e1 : nI k / 4 = nI (k / 4) := pk_div (d := 4) (by omega) (by omega) (by omega)
      have e2 : nI k - nI k / 4 * 4 = nI (k % 4) := pk_rem (d := 4) (by omega) (by omega) (by omega)
      refine x_mo_turnsBy_53 (pk_le 256 k (fun q => by omega) (fun _ => ⟨vp_in_nI hk (by decide), ?_⟩))
      rw [nI_clamp (by omega)]
      refine ⟨fun q => fe ?_, fun q => fe ?_⟩
      · refine lp_up (N := 4) (fun w (s : Bool × gk_H) => g_mo_turnsBy_80 E (d + 3) (gk_qi K) (nI p) (nI b) (nb_b s.1) (nI k) (nI w) s.2) (fun w s => IT (nb_bitL g) a h0 (h.2.1 139) k w s ∧ ¬ s.2.2.1 139 k = 100000000) ?_ ?_ 0 s (by decide) ⟨hi, q⟩
        · clear hi q s
          rintro w s hw ⟨hi, q⟩ ihw
          obtain ⟨v, v1, v2, v3⟩ := hi.2.1 k hk
          have vF : v < 100000000 := by
            rcases Nat.lt_or_ge v 100000000 with y | y
            · exact y
            · exact absurd (by rw [v2, show v = 100000000 by omega]; rfl) q
          refine x_mo_turnsBy_80 (pk_le 4 w (fun z => by omega) (fun _ => ⟨by decide, vp_in_nI hk (by decide), ?_⟩))
          have ea : nI k / 4 * 4 + nI w = nI (4 * (k / 4) + w) := by
            rw [e1]
            show nI (k / 4) * nI 4 + nI w = _
            rw [nI_mulN, nI_add, Nat.mul_comm]
          rw [ea, nI_clamp (by omega), v2, nI_1]
          refine s_mo_comesTo (by omega) (fun z => yF (by decide) (fe (fe ?_))) (fun z => yT rfl (fe ?_))
          · rw [nI_1]
            obtain ⟨u, u1, u2, -⟩ := hi.2.1 (4 * (k / 4) + w) (by omega)
            have lt : v + 1 < u := by rw [u2] at z; exact (nI_ltI (by omega) (by omega)).mp z
            refine ihw (true, _) ⟨IT_upd hi (by omega) (by omega) z ?_, ?_⟩
            · rw [show (4 * (k / 4) + w) % 4 = w by omega, show (4 * (k / 4) + w) / 4 = k / 4 by omega]
              exact ln_in ⟨k % 4, by omega, v3 vF⟩
            · show ¬ (gk_ha s.2 139 (4 * (k / 4) + w) (nI (v + 1))).2.1 139 k = 100000000
              rw [OW_set]
              by_cases y : k = 4 * (k / 4) + w
              · rw [if_pos y]; exact far_ne (by omega)
              · rw [if_neg y]; exact q
          · rw [nI_1]
            refine ihw s ⟨⟨hi.1, hi.2.1, hi.2.2.1, ?_⟩, q⟩
            rcases hi.2.2.2 with y | ⟨y1, y2, y3, y4⟩
            · exact Or.inl y
            · refine Or.inr ⟨y1, y2, y3, fun w' hw' => ?_⟩
              by_cases x : w' = w
              · rw [x]
                intro _
                rw [← y2, v2, nI_1]
                exact z
              · exact y4 w' (by omega)
        · clear hi q s
          rintro s ⟨hi, q⟩
          obtain ⟨v, v1, v2, v3⟩ := hi.2.1 k hk
          have vF : v < 100000000 := by
            rcases Nat.lt_or_ge v 100000000 with y | y
            · exact y
            · exact absurd (by rw [v2, show v = 100000000 by omega]; rfl) q
          have no : FxB (nb_bitL g) (s.2.2.1 139) k → ∀ y : Int32, y = nI k + 1 → g_mo_turnsBy_53 E (d + 3) (gk_qi K) (nI p) (nI b) (nb_b s.1) y s.2 := by
            rintro fb _ rfl
            rw [nI_1]
            refine ihk s ⟨hi.1, hi.2.1, hi.2.2.1, ?_⟩
            rcases hi.2.2.2 with y | ⟨y1, y2, y3, y4⟩
            · exact Or.inl y
            · refine Or.inr ⟨y1, y2, fun k' hk' => ?_, fun w' z => by omega⟩
              by_cases x : k' = k
              · rw [x]; exact ⟨y4, by rw [← y2]; exact fb⟩
              · exact y3 k' (by omega)
          refine x_mo_turnsBy_80 (pk_le 4 4 (fun _ => ⟨by decide, by decide, ?_⟩) (fun z => by omega))
          rw [e2, e1]
          refine s_mo_beside (by omega) (by omega) (fun o ho hs => fe (yF ?_ (s_mo_dryCell hp ho (MG_fr hi.1 (by decide) hg) (bsel (fun z => no ?_) (fun z => ⟨by decide, vp_in_nI hk (by decide), ?_⟩))))) (fun hn => fe (yT rfl (no ?_)))
          · intro z
            have := nI_pos (n := o) (by omega)
            rw [z] at this; exact absurd (by decide) this
          · intro _ o' h1 h2
            have : o' = o := by unfold stp at h1 hs; omega
            rw [this, z] at h2; cases h2
          · have eo : (4 : Int32) * nI o + nI (k % 4) = nI (4 * o + k % 4) := by
              show nI 4 * nI o + nI (k % 4) = _
              rw [nI_mulN, nI_add]
            rw [eo, nI_clamp (by omega), v2]
            refine s_mo_comesTo (by omega) (fun y => yF (by decide) (fe (fe ?_))) (fun y => yT rfl (no ?_))
            · rw [nI_1]
              refine ihk (true, _) (IT_upd hi (by omega) vF y ?_)
              rw [show (4 * o + k % 4) % 4 = k % 4 by omega, show (4 * o + k % 4) / 4 = o by omega]
              exact ln_st (v3 vF) hs z
            · intro _ o' h1 h2
              have : o' = o := by unfold stp at h1 hs; omega
              rw [this, v2]; exact y
          · intro _ o' h1 h2
            exact absurd h1 (hn o' (bL_lt h2))
      · rw [nI_1]
        refine ihk s ⟨hi.1, hi.2.1, hi.2.2.1, ?_⟩
        rcases hi.2.2.2 with y | ⟨y1, y2, y3, y4⟩
        · exact Or.inl y
        · refine Or.inr ⟨y1, y2, fun k' hk' => ?_, fun w' z => by omega⟩
          by_cases x : k' = k
          · rw [x]; exact ⟨fun w' _ z => absurd (by rw [← y2]; exact q) z, fun z => absurd (by rw [← y2]; exact q) z⟩
          · exact y3 k' (by omega)
    · rintro ⟨bb, s⟩ hi
      refine x_mo_turnsBy_53 (pk_le 256 256 (fun _ => ?_) (fun q => by omega))
      obtain ⟨i1, i2, i3, i4⟩ := hi
      rcases i4 with ⟨rfl, y⟩ | ⟨rfl, y2, y3, -⟩
      · have y : mu4 (s.2.1 139) < mu4 (h.2.1 139) := y
        exact IH s i1 i2 i3 (by omega)
      · have y2 : s.2.1 139 = h.2.1 139 := y2
        refine x_mo_turnsBy_42 (yT rfl (fe (fe ?_)))
        have fx : ∀ k, k < 256 → (∀ w, w < 4 → FxA (s.2.1 139) k w) ∧ FxB (nb_bitL g) (s.2.1 139) k := by rw [y2]; exact y3
        obtain ⟨t1, t2⟩ := tb_end (m := s.2.1 139) ha (fun c => bL_lt) hb i2 i3 fx
        have vv : ∀ w, w < 4 → s.2.1 139 (4 * b + w) = nI (s.2.1 139 (4 * b + w)).toNatClampNeg ∧ (s.2.1 139 (4 * b + w)).toNatClampNeg ≤ 100000000 := by
          intro w hw
          obtain ⟨v, v1, v2, -⟩ := i2 (4 * b + w) (by omega)
          have v2 : s.2.1 139 (4 * b + w) = nI v := v2
          rw [v2, nI_clamp (by omega)]
          exact ⟨rfl, v1⟩
        refine lp_up (N := 4) (fun w (z : Int32) => g_mo_turnsBy_193 E (d + 3) (gk_qi K) (nI b) z (nI w) s) (fun w z => ∃ x, z = nI x ∧ x ≤ 100000000 ∧ (∀ w', w' < w → x ≤ (s.2.1 139 (4 * b + w')).toNatClampNeg) ∧ (x = 100000000 ∨ ∃ w', w' < w ∧ x = (s.2.1 139 (4 * b + w')).toNatClampNeg)) ?_ ?_ 0 _ (by decide) ⟨100000000, rfl, Nat.le_refl _, fun w' q => by omega, Or.inl rfl⟩
        · rintro w _ hw ⟨x, rfl, x1, x2, x3⟩ ihw
          obtain ⟨w1, w2⟩ := vv w hw
          have eo : (4 : Int32) * nI b + nI w = nI (4 * b + w) := by
            show nI 4 * nI b + nI w = _
            rw [nI_mulN, nI_add]
          refine x_mo_turnsBy_193 (pk_le 4 w (fun q => by omega) (fun _ => ?_))
          rw [eo, nI_clamp (n := 4 * b + w) (by omega)]
          refine ⟨vp_in_nI (by omega) (by decide), ?_⟩
          rw [w1]
          refine s_mo_lesser (by omega) (by omega) (fe (fe ?_))
          rw [nI_1]
          by_cases q : (s.2.1 139 (4 * b + w)).toNatClampNeg ≤ x
          · rw [if_pos q]
            refine ihw _ ⟨_, rfl, by omega, fun w' h9 => ?_, Or.inr ⟨w, by omega, rfl⟩⟩
            by_cases y : w' = w
            · rw [y]; exact Nat.le_refl _
            · have := x2 w' (by omega); omega
          · rw [if_neg q]
            refine ihw _ ⟨x, rfl, x1, fun w' h9 => ?_, ?_⟩
            · by_cases y : w' = w
              · rw [y]; omega
              · exact x2 w' (by omega)
            · rcases x3 with y | ⟨w', y1, y2⟩
              · exact Or.inl y
              · exact Or.inr ⟨w', by omega, y2⟩
        · rintro _ ⟨x, rfl, x1, x2, x3⟩
          refine x_mo_turnsBy_193 (pk_le 4 4 (fun _ => ?_) (fun q => by omega))
          show K (nI x) s
          by_cases q : ∃ k, tuD (nb_bitL g) a b k
          · obtain ⟨k, hk⟩ := q
            obtain ⟨r1, w, r2, r3⟩ := t1 k hk
            have := x2 w r2
            have k63 := tuD_lt ha (fun c => bL_lt) hk
            have : x = k := by
              rcases x3 with y | ⟨w', y1, y2⟩
              · omega
              · have := r1 w' y1; omega
            rw [this]; exact k1 s k i1 hk
          · have : x = 100000000 := by
              rcases x3 with y | ⟨w', y1, y2⟩
              · exact y
              · rw [y2]; exact t2 q w' y1
            rw [this]; exact k0 s i1 q
theorem s_mo_turnsBy {E : gk_E} {d : Nat} {h : gk_H} {K : Int32 → gk_H → Prop} {p : Nat} {g : Int64} {a b : Nat} (hp : p < 10) (hg : MG h p g) (ha : a < 64) (hb : b < 64) (k1 : ∀ h' k, fr (fun k => k = 139) h h' → tuD (nb_bitL g) a b k → K (nI k) h') (k0 : ∀ h', fr (fun k => k = 139) h h' → (¬ ∃ k, tuD (nb_bitL g) a b k) → K 100000000 h') : gk_ci E (d + 4) jmo_turnsBy [.ref 112, .int (nI p), .int (nI a), .int (nI b)] h K := by
  refine gk_ci_mk (x_mo_turnsBy (fe ?_))
  refine lp_up (N := 256) (fun c (s : gk_H) => g_mo_turnsBy_3 E (d + 3) (gk_qi K) (nI p) (nI a) (nI b) (nI c) s) (fun c s => fr (fun k => k = 139) h s ∧ ∀ i, i < c → s.2.1 139 i = if i / 4 = a then nI 0 else nI 100000000) ?_ ?_ 0 h (by decide) ⟨fr_rf, fun i q => by omega⟩
  · rintro c s hc ⟨i1, i2⟩ ih
    have e1 : nI c / 4 = nI (c / 4) := pk_div (d := 4) (by omega) (by omega) (by omega)
    refine x_mo_turnsBy_3 (pk_le 256 c (fun q => by omega) (fun _ => ⟨by decide, ?_⟩))
    rw [e1, nI_clamp (by omega), nI_eq (a := c / 4) (b := a) (by omega) (by omega)]
    refine ⟨fun q => ⟨vp_in_nI hc (by decide), fe ?_⟩, fun q => ⟨vp_in_nI hc (by decide), fe ?_⟩⟩
    · rw [nI_1]
      refine ih _ ⟨fr_tr i1 (fr_ha rfl), fun i h9 => ?_⟩
      rw [OW_set]
      by_cases z : i = c
      · rw [if_pos z, if_neg (by rw [z]; exact q)]; rfl
      · rw [if_neg z]; exact i2 i (by omega)
    · rw [nI_1]
      refine ih _ ⟨fr_tr i1 (fr_ha rfl), fun i h9 => ?_⟩
      rw [OW_set]
      by_cases z : i = c
      · rw [if_pos z, if_pos (by rw [z]; exact q)]; rfl
      · rw [if_neg z]; exact i2 i (by omega)
  · rintro s ⟨i1, i2⟩
    refine x_mo_turnsBy_3 (pk_le 256 256 (fun _ => fe ?_) (fun q => by omega))
    refine l_turnsBy hp ha hb h hg k1 k0 _ s i1 (fun k hk => ?_) (fun w hw => ?_) (Nat.lt_succ_self _)
    · rw [i2 k hk]
      by_cases z : k / 4 = a
      · rw [if_pos z]; exact ⟨0, by decide, rfl, fun _ => ln_in z⟩
      · rw [if_neg z]; exact ⟨100000000, Nat.le_refl _, rfl, fun q => by omega⟩
    · rw [i2 _ (by omega), if_pos (by omega)]
theorem lc_walk {E : gk_E} {d : Nat} (a0 a1 a2 a3 : Int32) : lc_ok E (d + 5) InvX jdp_walk jmo_walk [.int a0, .int a1, .int a2, .int a3] := by
  refine lc_q fun n w T X hn hw0 hgw hT => ?_
  by_cases ha : ∃ q, q < n ∧ a0 = nI q
  · obtain ⟨p, hp, rfl⟩ := ha
    by_cases hb : (0 : Int32) ≤ a1 ∧ a1 ≤ 63
    · by_cases hc : (0 : Int32) ≤ a2 ∧ a2 ≤ 63
      · obtain ⟨l, hl, rfl⟩ := of05 (N := 63) (by decide) hb
        obtain ⟨r, hr, rfl⟩ := of05 (N := 63) (by decide) hc
        by_cases z1 : nb_bitL (w.2.1 p) l = true
        · by_cases z2 : nb_bitL (w.2.1 p) r = true
          · have hcl : ∀ x : Int32, (∀ (h : gk_H) (K : Int32 → gk_H → Prop), K x h → ((a3 = (0 : Int32) → gk_ci E (d + 4) jgr_fewestSteps [.long (w.2.1 p), .int (nI l), .int (nI r)] h K) ∧ (¬ a3 = (0 : Int32) → (a3 = (1 : Int32) → gk_ci E (d + 4) jgr_fewestTurnings [.long (w.2.1 p), .int (nI l), .int (nI r)] h K) ∧ (¬ a3 = (1 : Int32) → K (-1) h)))) → ∀ (h : gk_H) (K : Int32 → gk_H → Prop), Vw h n w T X → (∀ h', Qs h h' → K x h') → gk_ci E (d + 5) jdp_walk (.ref 0 :: [.int (nI p), .int (nI l), .int (nI r), .int a3]) h K := by
              intro x hx h K v k
              refine gk_ci_mk (x_dp_walk (s_wh1 hn (Vw_n v) hp (yF (by decide) (s_ce1 hb (yF (by decide) (s_ce1 hc (zF (by decide) ⟨vp_in_nI (by omega) (by decide), ?_⟩)))))))
              rw [nI_clamp (by omega), Vw_d v (by omega)]
              refine fe (s_gr_isDry (by omega) (bsel (fun q => by rw [z1] at q; cases q) (fun _ => s_gr_isDry (by omega) (bsel2 (fun q => by rw [z2] at q; cases q) (fun _ => hx h K (k h Qs_rf))))))
            have hml : ∀ x : Int32, ((0 : Int32) ≤ a3 ∧ a3 ≤ 1) → (∀ (h : gk_H) (K : Int32 → gk_H → Prop), MG h p (w.2.1 p) → (∀ h', Qs h h' → K x h') → ((¬ a3 = 0 → gk_ci E (d + 4) jmo_turnsBy [.ref 112, .int (nI p), .int (nI l), .int (nI r)] h (fun r_14 h_13 => ∀ x5 : Int32, x5 = r_14 → ((¬ x5 = 100000000 → K x5 h_13) ∧ (x5 = 100000000 → K (-1) h_13)))) ∧ (a3 = 0 → gk_ci E (d + 4) jmo_stepsBy [.ref 112, .int (nI p), .int (nI l), .int (nI r)] h (fun r_14 h_13 => ∀ x5 : Int32, x5 = r_14 → ((¬ x5 = 100000000 → K x5 h_13) ∧ (x5 = 100000000 → K (-1) h_13)))))) → ∀ (h : gk_H) (K : Int32 → gk_H → Prop), Vw h n w T X → (∀ h', Qs h h' → K x h') → gk_ci E (d + 5) jmo_walk (.ref 112 :: [.int (nI p), .int (nI l), .int (nI r), .int a3]) h K := by
              intro x hin hx h K v k
              have v2 := Vw_Qs (Qs_t (x := 0)) v
              have gp := (Vw_mp v2 (p := p) (by omega)).2.2.2.2
              refine gk_ci_mk (x_mo_walk (s_mp1 hn v2.1.2.2 hp (yF (by decide) (s_mc1 hb (yF (by decide) (s_mc1 hc (yF (by decide) (s_in1 hin (yF (by decide) (s_mo_dryCell (by omega) (by omega) gp (bsel (fun q => by rw [z1] at q; cases q) (fun _ => s_mo_dryCell (by omega) (by omega) gp (bsel2 (fun q => by rw [z2] at q; cases q) (fun _ => ?_))))))))))))))
              exact hx _ K gp (fun h' q => k h' (Qs_tr Qs_t q))
            by_cases q0 : a3 = 0
            · have hin : (0 : Int32) ≤ a3 ∧ a3 ≤ 1 := by rw [q0]; decide
              by_cases q : ∃ k, rsD (w.2.1 p) l r k
              · obtain ⟨k, hk⟩ := q
                have k63 := rsD_lt (by omega) hk
                refine ⟨nI k, hcl _ (fun h K kk => yT q0 (s_gr_fewestSteps (by omega) (by omega) (fun k' hk' => by rw [rsD_u hk' hk]; exact kk) (fun z => absurd ⟨k, hk⟩ z))), hml _ hin (fun h K m kk => zT q0 (s_mo_stepsBy (by omega) m (by omega) (by omega) (fun h' k' f1 hk' => ?_) (fun h' f1 z => absurd ⟨k, hk⟩ z)))⟩
                rw [rsD_u hk' hk]
                exact fe (zF (far_ne (by omega)) (kk h' (Qs_134 (fun k q => by omega) f1)))
              · refine ⟨-1, hcl _ (fun h K kk => yT q0 (s_gr_fewestSteps (by omega) (by omega) (fun k' hk' => absurd ⟨k', hk'⟩ q) (fun z => kk))), hml _ hin (fun h K m kk => zT q0 (s_mo_stepsBy (by omega) m (by omega) (by omega) (fun h' k' f1 hk' => absurd ⟨k', hk'⟩ q) (fun h' f1 z => fe (zT rfl (kk h' (Qs_134 (fun k q => by omega) f1))))))⟩
            by_cases q1 : a3 = 1
            · have hin : (0 : Int32) ≤ a3 ∧ a3 ≤ 1 := by rw [q1]; decide
              by_cases q : ∃ k, tuD (nb_bitL (w.2.1 p)) l r k
              · obtain ⟨k, hk⟩ := q
                have k63 := tuD_lt (by omega) (fun c => bL_lt) hk
                refine ⟨nI k, hcl _ (fun h K kk => yF q0 (yT q1 (s_gr_fewestTurnings (by omega) (by omega) (fun k' hk' => by rw [tuD_u hk' hk]; exact kk) (fun z => absurd ⟨k, hk⟩ z)))), hml _ hin (fun h K m kk => zF q0 (s_mo_turnsBy (by omega) m (by omega) (by omega) (fun h' k' f1 hk' => ?_) (fun h' f1 z => absurd ⟨k, hk⟩ z)))⟩
                rw [tuD_u hk' hk]
                exact fe (zF (far_ne (by omega)) (kk h' (Qs_134 (fun k q => by omega) f1)))
              · refine ⟨-1, hcl _ (fun h K kk => yF q0 (yT q1 (s_gr_fewestTurnings (by omega) (by omega) (fun k' hk' => absurd ⟨k', hk'⟩ q) (fun z => kk)))), hml _ hin (fun h K m kk => zF q0 (s_mo_turnsBy (by omega) m (by omega) (by omega) (fun h' k' f1 hk' => absurd ⟨k', hk'⟩ q) (fun h' f1 z => fe (zT rfl (kk h' (Qs_134 (fun k q => by omega) f1))))))⟩
            · refine ⟨-1, hcl _ (fun h K kk => yF q0 (yF q1 kk)), fun h K v k => ?_⟩
              have v2 := Vw_Qs (Qs_t (x := 0)) v
              have hin : ¬ ((0 : Int32) ≤ a3 ∧ a3 ≤ 1) := by
                intro z
                obtain ⟨i, hi, rfl⟩ := of05 (N := 1) (by decide) z
                have : i = 0 ∨ i = 1 := by omega
                rcases this with rfl | rfl
                · exact q0 rfl
                · exact q1 rfl
              exact gk_ci_mk (x_mo_walk (s_mp1 hn v2.1.2.2 hp (yF (by decide) (s_mc1 hb (yF (by decide) (s_mc1 hc (yF (by decide) (s_in0 hin (yT rfl (k _ Qs_t))))))))))
          · have z2 : nb_bitL (w.2.1 p) r = false := by simpa using z2
            refine ⟨-1, fun h K v k => ?_, fun h K v k => ?_⟩
            · refine gk_ci_mk (x_dp_walk (s_wh1 hn (Vw_n v) hp (yF (by decide) (s_ce1 hb (yF (by decide) (s_ce1 hc (zF (by decide) ⟨vp_in_nI (by omega) (by decide), ?_⟩)))))))
              rw [nI_clamp (by omega), Vw_d v (by omega)]
              exact fe (s_gr_isDry (by omega) (bsel (fun q => by rw [z1] at q; cases q) (fun _ => s_gr_isDry (by omega) (bsel2 (fun q => k h Qs_rf) (fun q => by rw [z2] at q; cases q)))))
            · have v2 := Vw_Qs (Qs_t (x := 0)) v
              have gp := (Vw_mp v2 (p := p) (by omega)).2.2.2.2
              refine gk_ci_mk (x_mo_walk (s_mp1 hn v2.1.2.2 hp (yF (by decide) (s_mc1 hb (yF (by decide) (s_mc1 hc (yF (by decide) (s_mo_isIn (bsel (fun _ => k _ Qs_t) (fun _ => s_mo_dryCell (by omega) (by omega) gp (bsel (fun q => k _ Qs_t) (fun _ => s_mo_dryCell (by omega) (by omega) gp (bsel2 (fun q => k _ Qs_t) (fun q => by rw [z2] at q; cases q))))))))))))))
        · have z1 : nb_bitL (w.2.1 p) l = false := by simpa using z1
          refine ⟨-1, fun h K v k => ?_, fun h K v k => ?_⟩
          · refine gk_ci_mk (x_dp_walk (s_wh1 hn (Vw_n v) hp (yF (by decide) (s_ce1 hb (yF (by decide) (s_ce1 hc (zF (by decide) ⟨vp_in_nI (by omega) (by decide), ?_⟩)))))))
            rw [nI_clamp (by omega), Vw_d v (by omega)]
            exact fe (s_gr_isDry (by omega) (bsel (fun q => k h Qs_rf) (fun q => by rw [z1] at q; cases q)))
          · have v2 := Vw_Qs (Qs_t (x := 0)) v
            have gp := (Vw_mp v2 (p := p) (by omega)).2.2.2.2
            refine gk_ci_mk (x_mo_walk (s_mp1 hn v2.1.2.2 hp (yF (by decide) (s_mc1 hb (yF (by decide) (s_mc1 hc (yF (by decide) (s_mo_isIn (bsel (fun _ => k _ Qs_t) (fun _ => s_mo_dryCell (by omega) (by omega) gp (bsel (fun q => k _ Qs_t) (fun q => by rw [z1] at q; cases q))))))))))))
      · refine ⟨-1, fun h K v k => ?_, fun h K v k => ?_⟩
        · exact gk_ci_mk (x_dp_walk (s_wh1 hn (Vw_n v) hp (yF (by decide) (s_ce1 hb (yF (by decide) (s_ce0 hc (zT rfl (k h Qs_rf))))))))
        · have v2 := Vw_Qs (Qs_t (x := 0)) v
          exact gk_ci_mk (x_mo_walk (s_mp1 hn v2.1.2.2 hp (yF (by decide) (s_mc1 hb (yF (by decide) (s_mc0 hc (yT rfl (k _ Qs_t))))))))
    · refine ⟨-1, fun h K v k => ?_, fun h K v k => ?_⟩
      · exact gk_ci_mk (x_dp_walk (s_wh1 hn (Vw_n v) hp (yF (by decide) (s_ce0 hb (yT rfl (k h Qs_rf))))))
      · have v2 := Vw_Qs (Qs_t (x := 0)) v
        exact gk_ci_mk (x_mo_walk (s_mp1 hn v2.1.2.2 hp (yF (by decide) (s_mc0 hb (yT rfl (k _ Qs_t))))))
  · refine ⟨-1, fun h K v k => ?_, fun h K v k => ?_⟩
    · exact gk_ci_mk (x_dp_walk (s_wh0 hn (Vw_n v) ha (yT rfl (k h Qs_rf))))
    · exact gk_ci_mk (x_mo_walk (s_mp0 hn (Vw_Qs (Qs_t (x := 0)) v).1.2.2 ha (yT rfl (k _ Qs_t))))
