/-! vouched -/
def vOr (V : Nat → Int32) (s : Int32) : Nat → Int32
  | 0 => 0
  | p + 1 => if nb_bit s p then vOr V s p ||| V p else vOr V s p
def vs (V : Nat → Int32) (s0 : Int32) : Nat → Int32
  | 0 => s0
  | j + 1 => vs V s0 j ||| vOr V (vs V s0 j) 10
def lowB (n : Nat) (s : Int32) : Prop := ∀ i, n ≤ i → nb_bit s i = false
theorem lowB_or {n : Nat} {a b : Int32} (h1 : lowB n a) (h2 : lowB n b) : lowB n (a ||| b) := fun i hi => by rw [bI_or, h1 i hi, h2 i hi]; rfl
theorem vOr_low {n : Nat} {V : Nat → Int32} {s : Int32} (hV : ∀ p, p < 10 → lowB n (V p)) : ∀ m, m ≤ 10 → lowB n (vOr V s m) := by
  intro m
  induction m with
  | zero => intro _ i _; rw [vOr, bI_0]
  | succ m ih =>
    intro hm
    rw [vOr]
    split
    · exact lowB_or (ih (by omega)) (hV m (by omega))
    · exact ih (by omega)
theorem vs_low {n : Nat} {V : Nat → Int32} {s0 : Int32} (hV : ∀ p, p < 10 → lowB n (V p)) (h0 : lowB n s0) : ∀ j, lowB n (vs V s0 j) := by
  intro j
  induction j with
  | zero => exact h0
  | succ j ih => exact lowB_or ih (vOr_low hV 10 (Nat.le_refl _))
theorem vOr_n {n : Nat} {V : Nat → Int32} {s : Int32} (hs : lowB n s) : ∀ k, vOr V s (n + k) = vOr V s n := by
  intro k
  induction k with
  | zero => rfl
  | succ k ih => rw [← Nat.add_assoc, vOr, if_neg (by rw [hs _ (by omega)]; decide), ih]
theorem vs_st {V : Nat → Int32} {s0 : Int32} {i : Nat} (h : vs V s0 (i + 1) = vs V s0 i) : ∀ k, vs V s0 (i + k) = vs V s0 i := by
  intro k
  induction k with
  | zero => rfl
  | succ k ih =>
    rw [← Nat.add_assoc, vs, ih]
    exact h
theorem vs_10 {n : Nat} {V : Nat → Int32} {s0 : Int32} (hn : n ≤ 10) (hV : ∀ p, p < 10 → lowB n (V p)) (h0 : lowB n s0) : vs V s0 11 = vs V s0 10 := by
  apply Classical.byContradiction
  intro q
  have ne : ∀ i, i ≤ 10 → ¬ vs V s0 (i + 1) = vs V s0 i := by
    intro i hi z
    have a := vs_st z (10 - i)
    have b := vs_st z (11 - i)
    rw [show i + (10 - i) = 10 by omega] at a
    rw [show i + (11 - i) = 11 by omega] at b
    exact q (b.trans a.symm)
  have gr : ∀ i, i ≤ 11 → i ≤ nb_cnt (nb_bit (vs V s0 i)) 32 := by
    intro i
    induction i with
    | zero => intro _; exact Nat.zero_le _
    | succ i ih =>
      intro hi
      have h1 := ih (by omega)
      have sub : ∀ j, j < 32 → nb_bit (vs V s0 i) j = true → nb_bit (vs V s0 (i + 1)) j = true := fun j _ z => by rw [vs, bI_or, z]; rfl
      have : ∃ k, k < 32 ∧ nb_bit (vs V s0 i) k = false ∧ nb_bit (vs V s0 (i + 1)) k = true := by
        apply Classical.byContradiction
        intro z
        refine ne i (by omega) (bI_ext fun c hc => ?_)
        cases e1 : nb_bit (vs V s0 i) c with
        | true => exact sub c hc e1
        | false =>
          cases e2 : nb_bit (vs V s0 (i + 1)) c with
          | false => rfl
          | true => exact absurd ⟨c, hc, e1, e2⟩ z
      obtain ⟨k, k1, k2, k3⟩ := this
      have := cnt_lt sub k1 k2 k3
      omega
  have h11 := gr 11 (Nat.le_refl _)
  have lw := vs_low hV h0 11
  rw [show (32 : Nat) = 10 + 22 from rfl, nb_cnt_add, cnt_zero (f := fun i => nb_bit (vs V s0 11) (10 + i)) (fun i _ => lw _ (by omega))] at h11
  have := nb_cnt_le (nb_bit (vs V s0 11)) 10
  omega
section VOU
variable {E : gk_E} {d : Nat} {h : gk_H} {K : Int32 → gk_H → Prop} {V : Nat → Int32}
theorem s_dp_vouchersOfAll {s : Int32} (hV : ∀ p, p < 10 → h.2.1 18 p = V p) (hk : K (vOr V s 10) h) : gk_ci E (d + 1) jdp_vouchersOfAll [.ref 0, .int s] h K := by
  refine gk_ci_mk (x_dp_vouchersOfAll (fe (fe ?_)))
  refine lp_up (N := 10) (fun p (_ : Unit) => g_dp_vouchersOfAll_4 E d (gk_qi K) s (vOr V s p) (nI p) h) (fun _ _ => True) ?_ ?_ 0 () (by decide) trivial
  · intro p _ hp _ ih
    have ih := ih () trivial
    rw [vOr] at ih
    refine x_dp_vouchersOfAll_4 (pk_le 10 p (fun q => by omega) (fun _ => ?_))
    rw [nb_has0 _ (by omega), nI_clamp (by omega), hV p hp]
    refine ⟨fun q => fe ?_, fun q => ⟨vp_in_nI hp (by decide), fe (fe ?_)⟩⟩
    · rw [if_neg (by rw [q]; decide)] at ih; rw [nI_1]; exact ih
    · rw [if_pos (by simpa using q)] at ih; rw [nI_1]; exact ih
  · intro _ _
    exact x_dp_vouchersOfAll_4 (pk_le 10 10 (fun _ => hk) (fun q => by omega))
theorem s_mo_vouchersOf {s : Int32} {n : Nat} (hn : n ≤ 10) (en : h.1 112 6 = nI n) (hV : ∀ p, p < 10 → h.2.1 130 p = V p) (hs : lowB n s) (hk : K (vOr V s 10) h) : gk_ci E (d + 2) jmo_vouchersOf [.ref 112, .int s] h K := by
  refine gk_ci_mk (x_mo_vouchersOf (fe (fe ?_)))
  refine lp_up (N := n) (fun p (_ : Unit) => g_mo_vouchersOf_4 E (d + 1) (gk_qi K) s (vOr V s p) (nI p) h) (fun _ _ => True) ?_ ?_ 0 () (Nat.zero_le _) trivial
  · intro p _ hp _ ih
    have ih := ih () trivial
    rw [vOr] at ih
    refine x_mo_vouchersOf_4 (pk_le n p (fun q => by omega) (fun _ => s_mo_has (by omega) ?_) (hx := en))
    rw [nI_clamp (by omega), hV p (by omega)]
    refine bsel (fun q => fe ?_) (fun q => ⟨vp_in_nI (by omega) (by decide), fe (fe ?_)⟩)
    · rw [if_neg (by rw [q]; decide)] at ih; rw [nI_1]; exact ih
    · rw [if_pos q] at ih; rw [nI_1]; exact ih
  · intro _ _
    refine x_mo_vouchersOf_4 (pk_le n n (fun _ => ?_) (fun q => by omega) (hx := en))
    have := vOr_n (V := V) hs (10 - n)
    rw [show n + (10 - n) = 10 by omega] at this
    rw [← this]; exact hk
end VOU
theorem low_of {n v : Nat} {x : Int32} (hn : n ≤ 10) (hv : v < 2 ^ n) (e : x = nI v) : lowB n x := by
  intro i hi
  have h1 : 2 ^ n ≤ 2 ^ 10 := Nat.pow_le_pow_right (by decide) hn
  rw [e, nb_bit_toNat, pk_tn (by omega)]
  exact Nat.testBit_lt_two_pow (Nat.lt_of_lt_of_le hv (Nat.pow_le_pow_right (by decide) hi))
theorem lc_vouched {E : gk_E} {d : Nat} (a0 : Int32) : lc_ok E (d + 4) InvX jdp_vouched jmo_vouched [.int a0] := by
  refine lc_q fun n w T X hn hw0 hgw hT => ?_
  by_cases ha : ∃ q, q < n ∧ a0 = nI q
  · obtain ⟨p, hp, rfl⟩ := ha
    have hV : ∀ p, p < 10 → lowB n (T.2.2.2.1 p) := fun p hp => by
      obtain ⟨v, v1, v2⟩ := hT.2.2.2.1 p hp
      exact low_of hn v1 v2
    have h0 := hV p (by omega)
    have ten := vs_10 hn hV h0
    refine ⟨vs T.2.2.2.1 (T.2.2.2.1 p) 10, fun h K v k => ?_, fun h K v k => ?_⟩
    · have cv : ∀ p, p < 10 → h.2.1 18 p = T.2.2.2.1 p := v.2.2.2.2.2.2.1.2.2.2.1
      refine gk_ci_mk (x_dp_vouched (s_wh1 hn (Vw_n v) hp (zF (by decide) ⟨vp_in_nI (by omega) (by decide), ?_⟩)))
      rw [nI_clamp (by omega), cv p (by omega)]
      refine fe (fe ?_)
      refine lp_up (N := 10) (fun j (_ : Unit) => g_dp_vouched_25 E (d + 3) (gk_qi K) (vs T.2.2.2.1 (T.2.2.2.1 p) j) (nI j) h) (fun _ _ => True) ?_ ?_ 0 () (by decide) trivial
      · intro j _ hj _ ih
        refine x_dp_vouched_25 (pk_le 10 j (fun q => by omega) (fun _ => s_dp_vouchersOfAll cv (fe (fe ?_))))
        rw [nI_1]
        exact ih () trivial
      · intro _ _
        exact x_dp_vouched_25 (pk_le 10 10 (fun _ => k h Qs_rf) (fun q => by omega))
    · have v2 := Vw_Qs (Qs_t (x := 0)) v
      have mv : ∀ p, p < 10 → (gk_hf h 112 0 0).2.1 130 p = T.2.2.2.1 p := v2.2.2.2.2.2.2.2.1.2.2.2.1
      have k := k _ (Qs_t (h := h) (x := 0))
      refine gk_ci_mk (x_mo_vouched (s_mp1 hn v2.1.2.2 hp (zF (by decide) ⟨vp_in_nI (by omega) (by decide), ?_⟩)))
      rw [nI_clamp (by omega), mv p (by omega)]
      refine fe (fe ?_)
      refine lp_up (N := 11) (fun j (y : Int32) => g_mo_vouched_24 E (d + 3) (gk_qi K) (vs T.2.2.2.1 (T.2.2.2.1 p) j) y (gk_hf h 112 0 0)) (fun j y => (j = 0 ∧ y = -1) ∨ ∃ i, j = i + 1 ∧ y = vs T.2.2.2.1 (T.2.2.2.1 p) i) ?_ ?_ 0 _ (by decide) (Or.inl ⟨rfl, rfl⟩)
      · intro j y hj hi ih
        refine x_mo_vouched_24 ⟨fun q => ?_, fun q => fe (s_mo_vouchersOf hn v2.1.2.2 mv (vs_low hV h0 j) (fe ?_))⟩
        · rcases hi with ⟨z1, z2⟩ | ⟨i, z1, z2⟩
          · exfalso
            obtain ⟨u, u1, u2⟩ := hT.2.2.2.1 p (by omega)
            rw [z2, z1] at q
            have q : -1 = T.2.2.2.1 p := q
            have h1 : 2 ^ n ≤ 2 ^ 10 := Nat.pow_le_pow_right (by decide) hn
            have := nI_pos (n := u) (by omega)
            rw [← u2, ← q] at this
            exact absurd (by decide) this
          · subst z1
            have e := vs_st (q.symm.trans z2) (10 - i)
            rw [show i + (10 - i) = 10 by omega] at e
            show K (vs T.2.2.2.1 (T.2.2.2.1 p) (i + 1)) _
            rw [← q, z2, ← e]; exact k
        · exact ih _ (Or.inr ⟨j, rfl, rfl⟩)
      · intro y hi
        refine x_mo_vouched_24 (yT ?_ ?_)
        · rcases hi with ⟨z1, z2⟩ | ⟨i, z1, z2⟩
          · omega
          · rw [z2, show i = 10 by omega, ten]
        · show K (vs T.2.2.2.1 (T.2.2.2.1 p) 11) _
          rw [ten]; exact k
  · refine ⟨-1, fun h K v k => ?_, fun h K v k => ?_⟩
    · exact gk_ci_mk (x_dp_vouched (s_wh0 hn (Vw_n v) ha (zT rfl (k h Qs_rf))))
    · exact gk_ci_mk (x_mo_vouched (s_mp0 hn (Vw_Qs (Qs_t (x := 0)) v).1.2.2 ha (zT rfl (k _ Qs_t))))
/-! game -/
def hpN (w : gk_WV) (p : Nat) : Nat := if nb_bit (w.1 1) p then edg (nb_bitL (w.2.1 p)) else 0
def xsN (w : gk_WV) : Nat → Int32
  | 0 => 0
  | p + 1 => xsN w p ^^^ nI (hpN w p % 6)
theorem hpN_le (w : gk_WV) (p : Nat) : hpN w p ≤ 256 := by
  unfold hpN
  split
  · exact edg_le _
  · exact Nat.zero_le _
/-- taking t of a heap of e leaves what x asks for -/
def Wt (x : Int32) (e t : Nat) : Prop := 1 ≤ t ∧ t ≤ 5 ∧ t ≤ e ∧ nI ((e - t) % 6) = x ^^^ nI (e % 6)
theorem s_dp_winningTake {E : gk_E} {d : Nat} {h : gk_H} {K : Int32 → gk_H → Prop} {x : Int32} {e : Nat} (he : e ≤ 256) (k1 : ∀ t, Wt x e t → (∀ i, i < t → ¬ Wt x e i) → K (nI t) h) (k0 : (∀ t, ¬ Wt x e t) → K (-1) h) : gk_ci E (d + 1) jdp_winningTake [.int (nI e), .int x] h K := by
  have e1 : ∀ k, k ≤ 256 → nI k - nI k / 6 * 6 = nI (k % 6) := fun k hk => pk_rem (d := 6) (by omega) (by omega) (by omega)
  refine gk_ci_mk (x_dp_winningTake ⟨by decide, ?_⟩)
  rw [e1 e he]
  refine fe (fe ?_)
  refine lp_up (N := 6) (fun t (_ : Unit) => g_dp_winningTake_9 E d (gk_qi K) (nI e) (x ^^^ nI (e % 6)) (nI t) h) (fun t _ => 1 ≤ t ∧ ∀ i, i < t → ¬ Wt x e i) ?_ ?_ 1 () (by decide) ⟨Nat.le_refl _, fun i q z => by have := z.1; omega⟩
  · rintro t _ ht ⟨h1, hi⟩ ih
    refine x_dp_winningTake_9 (pk_lt 5 t (fun q => by omega) (fun _ => pk_lt e t (fun q => k0 fun i z => ?_) (fun q => ⟨by decide, ?_⟩)))
    · have : i < t := by have := z.2.2.1; omega
      exact hi i this z
    · rw [pk_sub q, e1 (e - t) (by omega)]
      refine ⟨fun z => fe ?_, fun z => k1 t ⟨h1, by omega, q, z⟩ hi⟩
      rw [nI_1]
      refine ih () ⟨by omega, fun i h9 => ?_⟩
      by_cases y : i = t
      · rw [y]; exact fun w => z w.2.2.2
      · exact hi i (by omega)
  · rintro _ ⟨-, hi⟩
    refine x_dp_winningTake_9 (pk_lt 5 6 (fun _ => k0 fun t z => hi t (by have := z.2.1; omega) z) (fun q => by omega))
theorem lc_game {E : gk_E} {d : Nat} (a0 : Int32) : lc_ok E (d + 6) InvX jdp_game jmo_game [.int a0] := by
  refine lc_q fun n w T X hn hw0 hgw hT => ?_
  have e1 : ∀ k, k ≤ 256 → nI k - nI k / 6 * 6 = nI (k % 6) := fun k hk => pk_rem (d := 6) (by omega) (by omega) (by omega)
  have hex : ∃ r : Int32, (∀ p t, p < n → Wt (xsN w n) (hpN w p) t → (∀ i, i < t → ¬ Wt (xsN w n) (hpN w p) i) → (∀ p', p' < p → ∀ i, ¬ Wt (xsN w n) (hpN w p') i) → r = if a0 = 0 then nI p else if a0 = 1 then nI t else -1) ∧ ((∀ p, p < n → ∀ i, ¬ Wt (xsN w n) (hpN w p) i) → r = -1) := by
    by_cases z : ∃ p, p < n ∧ ∃ t, Wt (xsN w n) (hpN w p) t
    · obtain ⟨p, ⟨p1, p2⟩, p3⟩ := pk_least (fun p => p < n ∧ ∃ t, Wt (xsN w n) (hpN w p) t) z
      obtain ⟨t, t1, t2⟩ := pk_least (fun t => Wt (xsN w n) (hpN w p) t) p2
      refine ⟨if a0 = 0 then nI p else if a0 = 1 then nI t else -1, fun p' t' x1 x2 x3 x4 => ?_, fun x => absurd t1 (x p p1 t)⟩
      have ep : p = p' := by
        rcases Nat.lt_trichotomy p p' with y | y | y
        · exact absurd t1 (x4 p y t)
        · exact y
        · exact absurd ⟨x1, t', x2⟩ (p3 p' y)
      subst ep
      have et : t = t' := by
        rcases Nat.lt_trichotomy t t' with y | y | y
        · exact absurd t1 (x3 t y)
        · exact y
        · exact absurd x2 (t2 t' y)
      rw [et]
    · exact ⟨-1, fun p t x1 x2 _ _ => absurd ⟨p, x1, t, x2⟩ z, fun _ => rfl⟩
  obtain ⟨r, r1, r2⟩ := hex
  refine ⟨r, fun h K v k => ?_, fun h K v k => ?_⟩
  · have k := k h Qs_rf
    have hp : ∀ {K : Int32 → gk_H → Prop} (p : Nat), p < n → K (nI (hpN w p)) h → gk_ci E (d + 5) jdp_heapOf [.ref 0, .int (nI p)] h K := by
      intro K p hp hK
      unfold hpN at hK
      refine gk_ci_mk (x_dp_heapOf (s_wo_isOwned_1 (by omega) ?_))
      rw [Vw_f v (by decide)]
      refine bsel (fun q => ?_) (fun q => ⟨vp_in_nI (by omega) (by decide), ?_⟩)
      · rw [if_neg (by rw [q]; decide)] at hK; exact hK
      · rw [if_pos q] at hK
        rw [nI_clamp (by omega), Vw_d v (by omega)]
        exact s_gr_edges hK
    refine gk_ci_mk (x_dp_game (fe (fe ?_)))
    refine lp_up (N := n) (fun p (_ : Unit) => g_dp_game_4 E (d + 5) (gk_qi K) a0 (xsN w p) (nI p) h) (fun _ _ => True) ?_ ?_ 0 () (Nat.zero_le _) trivial
    · intro p _ hpn _ ih
      refine x_dp_game_4 (pk_le n p (fun q => by omega) (fun _ => hp p hpn ⟨by decide, ?_⟩) (hx := Vw_n v))
      rw [e1 _ (hpN_le w p)]
      refine fe (fe ?_)
      rw [nI_1]
      exact ih () trivial
    · intro _ _
      refine x_dp_game_4 (pk_le n n (fun _ => fe ?_) (fun q => by omega) (hx := Vw_n v))
      refine lp_up (N := n) (fun p (_ : Unit) => g_dp_game_34 E (d + 5) (gk_qi K) a0 (xsN w n) (nI p) h) (fun p _ => ∀ p', p' < p → ∀ i, ¬ Wt (xsN w n) (hpN w p') i) ?_ ?_ 0 () (Nat.zero_le _) (fun p' q => by omega)
      · intro p _ hpn hi ih
        refine x_dp_game_34 (pk_le n p (fun q => by omega) (fun _ => hp p hpn (s_dp_winningTake (hpN_le w p) (fun t t1 t2 => fe (yF ?_ ?_)) (fun t0 => fe (yT rfl (fe ?_))))) (hx := Vw_n v))
        · intro q
          have := nI_pos (n := t) (by have := t1.2.1; omega)
          rw [q] at this; exact absurd (by decide) this
        · have e := r1 p t hpn t1 t2 hi
          rw [e] at k
          refine ⟨fun q0 => ⟨fun q1 => ?_, fun q1 => ?_⟩, fun q0 => ?_⟩
          · rw [if_neg q0, if_neg q1] at k; exact k
          · rw [if_neg q0, if_pos q1] at k; exact k
          · rw [if_pos q0] at k; exact k
        · rw [nI_1]
          refine ih () fun p' h9 => ?_
          by_cases y : p' = p
          · rw [y]; exact t0
          · exact hi p' (by omega)
      · intro _ hi
        refine x_dp_game_34 (pk_le n n (fun _ => ?_) (fun q => by omega) (hx := Vw_n v))
        rw [r2 hi] at k; exact k
  · have v2 := Vw_Qs (Qs_t (x := 0)) v
    have k := k _ (Qs_t (h := h) (x := 0))
    have en := v2.1.2.2
    obtain ⟨m, ⟨g1, g2⟩, g3, -⟩ := hgw
    have em : m = n := (nI_eq (by omega) (by omega)).mp (g2.symm.trans hw0)
    by_cases hin : (0 : Int32) ≤ a0 ∧ a0 ≤ 1
    · refine gk_ci_mk (x_mo_game (s_in1 hin (zF (by decide) (s_mo_ownedSet hn en (fun p hp => (Vw_mp v2 hp).2.1) (fun p hp => (g3 p (by omega)).1) (fe (fe (fe ?_)))))))
      refine lp_up (N := n) (fun p (_ : Unit) => g_mo_game_27 E (d + 5) (gk_qi K) a0 (w.1 1) (xsN w p) (nI p) (gk_hf h 112 0 0)) (fun _ _ => True) ?_ ?_ 0 () (Nat.zero_le _) trivial
      · intro p _ hpn _ ih
        have ih := ih () trivial
        rw [xsN] at ih
        unfold hpN at ih
        refine x_mo_game_27 (pk_le n p (fun q => by omega) (fun _ => s_mo_has (by omega) (bsel (fun q => fe ?_) (fun q => s_mo_edgesOf (by omega) (Vw_mp v2 (by omega)).2.2.2.2 ⟨by decide, ?_⟩))) (hx := en))
        · rw [if_neg (by rw [q]; decide)] at ih
          rw [nI_1]
          have : xsN w p ^^^ nI (0 % 6) = xsN w p := Int32.xor_zero
          rw [this] at ih; exact ih
        · rw [if_pos q] at ih
          rw [e1 _ (edg_le _)]
          refine fe (fe ?_)
          rw [nI_1]; exact ih
      · intro _ _
        refine x_mo_game_27 (pk_le n n (fun _ => fe ?_) (fun q => by omega) (hx := en))
        refine lp_up (N := n) (fun p (_ : Unit) => g_mo_game_67 E (d + 5) (gk_qi K) a0 (w.1 1) (xsN w n) (nI p) (gk_hf h 112 0 0)) (fun p _ => ∀ p', p' < p → ∀ i, ¬ Wt (xsN w n) (hpN w p') i) ?_ ?_ 0 () (Nat.zero_le _) (fun p' q => by omega)
        · intro p _ hpn hi ih
          have nx : (∀ i, ¬ Wt (xsN w n) (hpN w p) i) → ∀ y : Int32, y = nI p + 1 → g_mo_game_67 E (d + 5) (gk_qi K) a0 (w.1 1) (xsN w n) y (gk_hf h 112 0 0) := by
            rintro t0 _ rfl
            rw [nI_1]
            refine ih () fun p' h9 => ?_
            by_cases y : p' = p
            · rw [y]; exact t0
            · exact hi p' (by omega)
          refine x_mo_game_67 (pk_le n p (fun q => by omega) (fun _ => s_mo_has (by omega) (bsel2 (fun q => nx (fun i z => ?_)) (fun q => s_mo_edgesOf (by omega) (Vw_mp v2 (by omega)).2.2.2.2 (fe ⟨by decide, ?_⟩)))) (hx := en))
          · have z3 := z.2.2.1
            have z1 := z.1
            unfold hpN at z3
            rw [if_neg (by rw [q]; decide)] at z3
            omega
          · have eh : edg (nb_bitL (w.2.1 p)) = hpN w p := by unfold hpN; rw [if_pos q]
            rw [eh, e1 _ (hpN_le w p)]
            have hle := hpN_le w p
            refine fe (fe ?_)
            refine lp_up (N := 6) (fun t (_ : Unit) => g_mo_game_109 E (d + 5) (gk_qi K) a0 (w.1 1) (xsN w n) (nI p) (nI (hpN w p)) (xsN w n ^^^ nI (hpN w p % 6)) (nI t) (gk_hf h 112 0 0)) (fun t _ => 1 ≤ t ∧ ∀ i, i < t → ¬ Wt (xsN w n) (hpN w p) i) ?_ ?_ 1 () (by decide) ⟨Nat.le_refl _, fun i q z => by have := z.1; omega⟩
            · rintro t _ ht ⟨h1, hti⟩ iht
              refine x_mo_game_109 (s_mo_lesser (b := 5) (by omega) (by decide) (pk_lt (if 5 ≤ hpN w p then 5 else hpN w p) t (fun z => nx (fun i y => ?_)) (fun z => ⟨by decide, ?_⟩) (ha := by split <;> omega)))
              · have : i < t := by
                  have y2 := y.2.1
                  have y3 := y.2.2.1
                  split at z <;> omega
                exact hti i this y
              · have le : t ≤ hpN w p := by split at z <;> omega
                rw [pk_sub le, e1 (hpN w p - t) (by omega)]
                refine ⟨fun y => fe ?_, fun y => ?_⟩
                · rw [nI_1]
                  refine iht () ⟨by omega, fun i h9 => ?_⟩
                  by_cases x : i = t
                  · rw [x]; exact fun w9 => y w9.2.2.2
                  · exact hti i (by omega)
                · have e := r1 p t hpn ⟨h1, by omega, le, y⟩ hti hi
                  rw [e] at k
                  refine ⟨fun q0 => ?_, fun q0 => ?_⟩
                  · rw [if_neg q0] at k
                    have : a0 = 1 := by
                      obtain ⟨i, hi9, rfl⟩ := of05 (N := 1) (by decide) hin
                      have : i = 0 ∨ i = 1 := by omega
                      rcases this with rfl | rfl
                      · exact absurd rfl q0
                      · rfl
                    rw [if_pos this] at k; exact k
                  · rw [if_pos q0] at k; exact k
            · rintro _ ⟨-, hti⟩
              refine x_mo_game_109 (s_mo_lesser (b := 5) (by omega) (by decide) (pk_lt (if 5 ≤ hpN w p then 5 else hpN w p) 6 (fun z => nx (fun i y => hti i (by have := y.2.1; omega) y)) (fun z => by split at z <;> omega) (ha := by split <;> omega)))
        · intro _ hi
          refine x_mo_game_67 (pk_le n n (fun _ => ?_) (fun q => by omega) (hx := en))
          rw [r2 hi] at k; exact k
    · have e : r = -1 := by
        have n0 : ¬ a0 = 0 := fun z => hin (by rw [z]; decide)
        have n1 : ¬ a0 = 1 := fun z => hin (by rw [z]; decide)
        by_cases z : ∃ p, p < n ∧ ∃ t, Wt (xsN w n) (hpN w p) t
        · obtain ⟨p, ⟨p1, p2⟩, p3⟩ := pk_least (fun p => p < n ∧ ∃ t, Wt (xsN w n) (hpN w p) t) z
          obtain ⟨t, t1, t2⟩ := pk_least (fun t => Wt (xsN w n) (hpN w p) t) p2
          have := r1 p t p1 t1 t2 (fun p' h9 i y => p3 p' h9 ⟨by omega, i, y⟩)
          rw [if_neg n0, if_neg n1] at this; exact this
        · exact r2 fun p h9 i y => z ⟨p, h9, i, y⟩
      rw [e] at k
      exact gk_ci_mk (x_mo_game (s_in0 hin (zT rfl k)))
