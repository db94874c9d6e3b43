/-! lie and feet -/
def lieP (f : Nat → Bool) (l r : Nat) : Prop := l = r ∨ f l = false ∨ f r = false ∨ 4 < apN (l / 8) (r / 8) + apN (l % 8) (r % 8) ∨ ¬ conn f l r
noncomputable def lieB (f : Nat → Bool) (l r : Nat) : Bool := @decide (lieP f l r) (Classical.propDecidable _)
theorem lieB_iff {f : Nat → Bool} {l r : Nat} : lieB f l r = true ↔ lieP f l r := @decide_eq_true_iff _ (Classical.propDecidable _)
theorem lieB_f {f : Nat → Bool} {l r : Nat} (h : ¬ lieP f l r) : lieB f l r = false := by
  cases e : lieB f l r with
  | false => rfl
  | true => exact absurd (lieB_iff.mp e) h
theorem abN : ∀ a, a < 8 → ∀ b, b < 8 → (if 0 ≤ nI a - nI b then nI a - nI b else 0 - (nI a - nI b)) = nI (apN a b) := by decide +kernel
theorem apN8 {a b : Nat} (ha : a < 8) (hb : b < 8) : apN a b < 8 := by unfold apN; split <;> omega
section LIE
variable {E : gk_E} {d : Nat} {h : gk_H} {K : Int32 → gk_H → Prop}
theorem s_gr_isLie {g : Int64} {l r : Nat} (hl : l < 64) (hr : r < 64) (hk : K (nb_b (lieB (nb_bitL g) l r)) h) : gk_ci E (d + 4) jgr_isLie [.long g, .int (nI l), .int (nI r)] h K := by
  have e1 : ∀ c, c < 64 → nI c / 8 = nI (c / 8) := fun c hc => pk_div (d := 8) (by omega) (by omega) (by omega)
  have e2 : ∀ c, c < 64 → nI c - nI c / 8 * 8 = nI (c % 8) := fun c hc => pk_rem (d := 8) (by omega) (by omega) (by omega)
  have yes : lieP (nb_bitL g) l r → ((1 : Int32) = 0 ∨ (1 : Int32) = 1) ∧ K 1 h := fun q => ⟨Or.inr rfl, by rw [lieB_iff.mpr q] at hk; exact hk⟩
  refine gk_ci_mk (x_gr_isLie ?_)
  unfold w_gr_isLie
  rw [e2 l hl, e2 r hr, e1 l hl, e1 r hr, abN _ (by omega) _ (by omega), abN _ (by omega) _ (by omega)]
  refine pk_eq l r (fun q => yes (Or.inl q)) (fun q0 => s_gr_isDry hl (bsel (fun q => yes (Or.inr (Or.inl q))) (fun q1 => s_gr_isDry hr (bsel2 (fun q => yes (Or.inr (Or.inr (Or.inl q)))) (fun q2 => ?_)))))
  refine ⟨by decide, by decide, Nat.le_add_left _ _, fe ⟨by decide, by decide, Nat.le_add_left _ _, fe ?_⟩⟩
  rw [nI_add]
  have l1 := apN8 (a := l / 8) (b := r / 8) (by omega) (by omega)
  have l2 := apN8 (a := l % 8) (b := r % 8) (by omega) (by omega)
  refine pk_lt 4 _ (fun q => yes (Or.inr (Or.inr (Or.inr (Or.inl q))))) (fun q3 => s_gr_partOf fun y hy => s_gr_isDry hr (bsel2 (fun q => yes (Or.inr (Or.inr (Or.inr (Or.inr fun z => ?_))))) (fun q => ⟨Or.inl rfl, ?_⟩)))
  · have := (hy r).mpr ⟨l, by rw [bL_one hl]; simp, q1, z⟩
    rw [q] at this; cases this
  · obtain ⟨a, a1, a2, a3⟩ := (hy r).mp q
    rw [bL_one hl] at a1
    have : a = l := of_decide_eq_true a1
    subst this
    have nl : ¬ lieP (nb_bitL g) a r := by
      rintro (z | z | z | z | z)
      · exact q0 z
      · rw [q1] at z; cases z
      · rw [q2] at z; cases z
      · omega
      · exact z a3
    rw [lieB_f nl] at hk
    exact hk
theorem s_mo_isLie {f : Nat → Bool} {l r : Nat} (hj : PM f (h.2.1 134)) (hl : l < 64) (hr : r < 64) (hk : K (nb_b (lieB f l r)) h) : gk_ci E (d + 2) jmo_isLie [.ref 112, .int (nI l), .int (nI r)] h K := by
  have e1 : ∀ c, c < 64 → nI c / 8 = nI (c / 8) := fun c hc => pk_div (d := 8) (by omega) (by omega) (by omega)
  have e2 : ∀ c, c < 64 → nI c - nI c / 8 * 8 = nI (c % 8) := fun c hc => pk_rem (d := 8) (by omega) (by omega) (by omega)
  have yes : lieP f l r → ((1 : Int32) = 0 ∨ (1 : Int32) = 1) ∧ K 1 h := fun q => ⟨Or.inr rfl, by rw [lieB_iff.mpr q] at hk; exact hk⟩
  have ne : ∀ a, a < 64 → ¬ nI a = -1 := fun a ha z => by
    have := nI_pos (n := a) (by omega)
    rw [z] at this; exact absurd (by decide) this
  refine gk_ci_mk (x_mo_isLie ?_)
  unfold w_mo_isLie
  rw [e2 l hl, e2 r hr, e1 l hl, e1 r hr, nI_clamp (n := l) (by omega), nI_clamp (n := r) (by omega)]
  refine ⟨vp_in_nI hl (by decide), fun q => yes (Or.inr (Or.inl ?_)), fun q1 => ?_⟩
  · cases e : f l with
    | false => rfl
    | true =>
      obtain ⟨a, a1, a2, -⟩ := (hj l hl).2 e
      exact absurd (a2.symm.trans q) (ne a a1)
  have fl : f l = true := by
    cases e : f l with
    | true => rfl
    | false => exact absurd ((hj l hl).1 e) q1
  obtain ⟨a, a1, a2, a3, a4⟩ := (hj l hl).2 fl
  refine pk_eq l r (fun q => yes (Or.inl q)) (fun q0 => ⟨vp_in_nI hl (by decide), vp_in_nI hr (by decide), fun q => ?_, fun q => ?_⟩)
  · cases e : f r with
    | false => exact yes (Or.inr (Or.inr (Or.inl e)))
    | true =>
      refine yes (Or.inr (Or.inr (Or.inr (Or.inr fun z => ?_))))
      obtain ⟨b, b1, b2, b3, b4⟩ := (hj r hr).2 e
      have h1 := a4.2 b (conn_tr (conn_sy fl a3) (conn_tr z b3))
      have h2 := b4.2 a (conn_tr (conn_sy e b3) (conn_tr (conn_sy fl z) a3))
      exact q (by rw [a2, b2, show a = b by omega])
  · have fr' : f r = true := by
      cases e : f r with
      | true => rfl
      | false =>
        rw [(hj r hr).1 e, a2] at q
        exact absurd q (ne a a1)
    obtain ⟨b, b1, b2, b3, b4⟩ := (hj r hr).2 fr'
    have eab : a = b := (nI_eq (by omega) (by omega)).mp (a2.symm.trans (q.trans b2))
    subst eab
    have cn : conn f l r := conn_tr a3 (conn_sy fr' b3)
    have l1 := apN8 (a := l / 8) (b := r / 8) (by omega) (by omega)
    have l2 := apN8 (a := l % 8) (b := r % 8) (by omega) (by omega)
    refine ⟨by decide, by decide, s_mo_apart (by omega) (by omega) ⟨by decide, by decide, s_mo_apart (by omega) (by omega) ?_⟩⟩
    rw [nI_add]
    refine pk_le _ 4 (fun z => ⟨Or.inl rfl, ?_⟩) (fun z => yes (Or.inr (Or.inr (Or.inr (Or.inl z)))))
    have nl : ¬ lieP f l r := by
      rintro (w | w | w | w | w)
      · exact q0 w
      · rw [fl] at w; cases w
      · rw [fr'] at w; cases w
      · omega
      · exact w cn
    rw [lieB_f nl] at hk
    exact hk
end LIE
theorem lc_lie {E : gk_E} {d : Nat} (a0 a1 a2 : Int32) : lc_ok E (d + 6) InvX jdp_lie jmo_lie [.int a0, .int a1, .int a2] := by
  refine lc_q fun n w T X hn hw0 hg hT => ?_
  by_cases ha : ∃ q, q < n ∧ a0 = nI q
  · obtain ⟨p, hp, rfl⟩ := ha
    by_cases hb : (0 : Int32) ≤ a1 ∧ a1 ≤ 63
    · by_cases hc : (0 : Int32) ≤ a2 ∧ a2 ≤ 63
      · obtain ⟨l, hl, rfl⟩ := of05 (N := 63) (by decide) hb
        obtain ⟨r, hr, rfl⟩ := of05 (N := 63) (by decide) hc
        refine ⟨nb_b (lieB (nb_bitL (w.2.1 p)) l r), fun h K v k => ?_, fun h K v k => ?_⟩
        · have k := k h Qs_rf
          refine gk_ci_mk (x_dp_lie (s_wh1 hn (Vw_n v) hp (yF (by decide) (s_ce1 hb (yF (by decide) (s_ce1 hc (zF (by decide) ⟨vp_in_nI (by omega) (by decide), ?_⟩)))))))
          rw [nI_clamp (by omega), Vw_d v (by omega)]
          refine s_gr_isLie (by omega) (by omega) (bsel (fun q => ?_) (fun q => ?_))
          · rw [q] at k; exact k
          · rw [q] at k; exact k
        · have v2 := Vw_Qs (Qs_t (x := 0)) v
          refine gk_ci_mk (x_mo_lie (s_mp1 hn v2.1.2.2 hp (yF (by decide) (s_mc1 hb (yF (by decide) (s_mc1 hc (zF (by decide) ?_)))))))
          refine s_mo_findsParts (f := nb_bitL (w.2.1 p)) (od := true) (by omega) (Vw_mp v2 (by omega)).2.2.2.2 (fun c _ => by cases nb_bitL (w.2.1 p) c <;> rfl) (fun c hc => bL_ge hc) (fun h' b1 b2 => ?_)
          have k := k h' (Qs_tr Qs_t (Qs_134 (fun k q => by omega) b1))
          refine s_mo_isLie b2 (by omega) (by omega) (bsel (fun q => ?_) (fun q => ?_))
          · rw [q] at k; exact k
          · rw [q] at k; exact k
      · refine ⟨-1, fun h K v k => ?_, fun h K v k => ?_⟩
        · exact gk_ci_mk (x_dp_lie (s_wh1 hn (Vw_n v) hp (yF (by decide) (s_ce1 hb (yF (by decide) (s_ce0 hc (zT rfl (k h Qs_rf))))))))
        · have v2 := Vw_Qs (Qs_t (x := 0)) v
          exact gk_ci_mk (x_mo_lie (s_mp1 hn v2.1.2.2 hp (yF (by decide) (s_mc1 hb (yF (by decide) (s_mc0 hc (zT rfl (k _ Qs_t))))))))
    · refine ⟨-1, fun h K v k => ?_, fun h K v k => ?_⟩
      · exact gk_ci_mk (x_dp_lie (s_wh1 hn (Vw_n v) hp (yF (by decide) (s_ce0 hb (yT rfl (k h Qs_rf))))))
      · have v2 := Vw_Qs (Qs_t (x := 0)) v
        exact gk_ci_mk (x_mo_lie (s_mp1 hn v2.1.2.2 hp (yF (by decide) (s_mc0 hb (yT rfl (k _ Qs_t))))))
  · refine ⟨-1, fun h K v k => ?_, fun h K v k => ?_⟩
    · exact gk_ci_mk (x_dp_lie (s_wh0 hn (Vw_n v) ha (yT rfl (k h Qs_rf))))
    · exact gk_ci_mk (x_mo_lie (s_mp0 hn (Vw_Qs (Qs_t (x := 0)) v).1.2.2 ha (yT rfl (k _ Qs_t))))
/-! feet -/
def rhA (l : Nat) : Nat → Int64
  | 0 => (1 : Int64) <<< ((nI l).toInt64 &&& 63)
  | n + 1 => gRt (rhA l n)
def rhC (l : Nat) : Nat → Int64
  | 0 => 0
  | n + 1 => rhC l n ||| ((rhA l (n + 1) ||| gUp (rhA l (n + 1))) ||| gDn (rhA l (n + 1)))
def heel (l r : Nat) : Bool := decide (l % 8 < r % 8) && decide (apN (l / 8) (r / 8) ≤ 1)
set_option maxRecDepth 100000 in
theorem rh_bits : ∀ l, l < 64 → ∀ r, r < 64 → nb_bitL (rhC l 3 ||| gRt (rhA l 3)) r = (heel l r && decide (apN (l / 8) (r / 8) + apN (l % 8) (r % 8) ≤ 4)) := by decide +kernel
theorem s_gr_rightHeels {E : gk_E} {d : Nat} {h : gk_H} {K : Int64 → gk_H → Prop} {l : Nat} (hk : K (rhC l 3 ||| gRt (rhA l 3)) h) : gk_cl2 E (d + 2) jgr_rightHeels [.int (nI l)] h K := by
  refine gk_cl_mk (x_gr_rightHeels (fe (fe (fe ?_))))
  refine lp_up (N := 3) (fun j (_ : Unit) => g_gr_rightHeels_9 E (d + 1) (gk_ql K) (rhA l j) (rhC l j) (nI (j + 1)) h) (fun _ _ => True) ?_ ?_ 0 () (by decide) trivial
  · intro j _ hj _ ih
    refine x_gr_rightHeels_9 (pk_le 4 (j + 1) (fun q => by omega) (fun _ => s_gr_right (fe (s_gr_up (s_gr_down (fe (fe ?_)))))))
    rw [nI_1]
    exact ih () trivial
  · intro _ _
    exact x_gr_rightHeels_9 (pk_le 4 4 (fun _ => s_gr_right hk) (fun q => by omega))
noncomputable def feetN (f : Nat → Bool) : Nat := sm (fun l => nb_cnt (fun r => heel l r && !lieB f l r) 64) 64
theorem feet_c {g y : Int64} {l : Nat} (hl : l < 64) (fl : nb_bitL g l = true) (hy : ∀ c, nb_bitL y c = true ↔ ∃ a, nb_bitL ((1 : Int64) <<< ((nI l).toInt64 &&& 63)) a = true ∧ nb_bitL g a = true ∧ conn (nb_bitL g) a c) : nb_onesL ((rhC l 3 ||| gRt (rhA l 3)) &&& y) = nb_cnt (fun r => heel l r && !lieB (nb_bitL g) l r) 64 := by
  unfold nb_onesL
  refine nb_cnt_congr fun r hr => bool_eq ?_
  rw [bL_and, rh_bits l hl r hr, Bool.and_eq_true, Bool.and_eq_true, Bool.and_eq_true, decide_eq_true_eq, hy r, Bool.not_eq_true']
  constructor
  · rintro ⟨⟨q1, q2⟩, a, a1, a2, a3⟩
    rw [bL_one hl] at a1
    have : a = l := of_decide_eq_true a1
    subst this
    refine ⟨q1, lieB_f ?_⟩
    rintro (w | w | w | w | w)
    · subst w
      unfold heel at q1
      rw [Bool.and_eq_true, decide_eq_true_eq] at q1
      omega
    · rw [fl] at w; cases w
    · rw [conn_f a3 fl] at w; cases w
    · omega
    · exact w a3
  · rintro ⟨q1, q2⟩
    have nl : ¬ lieP (nb_bitL g) l r := fun z => by rw [lieB_iff.mpr z] at q2; cases q2
    refine ⟨⟨q1, ?_⟩, l, by rw [bL_one hl]; simp, fl, ?_⟩
    · exact Nat.not_lt.mp fun z => nl (Or.inr (Or.inr (Or.inr (Or.inl z))))
    · exact Classical.byContradiction fun z => nl (Or.inr (Or.inr (Or.inr (Or.inr z))))
theorem feet_0 {f : Nat → Bool} {l : Nat} (fl : f l = false) : nb_cnt (fun r => heel l r && !lieB f l r) 64 = 0 := cnt_zero fun r _ => by
  rw [lieB_iff.mpr (Or.inr (Or.inl fl))]; simp
theorem s_gr_standings {E : gk_E} {d : Nat} {h : gk_H} {K : Int32 → gk_H → Prop} {g : Int64} (hk : K (nI (feetN (nb_bitL g))) h) : gk_ci E (d + 4) jgr_standings [.long g] h K := by
  refine gk_ci_mk (x_gr_standings (fe (fe ?_)))
  refine lp_up (N := 64) (fun j (s : Int32) => g_gr_standings_4 E (d + 3) (gk_qi K) g s (nI j) h) (fun j s => s = nI (sm (fun l => nb_cnt (fun r => heel l r && !lieB (nb_bitL g) l r) 64) j)) ?_ ?_ 0 0 (by decide) rfl
  · rintro j s hj rfl ih
    refine x_gr_standings_4 (pk_le 64 j (fun q => by omega) (fun _ => s_gr_isDry hj (bsel (fun q => fe ?_) (fun q => s_gr_rightHeels (s_gr_partOf fun y hy => s_jl_bitCount (fe (fe ?_)))))))
    · rw [nI_1]
      refine ih _ ?_
      rw [sm, feet_0 q, Nat.add_zero]
    · rw [nI_1, nI_add, feet_c hj q hy]
      exact ih _ rfl
  · rintro s rfl
    exact x_gr_standings_4 (pk_le 64 64 (fun _ => hk) (fun q => by omega))
theorem lc_feet {E : gk_E} {d : Nat} (a0 : Int32) : lc_ok E (d + 6) InvX jdp_feet jmo_feet [.int a0] := by
  refine lc_q fun n w T X hn hw0 hg hT => ?_
  by_cases ha : ∃ q, q < n ∧ a0 = nI q
  · obtain ⟨p, hp, rfl⟩ := ha
    refine ⟨nI (feetN (nb_bitL (w.2.1 p))), fun h K v k => ?_, fun h K v k => ?_⟩
    · refine gk_ci_mk (x_dp_feet (s_wh1 hn (Vw_n v) hp (zF (by decide) ⟨vp_in_nI (by omega) (by decide), ?_⟩)))
      rw [nI_clamp (by omega), Vw_d v (by omega)]
      exact s_gr_standings (k h Qs_rf)
    · have v2 := Vw_Qs (Qs_t (x := 0)) v
      refine gk_ci_mk (x_mo_feet (s_mp1 hn v2.1.2.2 hp (zF (by decide) ?_)))
      refine s_mo_findsParts (f := nb_bitL (w.2.1 p)) (od := true) (by omega) (Vw_mp v2 (by omega)).2.2.2.2 (fun c _ => by cases nb_bitL (w.2.1 p) c <;> rfl) (fun c hc => bL_ge hc) (fun h' b1 b2 => fe (fe ?_))
      have k := k h' (Qs_tr Qs_t (Qs_134 (fun k q => by omega) b1))
      have e1 : ∀ c, c < 64 → nI c / 8 = nI (c / 8) := fun c hc => pk_div (d := 8) (by omega) (by omega) (by omega)
      have e2 : ∀ c, c < 64 → nI c - nI c / 8 * 8 = nI (c % 8) := fun c hc => pk_rem (d := 8) (by omega) (by omega) (by omega)
      generalize nb_bitL (w.2.1 p) = f at *
      refine lp_up (N := 64) (fun j (s : Int32) => g_mo_feet_25 E (d + 5) (gk_qi K) s (nI j) h') (fun j s => s = nI (sm (fun l => nb_cnt (fun r => heel l r && !lieB f l r) 64) j)) ?_ ?_ 0 0 (by decide) rfl
      · rintro j s hj rfl ih
        refine x_mo_feet_25 (pk_le 64 j (fun q => by omega) (fun _ => fe ?_))
        refine lp_up (N := 64) (fun r (s : Int32) => g_mo_feet_34 E (d + 5) (gk_qi K) s (nI j) (nI r) h') (fun r s => s = nI (sm (fun l => nb_cnt (fun r => heel l r && !lieB f l r) 64) j + nb_cnt (fun r => heel j r && !lieB f j r) r)) ?_ ?_ 0 _ (by decide) rfl
        · rintro r s hr rfl ihr
          have no : (heel j r && !lieB f j r) = false → ∀ x : Int32, x = nI r + 1 → g_mo_feet_34 E (d + 5) (gk_qi K) (nI (sm (fun l => nb_cnt (fun r => heel l r && !lieB f l r) 64) j + nb_cnt (fun r => heel j r && !lieB f j r) r)) (nI j) x h' := by
            rintro q _ rfl
            rw [nI_1]
            refine ihr _ ?_
            rw [nb_cnt, q]; rfl
          have h8 := apN8 (a := j / 8) (b := r / 8) (by omega) (by omega)
          refine x_mo_feet_34 (pk_le 64 r (fun q => by omega) (fun _ => ?_))
          rw [e2 r hr, e2 j hj, e1 r hr, e1 j hj]
          refine ⟨by decide, by decide, pk_le (r % 8) (j % 8) (fun q => no (by unfold heel; rw [decide_eq_false (by omega)]; rfl)) (fun q => ⟨by decide, by decide, s_mo_apart (by omega) (by omega) (pk_lt 1 (apN (j / 8) (r / 8)) (fun z => no (by unfold heel; rw [decide_eq_false (p := apN (j / 8) (r / 8) ≤ 1) (by omega), Bool.and_false]; rfl)) (fun z => s_mo_isLie b2 hj hr (bsel2 (fun y => fe (fe ?_)) (fun y => no (by rw [y]; simp)))))⟩)⟩
          rw [nI_1, nI_1]
          refine ihr _ ?_
          have : heel j r = true := by unfold heel; rw [decide_eq_true q, decide_eq_true z]; rfl
          rw [nb_cnt, this, y]; rfl
        · rintro s rfl
          refine x_mo_feet_34 (pk_le 64 64 (fun _ => fe ?_) (fun q => by omega))
          rw [nI_1]
          exact ih _ rfl
      · rintro s rfl
        exact x_mo_feet_25 (pk_le 64 64 (fun _ => k) (fun q => by omega))
  · refine ⟨-1, fun h K v k => ?_, fun h K v k => ?_⟩
    · exact gk_ci_mk (x_dp_feet (s_wh0 hn (Vw_n v) ha (zT rfl (k h Qs_rf))))
    · exact gk_ci_mk (x_mo_feet (s_mp0 hn (Vw_Qs (Qs_t (x := 0)) v).1.2.2 ha (zT rfl (k _ Qs_t))))
