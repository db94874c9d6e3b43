/-! buys -/
def smI (f : Nat → Int32) (s : Int32) : Nat → Int32
  | 0 => 0
  | p + 1 => if nb_bit s p then smI f s p + f p else smI f s p
theorem smI_0 {f : Nat → Int32} : ∀ n, smI f 0 n = 0 := by
  intro n
  induction n with
  | zero => rfl
  | succ n ih => rw [smI, bI_0, if_neg (by decide), ih]
noncomputable def buN (o a : Int32) (f g : Nat → Int32) (n : Nat) : Nat → Nat
  | 0 => 0
  | s + 1 => if nI s &&& o = 0 ∧ ¬ a < smI f (nI s) n ∧ ¬ smI g (nI s) n ≤ smI g (nI (buN o a f g n s)) n then s else buN o a f g n s
theorem buN_1 {o a : Int32} {f g : Nat → Int32} {n : Nat} : buN o a f g n 1 = 0 := by
  rw [buN, buN]; split <;> rfl
theorem sh2 : ∀ n, n ≤ 10 → (1 : Int32) <<< (nI n &&& 31) = nI (2 ^ n) ∧ 2 ^ n ≤ 1024 ∧ 1 ≤ 2 ^ n := by decide +kernel
section BU
variable {E : gk_E} {d : Nat} {h : gk_H} {K : Int32 → gk_H → Prop} {n : Nat} {s : Int32} {f g : Nat → Int32}
theorem s_dp_priceOf (hn : n ≤ 10) (en : h.1 1 0 = nI n) (hf : ∀ p, p < n → h.2.1 92 p = f p) (hk : K (smI f s n) h) : gk_ci E (d + 1) jdp_priceOf [.ref 0, .int s] h K := by
  refine gk_ci_mk (x_dp_priceOf (fe (fe ?_)))
  refine lp_up (N := n) (fun p (_ : Unit) => g_dp_priceOf_4 E d (gk_qi K) s (smI f s p) (nI p) h) (fun _ _ => True) ?_ ?_ 0 () (Nat.zero_le _) trivial
  · intro p _ hp _ ih
    have ih := ih () trivial
    rw [smI] at ih
    refine x_dp_priceOf_4 (pk_le n p (fun q => by omega) (fun _ => ?_) (hx := en))
    rw [nb_has0 _ (by omega), nI_clamp (by omega), hf p hp]
    refine ⟨fun q => fe ?_, fun q => ⟨vp_in_nI (by omega) (by decide), fe (fe ?_)⟩⟩
    · rw [if_neg (by rw [q]; decide)] at ih; rw [nI_1]; exact ih
    · rw [if_pos (by simpa using q)] at ih; rw [nI_1]; exact ih
  · intro _ _
    exact x_dp_priceOf_4 (pk_le n n (fun _ => hk) (fun q => by omega) (hx := en))
theorem s_wo_dryOf_1 (hn : n ≤ 10) (en : h.1 1 0 = nI n) (hg : ∀ p, p < n → nI (nb_onesL (h.2.2 2 p)) = g p) (hk : K (smI g s n) h) : gk_ci E (d + 2) jwo_dryOf [.ref 1, .int s] h K := by
  refine gk_ci_mk (x_wo_dryOf_1 (fe (fe ?_)))
  refine lp_up (N := n) (fun p (_ : Unit) => g_wo_dryOf_1_4 E (d + 1) (gk_qi K) s (smI g s p) (nI p) h) (fun _ _ => True) ?_ ?_ 0 () (Nat.zero_le _) trivial
  · intro p _ hp _ ih
    have ih := ih () trivial
    rw [smI] at ih
    refine x_wo_dryOf_1_4 (pk_le n p (fun q => by omega) (fun _ => ?_) (hx := en))
    rw [nb_has0 _ (by omega), nI_clamp (by omega)]
    refine ⟨fun q => fe ?_, fun q => ⟨vp_in_nI (by omega) (by decide), s_jl_bitCount (fe (fe ?_))⟩⟩
    · rw [if_neg (by rw [q]; decide)] at ih; rw [nI_1]; exact ih
    · rw [if_pos (by simpa using q)] at ih; rw [nI_1, hg p hp]; exact ih
  · intro _ _
    exact x_wo_dryOf_1_4 (pk_le n n (fun _ => hk) (fun q => by omega) (hx := en))
theorem s_mo_sumOver (hn : n ≤ 10) (en : h.1 112 6 = nI n) {c : Int32} {A : Nat} (hA : (c = 0 ∧ A = 141) ∨ (¬ c = 0 ∧ A = 140)) (hf : ∀ p, p < n → h.2.1 A p = f p) (hk : K (smI f s n) h) : gk_ci E (d + 2) jmo_sumOver [.ref 112, .int s, .int c] h K := by
  refine gk_ci_mk (x_mo_sumOver (fe (fe ?_)))
  refine lp_up (N := n) (fun p (_ : Unit) => g_mo_sumOver_5 E (d + 1) (gk_qi K) s c (smI f s p) (nI p) h) (fun _ _ => True) ?_ ?_ 0 () (Nat.zero_le _) trivial
  · intro p _ hp _ ih
    have ih := ih () trivial
    rw [smI] at ih
    refine x_mo_sumOver_5 (pk_le n p (fun q => by omega) (fun _ => s_mo_has (by omega) ?_) (hx := en))
    refine bsel (fun q => fe ?_) (fun q => ?_)
    · rw [if_neg (by rw [q]; decide)] at ih; rw [nI_1]; exact ih
    · rw [if_pos q] at ih
      rw [nI_1, nI_clamp (by omega)]
      rcases hA with ⟨c0, rfl⟩ | ⟨c0, rfl⟩
      · rw [hf p hp]
        exact yT c0 ⟨vp_in_nI (by omega) (by decide), fe (fe ih)⟩
      · rw [hf p hp]
        exact yF c0 ⟨vp_in_nI (by omega) (by decide), fe (fe ih)⟩
  · intro _ _
    exact x_mo_sumOver_5 (pk_le n n (fun _ => hk) (fun q => by omega) (hx := en))
/-- the class's search -/
theorem g_buys_c {o a c : Int32} (hn : n ≤ 10) (en : h.1 1 0 = nI n) (eo : h.1 1 1 = o) (hf : ∀ p, p < n → h.2.1 92 p = f p) (hg : ∀ p, p < n → nI (nb_onesL (h.2.2 2 p)) = g p) (hk : K (if c = 0 then smI g (nI (buN o a f g n (2 ^ n))) n else nI (buN o a f g n (2 ^ n))) h) : g_dp_buys_67 E (d + 2) (gk_qi K) a c 0 0 0 h := by
  obtain ⟨p2, p1, p0⟩ := sh2 n hn
  have z : smI g (nI (buN o a f g n 0)) n = 0 := smI_0 n
  have go := lp_up (N := 2 ^ n) (fun s (_ : Unit) => g_dp_buys_67 E (d + 2) (gk_qi K) a c (smI g (nI (buN o a f g n s)) n) (nI (buN o a f g n s)) (nI s) h) (fun _ _ => True) (by
    intro s _ hs _ ih
    have ih := ih () trivial
    rw [buN] at ih
    refine x_dp_buys_67 (pk_le (2 ^ n) s (fun q => by omega) (fun _ => ?_) (hx := by rw [en, p2]))
    rw [eo, nI_1]
    refine ⟨fun q => fe ?_, fun q => s_dp_priceOf hn en hf ⟨fun q2 => fe ?_, fun q2 => s_wo_dryOf_1 hn en hg ⟨fun q3 => fe ?_, fun q3 => s_wo_dryOf_1 hn en hg (fe (fe (fe ?_)))⟩⟩⟩
    · rw [if_neg (fun z => q z.1)] at ih; exact ih
    · rw [if_neg (fun z => z.2.1 q2)] at ih; exact ih
    · rw [if_neg (fun z => z.2.2 q3)] at ih; exact ih
    · rw [if_pos ⟨q, q2, q3⟩] at ih; exact ih) (by
    intro _ _
    refine x_dp_buys_67 (pk_le (2 ^ n) (2 ^ n) (fun _ => ?_) (fun q => by omega) (hx := by rw [en, p2]))
    refine ⟨fun q => ?_, fun q => ?_⟩
    · rw [if_neg q] at hk; exact hk
    · rw [if_pos q] at hk; exact hk) 0 () (Nat.zero_le _) trivial
  rw [z] at go
  exact go
theorem g_buys_m {o a c : Int32} (hn : n ≤ 10) (en : h.1 112 6 = nI n) (hf : ∀ p, p < n → h.2.1 140 p = f p) (hg : ∀ p, p < n → h.2.1 141 p = g p) (hk : K (if c = 0 then smI g (nI (buN o a f g n (2 ^ n))) n else nI (buN o a f g n (2 ^ n))) h) : g_mo_buys_78 E (d + 2) (gk_qi K) a c o 0 1 h := by
  obtain ⟨p2, p1, p0⟩ := sh2 n hn
  have s0 : ∀ {s : Int32} {K : Int32 → gk_H → Prop}, K (smI g s n) h → gk_ci E (d + 2) jmo_sumOver [.ref 112, .int s, .int 0] h K := fun k => s_mo_sumOver hn en (Or.inl ⟨rfl, rfl⟩) hg k
  have s1 : ∀ {s : Int32} {K : Int32 → gk_H → Prop}, K (smI f s n) h → gk_ci E (d + 2) jmo_sumOver [.ref 112, .int s, .int 1] h K := fun k => s_mo_sumOver hn en (Or.inr ⟨by decide, rfl⟩) hf k
  have go := lp_up (N := 2 ^ n) (fun s (_ : Unit) => g_mo_buys_78 E (d + 2) (gk_qi K) a c o (nI (buN o a f g n s)) (nI s) h) (fun _ _ => True) (by
    intro s _ hs _ ih
    have ih := ih () trivial
    rw [buN] at ih
    refine x_mo_buys_78 (pk_le (2 ^ n) s (fun q => by omega) (fun _ => ?_) (hx := by rw [en, p2]))
    rw [nI_1]
    refine ⟨fun q => fe ?_, fun q => s1 ⟨fun q2 => fe ?_, fun q2 => s0 (s0 ⟨fun q3 => fe ?_, fun q3 => fe (fe ?_)⟩)⟩⟩
    · rw [if_neg (fun z => q z.1)] at ih; exact ih
    · rw [if_neg (fun z => z.2.1 q2)] at ih; exact ih
    · rw [if_neg (fun z => z.2.2 q3)] at ih; exact ih
    · rw [if_pos ⟨q, q2, q3⟩] at ih; exact ih) (by
    intro _ _
    refine x_mo_buys_78 (pk_le (2 ^ n) (2 ^ n) (fun _ => ?_) (fun q => by omega) (hx := by rw [en, p2]))
    refine ⟨fun q => ?_, fun q => s0 ?_⟩
    · rw [if_neg q] at hk; exact hk
    · rw [if_pos q] at hk; exact hk) 1 () p0 trivial
  rw [buN_1] at go
  exact go
end BU
theorem lc_buys {E : gk_E} {d : Nat} (a0 a1 : Int32) : lc_ok E (d + 8) InvX jdp_buys jmo_buys [.int a0, .int a1] := by
  refine lc_q fun n w T X hn hw0 hgw hT => ?_
  by_cases ha : ¬ ((1 : Int32) ≤ a0 ∧ a0 ≤ 9999)
  · exact ⟨-1, fun h K v k => gk_ci_mk (x_dp_buys (s_wi0 ha (yT rfl (k h Qs_rf)))), fun h K v k => gk_ci_mk (x_mo_buys (fe (s_in0 ha (yT rfl (k _ Qs_t)))))⟩
  replace ha := Classical.not_not.mp ha
  by_cases hb : ¬ ((0 : Int32) ≤ a1 ∧ a1 ≤ 1)
  · exact ⟨-1, fun h K v k => gk_ci_mk (x_dp_buys (s_wi1 ha (yF (by decide) (s_wi0 hb (zT rfl (k h Qs_rf)))))), fun h K v k => gk_ci_mk (x_mo_buys (fe (s_in1 ha (yF (by decide) (s_in0 hb (zT rfl (k _ Qs_t)))))))⟩
  replace hb := Classical.not_not.mp hb
  have fz : ∀ p, n ≤ p → nb_bit (w.1 1) p = false := by
    obtain ⟨m, ⟨m1, m2⟩, m3, -⟩ := hgw
    have : m = n := (nI_eq (by omega) (by omega)).mp (m2.symm.trans hw0)
    exact fun p hp => (m3 p (by omega)).1
  refine ⟨if a1 = 0 then smI (fun p => nI (nb_onesL (w.2.1 p))) (nI (buN (w.1 1) a0 (wor w T) (fun p => nI (nb_onesL (w.2.1 p))) n (2 ^ n))) n else nI (buN (w.1 1) a0 (wor w T) (fun p => nI (nb_onesL (w.2.1 p))) n (2 ^ n)), fun h K v k => ?_, fun h K v k => ?_⟩
  · refine gk_ci_mk (x_dp_buys (s_wi1 ha (yF (by decide) (s_wi1 hb (zF (by decide) (fe ?_))))))
    refine lp_up (N := n) (fun j (u : gk_H) => g_dp_buys_24 E (d + 7) (gk_qi K) a0 a1 (nI j) u) (fun j u => Qs h u ∧ ∀ p, p < j → u.2.1 92 p = wor w T p) ?_ ?_ 0 h (Nat.zero_le _) ⟨Qs_rf, fun p hp => absurd hp (Nat.not_lt_zero _)⟩
    · rintro j u hj ⟨q, hu⟩ ih
      have v2 := Vw_Qs q v
      refine x_dp_buys_24 (pk_le n j (fun q => by omega) (fun _ => (s_te_tell_1 (by omega) v2.2.2.1 hgw v2.2.2.2.2.2.2.1 hT).1 _ fun u' f => ⟨vp_in_nI (by omega) (by decide), fe ?_⟩) (hx := Vw_n v2))
      rw [nI_1, nI_clamp (by omega)]
      refine ih _ ⟨Qs_tr (Qs_tr q (Qs_te f)) (Qs_fr (fr_ha (by unfold scr; omega))), fun p hp => ?_⟩
      rw [ha_a]
      by_cases z : p = j
      · rw [if_pos ⟨rfl, z⟩, z]; rfl
      · rw [if_neg (fun y => z y.2), (f 92 (by unfold S_teA; omega)).2.1]
        exact hu p (by omega)
    · rintro u ⟨q, hu⟩
      have v2 := Vw_Qs q v
      refine x_dp_buys_24 (pk_le n n (fun _ => fe (fe (fe ?_))) (fun q => by omega) (hx := Vw_n v2))
      exact g_buys_c hn (Vw_n v2) (Vw_f v2 (by decide)) hu (fun p hp => by rw [Vw_d v2 (by omega)]) (k u q)
  · refine gk_ci_mk (x_mo_buys (fe (s_in1 ha (yF (by decide) (s_in1 hb (zF (by decide) (fe ?_)))))))
    refine lp_up (N := n) (fun j (u : gk_H) => g_mo_buys_31 E (d + 7) (gk_qi K) a0 a1 (nI j) u) (fun j u => Qs h u ∧ ∀ p, p < j → u.2.1 140 p = wor w T p ∧ u.2.1 141 p = nI (nb_onesL (w.2.1 p))) ?_ ?_ 0 _ (Nat.zero_le _) ⟨Qs_t, fun p hp => absurd hp (Nat.not_lt_zero _)⟩
    · rintro j u hj ⟨q, hu⟩ ih
      have v2 := Vw_Qs q v
      refine x_mo_buys_31 (pk_le n j (fun q => by omega) (fun _ => (s_mo_tells (by omega) (MW_of v2) v2.2.2.2.2.2.2.2.1 hT).1 _ fun u' f => ⟨vp_in_nI (by omega) (by decide), ?_⟩) (hx := v2.1.2.2))
      rw [nI_clamp (by omega)]
      refine fe ?_
      have q3 : Qs h (gk_ha u' 140 j (wor w T j)) := Qs_tr (Qs_tr q (Qs_as f)) (Qs_fr (fr_ha (by unfold scr; omega)))
      have v3 := Vw_Qs q3 v
      refine s_mo_dryOf (by omega) (Vw_mp v3 (by omega)).2.2.2.2 ⟨vp_in_nI (by omega) (by decide), fe (fe ?_)⟩
      rw [nI_1]
      refine ih _ ⟨Qs_tr q3 (Qs_fr (fr_ha (by unfold scr; omega))), fun p hp => ?_⟩
      rw [ha_a, ha_a, ha_a, ha_a, if_neg (by omega)]
      by_cases z : p = j
      · rw [if_pos ⟨rfl, z⟩, if_pos ⟨rfl, z⟩, z]; exact ⟨rfl, rfl⟩
      · rw [if_neg (fun y => z y.2), if_neg (fun y => z y.2), if_neg (by omega), (f 140 (by unfold S_as; omega)).2.1, (f 141 (by unfold S_as; omega)).2.1]
        exact hu p (by omega)
    · rintro u ⟨q, hu⟩
      have v2 := Vw_Qs q v
      refine x_mo_buys_31 (pk_le n n (fun _ => s_mo_ownedSet hn v2.1.2.2 (fun p hp => (Vw_mp v2 hp).2.1) fz (fe (fe (fe ?_)))) (fun q => by omega) (hx := v2.1.2.2))
      exact g_buys_m hn v2.1.2.2 (fun p hp => (hu p hp).1) (fun p hp => (hu p hp).2) (k u q)
