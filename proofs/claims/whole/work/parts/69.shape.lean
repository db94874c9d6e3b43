/-! shrinking, depth, shape -/
def gSh (x : Int64) : Int64 := x &&& (((gUp x &&& gDn x) &&& gLf x) &&& gRt x)
def gShN (x : Int64) : Nat → Int64
  | 0 => x
  | n + 1 => gSh (gShN x n)
theorem bL_sh {x : Int64} {c : Nat} (hc : c < 64) : nb_bitL (gSh x) c = (nb_bitL x c && (((nb_bitL x (c + 8) && (decide (8 ≤ c) && nb_bitL x (c - 8))) && (decide (c % 8 ≠ 7) && nb_bitL x (c + 1))) && (decide (c % 8 ≠ 0) && nb_bitL x (c - 1)))) := by
  unfold gSh
  rw [bL_and, bL_and, bL_and, bL_and, bL_up, bL_dn, bL_lf, bL_rt, decide_eq_true hc, Bool.true_and, Bool.true_and]
theorem sh_lo {x : Int64} : ∀ {n c : Nat}, nb_bitL (gShN x n) c = true → 8 * n ≤ c := by
  intro n
  induction n with
  | zero => intro c _; omega
  | succ n ih =>
    intro c q
    rw [gShN, bL_sh (bL_lt q)] at q
    simp only [Bool.and_eq_true, decide_eq_true_eq] at q
    have := ih q.2.1.1.2.2
    omega
theorem sh_8 (x : Int64) : gShN x 8 = 0 := bL_eq0 fun c hc => by
  cases e : nb_bitL (gShN x 8) c with
  | false => rfl
  | true => have := sh_lo e; omega
theorem dep_ex (x : Int64) : ∃ n, n ≤ 8 ∧ gShN x n = 0 ∧ ∀ i, i < n → ¬ gShN x i = 0 := by
  obtain ⟨n, h1, h2⟩ := pk_least (fun n => gShN x n = 0) ⟨8, sh_8 x⟩
  refine ⟨n, ?_, h1, h2⟩
  rcases Nat.lt_or_ge 8 n with q | q
  · exact absurd (sh_8 x) (h2 8 q)
  · exact q
section SH1
variable {E : gk_E} {d : Nat} {h : gk_H} {x : Int64}
theorem s_gr_shrunk {K : Int64 → gk_H → Prop} {n : Nat} (hn : n < 2 ^ 31) (hk : K (gShN x n) h) : gk_cl2 E (d + 2) jgr_shrunk [.long x, .int (nI n)] h K := by
  refine gk_cl_mk (x_gr_shrunk ?_)
  refine fe (fe ?_)
  refine lp_up (N := n) (fun j (_ : Unit) => g_gr_shrunk_5 E (d + 1) (gk_ql K) (nI n) (gShN x j) (nI j) h) (fun _ _ => True) ?_ ?_ 0 () (Nat.zero_le _) trivial
  · intro j _ hj _ ih
    refine x_gr_shrunk_5 (pk_le n j (fun q => by omega) (fun _ => s_gr_up (s_gr_down (s_gr_left (s_gr_right ?_)))))
    rintro _ rfl _ rfl
    rw [nI_1]
    exact ih () trivial
  · intro _ _
    exact x_gr_shrunk_5 (pk_le n n (fun _ => hk) (fun q => by omega))
theorem s_gr_depth {K : Int32 → gk_H → Prop} {n : Nat} (h8 : n ≤ 8) (hz : gShN x n = 0) (hl : ∀ i, i < n → ¬ gShN x i = 0) (hk : K (nI n) h) : gk_ci E (d + 3) jgr_depth [.long x] h K := by
  refine gk_ci_mk (x_gr_depth ?_)
  refine fe (fe (fe ?_))
  refine lp_up (N := n) (fun j (_ : Unit) => g_gr_depth_7 E (d + 2) (gk_qi K) (nI j) (gShN x j) (nI j) h) (fun _ _ => True) ?_ ?_ 0 () (Nat.zero_le _) trivial
  · intro j _ hj _ ih
    refine x_gr_depth_7 (pk_le 8 j (fun q => by omega) (fun _ => ?_))
    rw [nb_cmp0]
    refine yF (hl j hj) (s_gr_shrunk (n := 1) (by decide) ?_)
    rintro _ rfl _ rfl _ rfl
    rw [nI_1]
    exact ih () trivial
  · intro _ _
    refine x_gr_depth_7 (pk_le 8 n (fun _ => hk) (fun q => ?_))
    rw [nb_cmp0]
    exact yT hz hk
end SH1
/-! rows of the reference's scratch -/
def OW (h : gk_H) (k : Nat) (g : Int64) : Prop := ∀ r, r < 8 → h.2.1 k r = lr g r
theorem bI_sshr (x : Int32) {k c : Nat} (hk : k < 32) (hc : c + k < 32) : nb_bit (x >>> (nI k &&& 31)) c = nb_bit x (c + k) := by
  unfold nb_bit
  rw [nb_shr x hk, BitVec.getLsbD_sshiftRight]
  have h1 : ¬ 32 ≤ c := by omega
  have h2 : k + c < 32 := by omega
  rw [decide_eq_false h1, if_pos h2, Nat.add_comm c k]
  rfl
theorem lr_sh {x : Int64} {r : Nat} (hr : r < 8) : (((lr x r &&& (lr x r <<< ((1 : Int32) &&& 31))) &&& (lr x r >>> ((1 : Int32) &&& 31))) &&& (if r = 0 then 0 else lr x (r - 1))) &&& (if r = 7 then 0 else lr x (r + 1)) = lr (gSh x) r := by
  refine bI_ext fun c hc => ?_
  have s1 : nb_bit (lr x r <<< ((1 : Int32) &&& 31)) c = (decide (c < 32) && (decide (1 ≤ c) && nb_bit (lr x r) (c - 1))) := bI_shl (lr x r) (k := 1) (by decide) c
  rw [bI_and, bI_and, bI_and, bI_and, s1, lr_bit (r := r) (c := c), lr_bit (g := gSh x)]
  by_cases q : c < 8
  · have s2 : nb_bit (lr x r >>> ((1 : Int32) &&& 31)) c = nb_bit (lr x r) (c + 1) := bI_sshr (lr x r) (k := 1) (by decide) (by omega)
    rw [s2, lr_bit, lr_bit, bL_sh (by omega), decide_eq_true q, decide_eq_true hc]
    have m1 : (8 * r + c) % 8 = c := by omega
    rw [m1]
    have u : nb_bit (if r = 0 then (0 : Int32) else lr x (r - 1)) c = (decide (8 ≤ 8 * r + c) && nb_bitL x (8 * r + c - 8)) := by
      by_cases z : r = 0
      · rw [if_pos z, bI_0, decide_eq_false (by omega)]; rfl
      · rw [if_neg z, lr_bit, decide_eq_true q, decide_eq_true (by omega), show 8 * (r - 1) + c = 8 * r + c - 8 by omega]
    have v : nb_bit (if r = 7 then (0 : Int32) else lr x (r + 1)) c = nb_bitL x (8 * r + c + 8) := by
      by_cases z : r = 7
      · rw [if_pos z, bI_0, bL_ge (by omega)]
      · rw [if_neg z, lr_bit, decide_eq_true q, Bool.true_and, show 8 * (r + 1) + c = 8 * r + c + 8 by omega]
    rw [u, v]
    by_cases z0 : c = 0
    · subst z0; simp
    · by_cases z7 : c = 7
      · subst z7; simp
      · have a1 : 1 ≤ c := by omega
        have a2 : c - 1 < 8 := by omega
        have a3 : c + 1 < 8 := by omega
        rw [show 8 * r + (c - 1) = 8 * r + c - 1 by omega, show 8 * r + (c + 1) = 8 * r + c + 1 by omega]
        simp only [a1, a2, a3, z0, z7, decide_true, Bool.true_and, ne_eq, not_false_eq_true]
        cases nb_bitL x (8 * r + c) <;> cases nb_bitL x (8 * r + c - 1) <;> cases nb_bitL x (8 * r + c + 1) <;> cases (decide (8 ≤ 8 * r + c) && nb_bitL x (8 * r + c - 8)) <;> cases nb_bitL x (8 * r + c + 8) <;> rfl
  · rw [decide_eq_false q]; simp
theorem lr_0 {g : Int64} : (∀ r, r < 8 → lr g r = 0) ↔ g = 0 := by
  constructor
  · intro q
    refine bL_eq0 fun c hc => ?_
    have := lr_bit (g := g) (r := c / 8) (c := c % 8)
    rw [q (c / 8) (by omega), bI_0, decide_eq_true (by omega), Bool.true_and, show 8 * (c / 8) + c % 8 = c by omega] at this
    exact this.symm
  · rintro rfl r _
    refine bI_ext fun c _ => ?_
    rw [lr_bit, bL_0, bI_0]; simp
def S_own (k : Nat) : Prop := k = 135 ∨ k = 136
section SH2
variable {E : gk_E} {d : Nat} {h : gk_H} {p : Nat} {g : Int64}
theorem s_mo_takesOwn {K : gk_H → Prop} (hp : p < 10) (hg : MG h p g) (hk : ∀ h', fr (fun k => k = 135) h h' → OW h' 135 g → K h') : gk_cv E (d + 2) jmo_takesOwn [.ref 112, .int (nI p)] h K := by
  refine gk_cv_mk (x_mo_takesOwn ?_)
  rintro _ rfl
  refine lp_up (N := 8) (fun j (s : gk_H) => g_mo_takesOwn_2 E (d + 1) (gk_qv K) (nI p) (nI j) s) (fun j s => fr (fun k => k = 135) h s ∧ ∀ r, r < j → s.2.1 135 r = lr g r) ?_ ?_ 0 h (by decide) ⟨fr_rf, fun r hr => by omega⟩
  · rintro j s hj ⟨i1, i2⟩ ih
    refine x_mo_takesOwn_2 (pk_le 8 j (fun q => by omega) (fun _ => s_mo_rowAt ⟨vp_in_nI (by omega) (by decide), vp_in_nI hj (by decide), ?_⟩))
    rintro _ rfl
    rw [nI_clamp (by omega), nI_clamp (by omega), nI_1, MG_fr i1 (by decide) hg j hj]
    refine ih _ ⟨fr_tr i1 (fr_ha rfl), fun r hr => ?_⟩
    rw [ha_a]
    by_cases z : r = j
    · rw [if_pos ⟨rfl, z⟩, z]
    · rw [if_neg (fun w => z w.2)]; exact i2 r (by omega)
  · rintro s ⟨i1, i2⟩
    exact x_mo_takesOwn_2 (pk_le 8 8 (fun _ => hk s i1 i2) (fun q => by omega))
theorem s_mo_isOwnLeft {K : Int32 → gk_H → Prop} (hg : OW h 135 g) (h0 : g = 0 → K 0 h) (h1 : ¬ g = 0 → K 1 h) : gk_ci E (d + 1) jmo_isOwnLeft [.ref 112] h K := by
  refine gk_ci_mk (x_mo_isOwnLeft ?_)
  rintro _ rfl
  refine lp_up (N := 8) (fun j (_ : Unit) => g_mo_isOwnLeft_2 E d (gk_qi K) (nI j) h) (fun j _ => ∀ r, r < j → lr g r = 0) ?_ ?_ 0 () (by decide) (fun r hr => by omega)
  · intro j _ hj hi ih
    refine x_mo_isOwnLeft_2 (pk_le 8 j (fun q => by omega) (fun _ => ⟨vp_in_nI hj (by decide), ?_⟩))
    rw [nI_clamp (by omega), hg j hj]
    refine ⟨fun q => ?_, fun q => ⟨Or.inr rfl, h1 (fun z => q (lr_0.mpr z j hj))⟩⟩
    rintro _ rfl
    rw [nI_1]
    refine ih () fun r hr => ?_
    by_cases z : r = j
    · rw [z]; exact q
    · exact hi r (by omega)
  · intro _ hi
    exact x_mo_isOwnLeft_2 (pk_le 8 8 (fun _ => ⟨Or.inl rfl, h0 (lr_0.mp hi)⟩) (fun q => by omega))
theorem s_mo_shrinks {K : gk_H → Prop} (hg : OW h 135 g) (hk : ∀ h', fr S_own h h' → OW h' 135 (gSh g) → K h') : gk_cv E (d + 1) jmo_shrinks [.ref 112] h K := by
  refine gk_cv_mk (x_mo_shrinks ?_)
  rintro _ rfl
  refine lp_up (N := 8) (fun j (s : gk_H) => g_mo_shrinks_2 E d (gk_qv K) (nI j) s) (fun j s => fr S_own h s ∧ OW s 135 g ∧ ∀ r, r < j → s.2.1 136 r = lr g r) ?_ ?_ 0 h (by decide) ⟨fr_rf, hg, fun r hr => by omega⟩
  · rintro j s hj ⟨i1, i2, i3⟩ ih
    refine x_mo_shrinks_2 (pk_le 8 j (fun q => by omega) (fun _ => ⟨vp_in_nI hj (by decide), vp_in_nI hj (by decide), ?_⟩))
    rintro _ rfl _ rfl
    rw [nI_clamp (by omega), nI_1, i2 j hj]
    refine ih _ ⟨fr_tr i1 (fr_ha (Or.inr rfl)), fun r hr => ?_, fun r hr => ?_⟩
    · rw [ha_a, if_neg (fun w => absurd w.1 (by decide))]; exact i2 r hr
    · rw [ha_a]
      by_cases z : r = j
      · rw [if_pos ⟨rfl, z⟩, z]
      · rw [if_neg (fun w => z w.2)]; exact i3 r (by omega)
  · rintro s ⟨i1, i2, i3⟩
    refine x_mo_shrinks_2 (pk_le 8 8 (fun _ => ?_) (fun q => by omega))
    rintro _ rfl
    refine lp_up (N := 8) (fun j (s : gk_H) => g_mo_shrinks_28 E d (gk_qv K) (nI j) s) (fun j s => fr S_own h s ∧ OW s 136 g ∧ ∀ r, r < j → s.2.1 135 r = lr (gSh g) r) ?_ ?_ 0 s (by decide) ⟨i1, i3, fun r hr => by omega⟩
    · clear i1 i2 i3 s
      rintro j s hj ⟨i1, i2, i3⟩ ih
      have go : ∀ y : Int32, y = lr (gSh g) j → g_mo_shrinks_28 E d (gk_qv K) (nI (j + 1)) (gk_ha s 135 j y) := by
        rintro _ rfl
        refine ih _ ⟨fr_tr i1 (fr_ha (Or.inl rfl)), fun r hr => ?_, fun r hr => ?_⟩
        · rw [ha_a, if_neg (fun w => absurd w.1 (by decide))]; exact i2 r hr
        · rw [ha_a]
          by_cases z : r = j
          · rw [if_pos ⟨rfl, z⟩, z]
          · rw [if_neg (fun w => z w.2)]; exact i3 r (by omega)
      have ll := lr_sh (x := g) hj
      refine x_mo_shrinks_28 (pk_le 8 j (fun q => by omega) (fun _ => ⟨vp_in_nI hj (by decide), vp_in_nI hj (by decide), vp_in_nI hj (by decide), ?_⟩))
      rw [nI_clamp (n := j) (by omega), i2 j hj]
      refine ⟨fun q0 => ?_, fun q0 => ?_⟩
      · have z0 : ¬ j = 0 := fun z => q0 (by rw [z]; rfl)
        have e1 : nI j - 1 = nI (j - 1) := pk_sub (b := 1) (by omega)
        rw [e1, nI_clamp (by omega), i2 (j - 1) (by omega)]
        refine ⟨vp_in_nI (by omega) (by decide), fun q7 => ?_, fun q7 => ⟨vp_in_nI hj (by decide), ?_⟩⟩
        · have z7 : ¬ j = 7 := fun z => q7 (by rw [z]; rfl)
          rw [nI_1, nI_clamp (by omega), i2 (j + 1) (by omega)]
          refine ⟨vp_in_nI (by omega) (by decide), vp_in_nI hj (by decide), ?_⟩
          rintro _ rfl _ rfl
          exact go _ (by rw [← ll, if_neg z0, if_neg z7])
        · have z7 : j = 7 := (nI_eq (b := 7) (by omega) (by decide)).mp q7
          rintro _ rfl _ rfl
          rw [nI_1]
          exact go _ (by rw [← ll, if_neg z0, if_pos z7])
      · have z0 : j = 0 := (nI_eq (b := 0) (by omega) (by decide)).mp q0
        refine ⟨fun q7 => ?_, fun q7 => absurd ((nI_eq (b := 7) (by omega) (by decide)).mp q7) (by omega)⟩
        have z7 : ¬ j = 7 := by omega
        rw [nI_1, nI_clamp (by omega), i2 (j + 1) (by omega)]
        refine ⟨vp_in_nI (by omega) (by decide), vp_in_nI hj (by decide), ?_⟩
        rintro _ rfl _ rfl
        exact go _ (by rw [← ll, if_pos z0, if_neg z7])
    · rintro s ⟨i1, i2, i3⟩
      exact x_mo_shrinks_28 (pk_le 8 8 (fun _ => hk s i1 i3) (fun q => by omega))
theorem s_mo_depthOf {K : Int32 → gk_H → Prop} {n : Nat} (hp : p < 10) (hg : MG h p g) (h8 : n ≤ 8) (hz : gShN g n = 0) (hl : ∀ i, i < n → ¬ gShN g i = 0) (hk : ∀ h', fr S_own h h' → K (nI n) h') : gk_ci E (d + 3) jmo_depthOf [.ref 112, .int (nI p)] h K := by
  refine gk_ci_mk (x_mo_depthOf (s_mo_takesOwn hp hg (fun h' a1 a2 => ?_)))
  rintro _ rfl
  refine lp_up (N := n) (fun j (s : gk_H) => g_mo_depthOf_7 E (d + 2) (gk_qi K) (nI j) s) (fun j s => fr S_own h s ∧ OW s 135 (gShN g j)) ?_ ?_ 0 h' (Nat.zero_le _) ⟨fr_mo a1 (fun k q => Or.inl q), a2⟩
  · rintro j s hj ⟨i1, i2⟩ ih
    refine x_mo_depthOf_7 (s_mo_isOwnLeft i2 (fun q => absurd q (hl j hj)) (fun _ => yF (by decide) (s_mo_shrinks i2 (fun h2 b1 b2 => ?_))))
    rintro _ rfl
    rw [nI_1]
    exact ih h2 ⟨fr_tr i1 b1, b2⟩
  · rintro s ⟨i1, i2⟩
    exact x_mo_depthOf_7 (s_mo_isOwnLeft i2 (fun _ => yT rfl (hk s i1)) (fun q => absurd hz q))
end SH2
section HAS
variable {E : gk_E} {d n p : Nat} {h : gk_H} {K : Int32 → gk_H → Prop} {a : Int32}
theorem s_wh1 (hn : n ≤ 10) (e : h.1 1 0 = nI n) (hp : p < n) (hk : K 1 h) : gk_ci E (d + 1) jwo_has [.ref 1, .int (nI p)] h K := s_wo_has_1 hn e (fun q => absurd ⟨p, hp, rfl⟩ q) (fun _ _ _ => hk)
theorem s_wh0 (hn : n ≤ 10) (e : h.1 1 0 = nI n) (hp : ¬ ∃ q, q < n ∧ a = nI q) (hk : K 0 h) : gk_ci E (d + 1) jwo_has [.ref 1, .int a] h K := s_wo_has_1 hn e (fun _ => hk) (fun q q1 q2 => absurd ⟨q, q1, q2⟩ hp)
theorem s_mp1 (hn : n ≤ 10) (e : h.1 112 6 = nI n) (hp : p < n) (hk : K 1 h) : gk_ci E (d + 1) jmo_isPlace [.ref 112, .int (nI p)] h K := s_mo_isPlace hn e (fun q => absurd ⟨p, hp, rfl⟩ q) (fun _ _ _ => hk)
theorem s_mp0 (hn : n ≤ 10) (e : h.1 112 6 = nI n) (hp : ¬ ∃ q, q < n ∧ a = nI q) (hk : K 0 h) : gk_ci E (d + 1) jmo_isPlace [.ref 112, .int a] h K := s_mo_isPlace hn e (fun _ => hk) (fun q q1 q2 => absurd ⟨q, q1, q2⟩ hp)
end HAS
theorem Qs_134 {h h' : gk_H} {S : Nat → Prop} (hS : ∀ k, S k → 131 ≤ k ∧ k ≤ 143) (a : fr S h h') : Qs h h' := Qs_fr (fr_mo a (fun k q => by have := hS k q; unfold scr; omega))
theorem lc_shape {E : gk_E} {d : Nat} (a0 a1 : Int32) : lc_ok E (d + 6) InvX jdp_shape jmo_shape [.int a0, .int a1] := by
  refine lc_q fun n w T X hn hw0 hg hT => ?_
  by_cases ha : ∃ q, q < n ∧ a0 = nI q
  · obtain ⟨p, hp, rfl⟩ := ha
    have hc : ∀ (r : Int32), (∀ (h : gk_H) (K : Int32 → gk_H → Prop), K r h → ((a1 = (0 : Int32) → gk_ci E (d + 5) jjl_bitCount [.long (w.2.1 p)] h K) ∧ (¬ a1 = (0 : Int32) → (a1 = (1 : Int32) → gk_ci E (d + 5) jgr_edges [.long (w.2.1 p)] h K) ∧ (¬ a1 = (1 : Int32) → (a1 = (2 : Int32) → gk_ci E (d + 5) jgr_parts [.long (w.2.1 p)] h K) ∧ (¬ a1 = (2 : Int32) → (a1 = (3 : Int32) → gk_ci E (d + 5) jgr_holes [.long (w.2.1 p)] h K) ∧ (¬ a1 = (3 : Int32) → (a1 = (4 : Int32) → gk_ci E (d + 5) jgr_depth [.long (w.2.1 p)] h K) ∧ (¬ a1 = (4 : Int32) → K (-1) h))))))) → ∀ (h : gk_H) (K : Int32 → gk_H → Prop), Vw h n w T X → (∀ h', Qs h h' → K r h') → gk_ci E (d + 6) jdp_shape (.ref 0 :: [.int (nI p), .int a1]) h K := by
      intro r hr h K v k
      refine gk_ci_mk (x_dp_shape (s_wh1 hn (Vw_n v) hp (zF (by decide) ⟨vp_in_nI (by omega) (by decide), ?_⟩)))
      rintro _ rfl
      rw [nI_clamp (by omega), Vw_d v (by omega)]
      exact hr h K (k h Qs_rf)
    have hm : ∀ (r : Int32), (∀ (h : gk_H) (K : Int32 → gk_H → Prop), MG h p (w.2.1 p) → (∀ h', Qs h h' → K r h') → ((¬ a1 = 0 → ((¬ a1 = (1 : Int32) → ((¬ a1 = (2 : Int32) → ((¬ a1 = (3 : Int32) → ((¬ a1 = (4 : Int32) → K (-1) h) ∧ (a1 = (4 : Int32) → gk_ci E (d + 5) jmo_depthOf [.ref 112, .int (nI p)] h K))) ∧ (a1 = (3 : Int32) → gk_ci E (d + 5) jmo_holesOf [.ref 112, .int (nI p)] h K))) ∧ (a1 = (2 : Int32) → gk_ci E (d + 5) jmo_islandsOf [.ref 112, .int (nI p)] h K))) ∧ (a1 = (1 : Int32) → gk_ci E (d + 5) jmo_edgesOf [.ref 112, .int (nI p)] h K))) ∧ (a1 = 0 → gk_ci E (d + 5) jmo_dryOf [.ref 112, .int (nI p)] h K))) → ∀ (h : gk_H) (K : Int32 → gk_H → Prop), Vw h n w T X → (∀ h', Qs h h' → K r h') → gk_ci E (d + 6) jmo_shape (.ref 112 :: [.int (nI p), .int a1]) h K := by
      intro r hr h K v k
      have v2 := Vw_Qs (Qs_t (x := 0)) v
      refine gk_ci_mk (x_mo_shape (s_mp1 hn v2.1.2.2 hp (zF (by decide) ?_)))
      exact hr _ K (Vw_mp v2 (by omega)).2.2.2.2 (fun h' q => k h' (Qs_tr Qs_t q))
    by_cases q0 : a1 = 0
    · exact ⟨nI (nb_onesL (w.2.1 p)), hc _ (fun h K k => yT q0 (s_jl_bitCount k)), hm _ (fun h K m k => zT q0 (s_mo_dryOf (by omega) m (k h Qs_rf)))⟩
    by_cases q1 : a1 = 1
    · exact ⟨nI (edg (nb_bitL (w.2.1 p))), hc _ (fun h K k => yF q0 (yT q1 (s_gr_edges k))), hm _ (fun h K m k => zF q0 (zT q1 (s_mo_edgesOf (by omega) m (k h Qs_rf))))⟩
    by_cases q2 : a1 = 2
    · exact ⟨nI (nb_cnt (leadB (nb_bitL (w.2.1 p))) 64), hc _ (fun h K k => yF q0 (yF q1 (yT q2 (s_gr_parts k)))), hm _ (fun h K m k => zF q0 (zF q1 (zT q2 (s_mo_islandsOf (by omega) m (fun h' a => k h' (Qs_134 (fun k q => by omega) a))))))⟩
    by_cases q3 : a1 = 3
    · exact ⟨nI (holN (nb_bitL (w.2.1 p ^^^ -1))), hc _ (fun h K k => yF q0 (yF q1 (yF q2 (yT q3 (s_gr_holes k))))), hm _ (fun h K m k => zF q0 (zF q1 (zF q2 (zT q3 (s_mo_holesOf (by omega) m (fun h' a => k h' (Qs_134 (fun k q => by omega) a)))))))⟩
    by_cases q4 : a1 = 4
    · obtain ⟨e, e1, e2, e3⟩ := dep_ex (w.2.1 p)
      exact ⟨nI e, hc _ (fun h K k => yF q0 (yF q1 (yF q2 (yF q3 (yT q4 (s_gr_depth e1 e2 e3 k)))))), hm _ (fun h K m k => zF q0 (zF q1 (zF q2 (zF q3 (zT q4 (s_mo_depthOf (by omega) m e1 e2 e3 (fun h' a => k h' (Qs_134 (fun k q => by unfold S_own at q; omega) a))))))))⟩
    · exact ⟨-1, hc _ (fun h K k => yF q0 (yF q1 (yF q2 (yF q3 (yF q4 k))))), hm _ (fun h K m k => zF q0 (zF q1 (zF q2 (zF q3 (zF q4 (k h Qs_rf))))))⟩
  · refine ⟨-1, fun h K v k => ?_, fun h K v k => ?_⟩
    · exact gk_ci_mk (x_dp_shape (s_wh0 hn (Vw_n v) ha (zT rfl (k h Qs_rf))))
    · exact gk_ci_mk (x_mo_shape (s_mp0 hn (Vw_Qs (Qs_t (x := 0)) v).1.2.2 ha (zT rfl (k _ Qs_t))))
