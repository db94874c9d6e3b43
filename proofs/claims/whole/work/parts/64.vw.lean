/-! what a question sees; questions on both sides -/
theorem yT {P A B : Prop} (p : P) (a : A) : (P → A) ∧ (¬ P → B) := ⟨fun _ => a, fun q => absurd p q⟩
theorem yF {P A B : Prop} (p : ¬ P) (b : B) : (P → A) ∧ (¬ P → B) := ⟨fun q => absurd q p, fun _ => b⟩
theorem zT {P A B : Prop} (p : P) (b : B) : (¬ P → A) ∧ (P → B) := ⟨fun q => absurd p q, fun _ => b⟩
theorem zF {P A B : Prop} (p : ¬ P) (a : A) : (¬ P → A) ∧ (P → B) := ⟨fun _ => a, fun q => absurd q p⟩
theorem in1 {lo v hi : Int32} (c : lo ≤ v ∧ v ≤ hi) : nb_b (decide (lo ≤ v) && decide (v ≤ hi)) = 1 := by rw [decide_eq_true c.1, decide_eq_true c.2]; rfl
theorem in0 {lo v hi : Int32} (c : ¬ (lo ≤ v ∧ v ≤ hi)) : nb_b (decide (lo ≤ v) && decide (v ≤ hi)) = 0 := by
  by_cases q1 : lo ≤ v
  · have q2 : ¬ v ≤ hi := fun q => c ⟨q1, q⟩
    rw [decide_eq_false q2, Bool.and_false]; rfl
  · rw [decide_eq_false q1]; rfl
section INS
variable {E : gk_E} {d : Nat} {h : gk_H} {K : Int32 → gk_H → Prop} {v lo hi : Int32}
theorem s_wi1 (c : lo ≤ v ∧ v ≤ hi) (hk : K 1 h) : gk_ci E (d + 1) jdp_isWithin [.int v, .int lo, .int hi] h K := s_dp_isWithin (by rw [in1 c]; exact hk)
theorem s_wi0 (c : ¬ (lo ≤ v ∧ v ≤ hi)) (hk : K 0 h) : gk_ci E (d + 1) jdp_isWithin [.int v, .int lo, .int hi] h K := s_dp_isWithin (by rw [in0 c]; exact hk)
theorem s_in1 (c : lo ≤ v ∧ v ≤ hi) (hk : K 1 h) : gk_ci E (d + 1) jmo_isIn [.ref 112, .int v, .int lo, .int hi] h K := s_mo_isIn (by rw [in1 c]; exact hk)
theorem s_in0 (c : ¬ (lo ≤ v ∧ v ≤ hi)) (hk : K 0 h) : gk_ci E (d + 1) jmo_isIn [.ref 112, .int v, .int lo, .int hi] h K := s_mo_isIn (by rw [in0 c]; exact hk)
theorem s_rm1 (c : (0 : Int32) ≤ v ∧ v ≤ 5) (hk : K 1 h) : gk_ci E (d + 2) jdp_isRoom [.int v] h K := gk_ci_mk (x_dp_isRoom (s_wi1 c ⟨Or.inr rfl, hk⟩))
theorem s_rm0 (c : ¬ ((0 : Int32) ≤ v ∧ v ≤ 5)) (hk : K 0 h) : gk_ci E (d + 2) jdp_isRoom [.int v] h K := gk_ci_mk (x_dp_isRoom (s_wi0 c ⟨Or.inl rfl, hk⟩))
theorem s_ce1 (c : (0 : Int32) ≤ v ∧ v ≤ 63) (hk : K 1 h) : gk_ci E (d + 2) jdp_isCell [.int v] h K := gk_ci_mk (x_dp_isCell (s_wi1 c ⟨Or.inr rfl, hk⟩))
theorem s_ce0 (c : ¬ ((0 : Int32) ≤ v ∧ v ≤ 63)) (hk : K 0 h) : gk_ci E (d + 2) jdp_isCell [.int v] h K := gk_ci_mk (x_dp_isCell (s_wi0 c ⟨Or.inl rfl, hk⟩))
theorem s_mc1 (c : (0 : Int32) ≤ v ∧ v ≤ 63) (hk : K 1 h) : gk_ci E (d + 1) jmo_isCell [.ref 112, .int v] h K := by
  refine gk_ci_mk (x_mo_isCell (yF (Int32.not_lt.mpr c.1) (yF ?_ ⟨Or.inr rfl, hk⟩)))
  intro q
  exact absurd (Int32.le_trans q c.2) (by decide)
theorem s_mc0 (c : ¬ ((0 : Int32) ≤ v ∧ v ≤ 63)) (hk : K 0 h) : gk_ci E (d + 1) jmo_isCell [.ref 112, .int v] h K := by
  refine gk_ci_mk (x_mo_isCell ⟨fun _ => ⟨Or.inl rfl, hk⟩, fun q => ⟨fun _ => ⟨Or.inl rfl, hk⟩, fun q2 => ?_⟩⟩)
  obtain ⟨j, hj, rfl⟩ := nI_of q
  exact absurd ⟨nI_pos' hj, nI_le (b := 63) (by
    have : ¬ 64 ≤ j := fun z => q2 (nI_le (a := 64) z hj)
    omega) (by decide)⟩ c
end INS
theorem of05 {v : Int32} {N : Nat} (hN : N < 2 ^ 31) (c : (0 : Int32) ≤ v ∧ v ≤ nI N) : ∃ i, i ≤ N ∧ v = nI i := nI_of2 (nI_toInt hN) (Int32.not_lt.mpr c.1) c.2
theorem bI_ge {x : Int32} {c : Nat} (h : 32 ≤ c) : nb_bit x c = false := BitVec.getLsbD_of_ge _ _ h
theorem bI_ext {x y : Int32} (h : ∀ c, c < 32 → nb_bit x c = nb_bit y c) : x = y := Int32.toBitVec_inj.mp (BitVec.eq_of_getLsbD_eq fun i hi => h i hi)
theorem bI_and (x y : Int32) (c : Nat) : nb_bit (x &&& y) c = (nb_bit x c && nb_bit y c) := by unfold nb_bit; rw [Int32.toBitVec_and, BitVec.getLsbD_and]
theorem bI_or (x y : Int32) (c : Nat) : nb_bit (x ||| y) c = (nb_bit x c || nb_bit y c) := by unfold nb_bit; rw [Int32.toBitVec_or, BitVec.getLsbD_or]
theorem bI_xor (x y : Int32) (c : Nat) : nb_bit (x ^^^ y) c = (nb_bit x c ^^ nb_bit y c) := by unfold nb_bit; rw [Int32.toBitVec_xor, BitVec.getLsbD_xor]
theorem bI_m1 : ∀ c, c < 32 → nb_bit (-1 : Int32) c = true := by decide +kernel
theorem bI_not (x : Int32) (c : Nat) : nb_bit (x ^^^ (-1 : Int32)) c = (decide (c < 32) && !nb_bit x c) := by
  rw [bI_xor]
  by_cases q : c < 32
  · rw [bI_m1 c q, decide_eq_true q]; cases nb_bit x c <;> rfl
  · rw [bI_ge (x := x) (by omega), bI_ge (x := -1) (by omega), decide_eq_false q]; rfl
theorem bI_0 (c : Nat) : nb_bit 0 c = false := by
  have : ∀ c, c < 32 → nb_bit 0 c = false := by decide +kernel
  by_cases q : c < 32
  · exact this c q
  · exact bI_ge (by omega)
theorem bI_shl (x : Int32) {k : Nat} (hk : k < 32) (c : Nat) : nb_bit (x <<< (nI k &&& 31)) c = (decide (c < 32) && (decide (k ≤ c) && nb_bit x (c - k))) := by
  unfold nb_bit
  rw [nb_shl x hk, BitVec.getLsbD_shiftLeft]
  by_cases q : c < k
  · have : ¬ k ≤ c := by omega
    simp [q, this]
  · have : k ≤ c := by omega
    simp [q, this]
theorem bI_1 : ∀ c, nb_bit 1 c = decide (c = 0) := by
  intro c
  have : ∀ c, c < 32 → nb_bit 1 c = decide (c = 0) := by decide +kernel
  by_cases q : c < 32
  · exact this c q
  · rw [bI_ge (by omega)]; exact (decide_eq_false (by omega)).symm
theorem bI_one {k : Nat} (hk : k < 32) (c : Nat) : nb_bit ((1 : Int32) <<< (nI k &&& 31)) c = decide (c = k) := by
  rw [bI_shl 1 hk, bI_1]
  by_cases q : c = k
  · subst q; simp [hk]
  · rw [decide_eq_false q]
    by_cases q2 : k ≤ c
    · rw [decide_eq_false (p := c - k = 0) (by omega)]; simp
    · simp [q2]
theorem nb_has0 (x : Int32) {k : Nat} (hk : k < 32) : ((x >>> (nI k &&& 31)) &&& 1 = 0) ↔ nb_bit x k = false := by
  constructor
  · intro q
    cases e : nb_bit x k with
    | false => rfl
    | true => rw [(nb_has x hk).mpr e] at q; exact absurd q (by decide)
  · intro q
    refine bI_ext fun c _ => ?_
    rw [bI_0, bI_and, bI_1]
    by_cases z : c = 0
    · subst z
      have : nb_bit (x >>> (nI k &&& 31)) 0 = nb_bit x k := by
        unfold nb_bit
        rw [nb_shr x hk, BitVec.getLsbD_sshiftRight]
        simp [hk]
      rw [this, q]; rfl
    · simp [z]
theorem s_wo_isOwned_1 {E : gk_E} {d : Nat} {h : gk_H} {K : Int32 → gk_H → Prop} {p : Nat} (hp : p < 32) (hk : K (nb_b (nb_bit (h.1 1 1) p)) h) : gk_ci E (d + 1) jwo_isOwned [.ref 1, .int (nI p)] h K := by
  refine gk_ci_mk (x_wo_isOwned_1 ?_)
  unfold w_wo_isOwned_1
  rw [nb_has0 _ hp]
  refine ⟨fun q => ⟨Or.inl rfl, ?_⟩, fun q => ⟨Or.inr rfl, ?_⟩⟩
  · rw [q] at hk; exact hk
  · rw [Bool.not_eq_false] at q; rw [q] at hk; exact hk
/-! scratch -/
def scr (k : Nat) : Prop := k = 77 ∨ k = 78 ∨ (80 ≤ k ∧ k ≤ 86) ∨ k = 88 ∨ (90 ≤ k ∧ k ≤ 92) ∨ k = 112 ∨ k = 115 ∨ (131 ≤ k ∧ k ≤ 143)
def Qs (h h' : gk_H) : Prop := fr scr h h' ∧ ∀ s, ¬ s = 0 → h'.1 112 s = h.1 112 s
theorem Qs_rf {h : gk_H} : Qs h h := ⟨fr_rf, fun _ _ => rfl⟩
theorem Qs_tr {h1 h2 h3 : gk_H} (a : Qs h1 h2) (b : Qs h2 h3) : Qs h1 h3 := ⟨fr_tr a.1 b.1, fun s hs => (b.2 s hs).trans (a.2 s hs)⟩
theorem Qs_t {h : gk_H} {x : Int32} : Qs h (gk_hf h 112 0 x) := ⟨fr_hf (by unfold scr; omega), fun s hs => by rw [hf_f, if_neg (fun q => hs q.2)]⟩
theorem Qs_fr {h h' : gk_H} (a : fr (fun k => scr k ∧ ¬ k = 112) h h') : Qs h h' := ⟨fr_mo a (fun _ q => q.1), fun s _ => by rw [(a 112 (fun q => q.2 rfl)).1]⟩
def Vw (h : gk_H) (n : Nat) (w : gk_WV) (T : gT) (X : Nat × Int32 × Int32) : Prop := (n ≤ 10 ∧ w.1 0 = nI n ∧ h.1 112 6 = nI n) ∧ goodW w ∧ wv h 1 = w ∧ wRel goodW (w.1 0, w.2.2.1) w (rv h 113 0) ∧ (∀ p, p < 10 → h.2.1 116 p = w.2.2.1 p) ∧ okT n T ∧ CT h 7 19 T ∧ MTl h T ∧ (X.1 ≤ 6 ∧ h.1 20 2 = nI X.1 ∧ h.1 112 3 = nI X.1) ∧ (h.1 63 2 = X.2.1 ∧ h.1 112 30 = X.2.1 ∧ h.1 63 3 = X.2.2 ∧ h.1 112 31 = X.2.2) ∧ h.1 112 5 = 0
theorem Vw_of {h : gk_H} (I : InvX h) : ∃ n w T X, Vw h n w T X := by
  obtain ⟨c, f, n, ws, rs, hc, hm, hr, hw, ⟨m, T, l1, l2, l3, l4, l5⟩, ht, ⟨f1, f2⟩, i5, wr, im⟩ := I
  have e1 : (wv h 1).1 0 = c.1 := hw.1.1
  have e2 : (wv h 1).2.2.1 = c.2 := hw.1.2
  refine ⟨m, wv h 1, T, (n, h.1 112 30, h.1 112 31), ⟨l1.1, e1.trans l1.2.1, l1.2.2⟩, hw.2.1, rfl, ?_, ?_, l3, l4, l5, ⟨hc.2.1, hc.2.2.2.1, hm.2.1⟩, ⟨f1, rfl, f2, rfl⟩, i5⟩
  · rw [e1, e2]; exact hw
  · rw [e2]; exact l2
theorem Inv_Qs {h h' : gk_H} (q : Qs h h') (I : InvX h) : InvX h' := by
  obtain ⟨c, f, n, ws, rs, hc, hm, hr, hw, hrest⟩ := I
  refine ⟨c, f, n, ws, rs, cU_fr (S := scr) (fun k hk q => ?_) q.1 hc, mU_of (q.2 3 (by decide)) (q.1 114 (by unfold scr; omega)).2.1 hm, hr, ?_, Rest_fr (S := scr) (fun k hk => ?_) q.1 (same112_of fun s h0 _ => q.2 s h0) hrest⟩
  · rcases hk with z | z
    · subst z; unfold scr at q; omega
    · unfold scr at q; omega
  · rw [wv_fr q.1 (fun i hi z => by unfold scr at z; omega)]
    have : rv h' 113 0 = rv h 113 0 := rv_eq fun j _ => by rw [(q.1 113 (by unfold scr; omega)).2.1]
    rw [this]; exact hw
  · unfold scr at hk; unfold free; omega
theorem Vw_Qs {h h' : gk_H} {n : Nat} {w : gk_WV} {T : gT} {X : Nat × Int32 × Int32} (q : Qs h h') (v : Vw h n w T X) : Vw h' n w T X := by
  obtain ⟨⟨a1, a2, a3⟩, a4, a5, a6, a7, a8, a9, a10, ⟨b1, b2, b3⟩, ⟨c1, c2, c3, c4⟩, c5⟩ := v
  have e : ∀ k, ¬ scr k → eqc h h' k := q.1
  have er : rv h' 113 0 = rv h 113 0 := rv_eq fun j _ => by rw [(q.1 113 (by unfold scr; omega)).2.1]
  refine ⟨⟨a1, a2, (q.2 6 (by decide)).trans a3⟩, a4, (wv_fr q.1 (fun i hi z => by unfold scr at z; omega)).trans a5, by rw [er]; exact a6, by rw [(e 116 (by unfold scr; omega)).2.1]; exact a7, a8, CT_eq (fun i h1 h2 => e _ (by unfold scr; omega)) (e 19 (by unfold scr; omega)).2.1 a9, MTl_eq (fun k h1 h2 => (e k (by unfold scr; omega)).2.1) (q.2 _ (by decide)) (q.2 _ (by decide)) (q.2 _ (by decide)) a10, ⟨b1, by rw [(e 20 (by unfold scr; omega)).1]; exact b2, (q.2 _ (by decide)).trans b3⟩, ⟨by rw [(e 63 (by unfold scr; omega)).1]; exact c1, (q.2 _ (by decide)).trans c2, by rw [(e 63 (by unfold scr; omega)).1]; exact c3, (q.2 _ (by decide)).trans c4⟩, (q.2 _ (by decide)).trans c5⟩
/-- a question: both sides answer r, and only scratch changes -/
theorem lc_q {E : gk_E} {d jc jm : Nat} {as : List Value} (H : ∀ n w T X, n ≤ 10 → w.1 0 = nI n → goodW w → okT n T → ∃ r : Int32, (∀ h (K : Int32 → gk_H → Prop), Vw h n w T X → (∀ h', Qs h h' → K r h') → gk_ci E d jc (.ref 0 :: as) h K) ∧ (∀ h (K : Int32 → gk_H → Prop), Vw h n w T X → (∀ h', Qs h h' → K r h') → gk_ci E d jm (.ref 112 :: as) h K)) : lc_ok E d InvX jc jm as := by
  intro h I
  obtain ⟨n, w, T, X, v⟩ := Vw_of I
  obtain ⟨r, hc, hm⟩ := H n w T X v.1.1 v.1.2.1 v.2.1 v.2.2.2.2.2.1
  refine ⟨fun r1 h1 => r1 = r ∧ Qs h h1, fun K1 hK => hc h K1 v (fun h' q => hK _ _ ⟨rfl, q⟩), fun r1 h1 hM K2 hK => ?_⟩
  obtain ⟨rfl, q⟩ := hM
  exact hm h1 K2 (Vw_Qs q v) (fun h' q' => hK _ (Inv_Qs (Qs_tr q q') I))
section VWA
variable {h : gk_H} {n : Nat} {w : gk_WV} {T : gT} {X : Nat × Int32 × Int32}
theorem Vw_n (v : Vw h n w T X) : h.1 1 0 = nI n := by
  have e := v.2.2.1
  have := v.1.2.1
  rw [← e] at this
  exact this
theorem Vw_f (v : Vw h n w T X) {s : Nat} (hs : s < 8) : h.1 1 s = w.1 s := by
  rw [← v.2.2.1]; exact (if_pos hs).symm
theorem Vw_d (v : Vw h n w T X) {p : Nat} (hp : p < 10) : h.2.2 2 p = w.2.1 p := by
  rw [← v.2.2.1]; exact (if_pos hp).symm
theorem Vw_y (v : Vw h n w T X) {p : Nat} (hp : p < 10) : h.2.1 3 p = w.2.2.1 p := by
  rw [← v.2.2.1]; exact (if_pos hp).symm
theorem Vw_h (v : Vw h n w T X) {p : Nat} (hp : p < 10) : h.2.1 4 p = w.2.2.2.1 p := by
  rw [← v.2.2.1]; exact (if_pos hp).symm
theorem Vw_p (v : Vw h n w T X) {p : Nat} (hp : p < 10) : h.2.1 5 p = w.2.2.2.2.1 p := by
  rw [← v.2.2.1]; exact (if_pos hp).symm
theorem Vw_l (v : Vw h n w T X) {p : Nat} (hp : p < 6) : h.2.1 6 p = w.2.2.2.2.2 p := by
  rw [← v.2.2.1]; exact (if_pos hp).symm
theorem rv_at {j : Nat} (hj : j < 131) : rv h 113 0 j = h.2.1 113 j := by
  unfold rv; rw [if_pos hj, Nat.zero_add]
theorem Vw_m0 (v : Vw h n w T X) : h.2.1 113 0 = w.1 5 ∧ h.2.1 113 1 = w.1 6 ∧ h.2.1 113 2 = w.1 7 ∧ h.2.1 113 3 = w.1 3 ∧ h.2.1 113 4 = w.1 4 := by
  obtain ⟨-, -, r1, r2, r3, r4, r5, -, -⟩ := v.2.2.2.1
  rw [rv_at (by decide)] at r1 r2 r3 r4 r5
  exact ⟨r1, r2, r3, r4, r5⟩
theorem Vw_ml (v : Vw h n w T X) {r : Nat} (hr : r < 6) : h.2.1 113 (5 + r) = w.2.2.2.2.2 r := by
  obtain ⟨-, -, r1, r2, r3, r4, r5, r6, -⟩ := v.2.2.2.1
  have := r6 r hr
  rwa [rv_at (by omega)] at this
theorem Vw_mp (v : Vw h n w T X) {p : Nat} (hp : p < 10) : h.2.1 113 (11 + p) = w.2.2.2.1 p + 1 ∧ h.2.1 113 (21 + p) = nb_b (nb_bit (w.1 1) p) ∧ h.2.1 113 (31 + p) = nb_b (nb_bit (w.1 2) p) ∧ h.2.1 113 (41 + p) = w.2.2.2.2.1 p ∧ MG h p (w.2.1 p) := by
  obtain ⟨-, -, r1, r2, r3, r4, r5, r6, r7⟩ := v.2.2.2.1
  obtain ⟨a1, a2, a3, a4, a5⟩ := r7 p hp
  rw [rv_at (by omega)] at a1 a2 a3 a4
  refine ⟨a1, a2, a3, a4, fun r hr => ?_⟩
  have := a5 r hr
  rwa [rv_at (by omega)] at this
end VWA
