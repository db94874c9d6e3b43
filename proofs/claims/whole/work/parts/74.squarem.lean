/-! squares and rounds, reference; square -/
theorem msk : ∀ s, s ≤ 8 → ∀ j, j < 32 → nb_bit (((1 : Int32) <<< (nI s &&& 31)) - 1) j = decide (j < s) := by decide +kernel
theorem and_full {y M : Int32} {s : Nat} (hs : s ≤ 32) (hM : ∀ j, j < 32 → nb_bit M j = decide (j < s)) : y &&& M = M ↔ ∀ j, j < s → nb_bit y j = true := by
  constructor
  · intro q j hj
    have e := bI_and y M j
    rw [q, hM j (by omega), decide_eq_true hj, Bool.and_true] at e
    exact e.symm
  · intro q
    refine bI_ext fun j hj => ?_
    rw [bI_and, hM j hj]
    by_cases z : j < s
    · rw [q j z]; rfl
    · simp [z]
section SQ2
variable {E : gk_E} {d : Nat} {h : gk_H} {p : Nat} {g : Int64}
theorem s_mo_isSquare {K : Int32 → gk_H → Prop} {c s : Nat} (hp : p < 10) (hg : MG h p g) (hc : c < 64) (h1 : 1 ≤ s) (h8 : s ≤ 8) (hk : K (nb_b (nb_bitL (gSqN g (s - 1)) c)) h) : gk_ci E (d + 2) jmo_isSquare [.ref 112, .int (nI p), .int (nI c), .int (nI s)] h K := by
  have e1 : nI c / 8 = nI (c / 8) := pk_div (d := 8) (by omega) (by omega) (by omega)
  have e2 : nI c - nI c / 8 * 8 = nI (c % 8) := pk_rem (d := 8) (by omega) (by omega) (by omega)
  have bq : nb_bitL (gSqN g (s - 1)) c = true ↔ sqP (nb_bitL g) c s := by
    have := bL_sq (x := g) (n := s - 1) hc
    rwa [show s - 1 + 1 = s by omega] at this
  have no : ¬ sqP (nb_bitL g) c s → ((0 : Int32) = 0 ∨ (0 : Int32) = 1) ∧ K 0 h := by
    intro q
    have : nb_bitL (gSqN g (s - 1)) c = false := by
      cases e : nb_bitL (gSqN g (s - 1)) c with
      | false => rfl
      | true => exact absurd (bq.mp e) q
    rw [this] at hk
    exact ⟨Or.inl rfl, hk⟩
  refine gk_ci_mk (x_mo_isSquare ?_)
  unfold w_mo_isSquare
  rw [e2, e1]
  refine ⟨by decide, fe ⟨by decide, ?_⟩⟩
  rw [nI_add, nI_add]
  refine pk_lt 8 (c / 8 + s) (fun q => no (fun z => by have := z.1; omega)) (fun q => pk_le (c % 8 + s) 8 (fun q2 => ⟨by decide, fe ?_⟩) (fun q2 => no (fun z => by have := z.2.1; omega)))
  refine lp_up (N := s) (fun i (_ : Unit) => g_mo_isSquare_34 E (d + 1) (gk_qi K) (nI p) (nI c) (nI s) (nI (c % 8)) (nI (c / 8 + i)) h) (fun i _ => ∀ i' j, i' < i → j < s → nb_bitL g (c + 8 * i' + j) = true) ?_ ?_ 0 () (Nat.zero_le _) (fun i' j z _ => by omega)
  · intro i _ hi hI ih
    refine x_mo_isSquare_34 ⟨by decide, ?_⟩
    rw [e1, nI_add]
    refine pk_le (c / 8 + s) (c / 8 + i) (fun q => by omega) (fun _ => s_mo_rowAt ⟨vp_in_nI (by omega) (by decide), ?_⟩)
    rw [nI_clamp (by omega), hg (c / 8 + i) (by omega), and_full (by omega) (msk s h8)]
    have key : (∀ j, j < s → nb_bit (lr g (c / 8 + i) >>> (nI (c % 8) &&& 31)) j = true) ↔ ∀ j, j < s → nb_bitL g (c + 8 * i + j) = true := by
      constructor
      · intro z j hj
        have := z j hj
        rw [bI_sshr _ (by omega) (by omega), lr_bit, decide_eq_true (by omega), Bool.true_and, show 8 * (c / 8 + i) + (j + c % 8) = c + 8 * i + j by omega] at this
        exact this
      · intro z j hj
        rw [bI_sshr _ (by omega) (by omega), lr_bit, decide_eq_true (by omega), Bool.true_and, show 8 * (c / 8 + i) + (j + c % 8) = c + 8 * i + j by omega]
        exact z j hj
    rw [key]
    refine ⟨fun z => fe ?_, fun z => no (fun y => z (fun j hj => y.2.2 i j hi hj))⟩
    rw [nI_1, Nat.add_assoc]
    refine ih () fun i' j h1 h2 => ?_
    by_cases y : i' = i
    · rw [y]; exact z j h2
    · exact hI i' j (by omega) h2
  · intro _ hI
    refine x_mo_isSquare_34 ⟨by decide, ?_⟩
    rw [e1, nI_add]
    refine pk_le (c / 8 + s) (c / 8 + s) (fun _ => ⟨Or.inr rfl, ?_⟩) (fun q => by omega)
    rw [bq.mpr ⟨by omega, by omega, hI⟩] at hk
    exact hk
theorem s_mo_firstSquare {K : Int32 → gk_H → Prop} {s : Nat} (hp : p < 10) (hg : MG h p g) (h1 : 1 ≤ s) (h8 : s ≤ 8) (k0 : gSqN g (s - 1) = 0 → K (-1) h) (k1 : ∀ k, k < 64 → nb_bitL (gSqN g (s - 1)) k = true → (∀ i, i < k → nb_bitL (gSqN g (s - 1)) i = false) → K (nI k) h) : gk_ci E (d + 3) jmo_firstSquare [.ref 112, .int (nI p), .int (nI s)] h K := by
  refine gk_ci_mk (x_mo_firstSquare (fe ?_))
  refine lp_up (N := 64) (fun c (_ : Unit) => g_mo_firstSquare_2 E (d + 2) (gk_qi K) (nI p) (nI s) (nI c) h) (fun c _ => ∀ i, i < c → nb_bitL (gSqN g (s - 1)) i = false) ?_ ?_ 0 () (by decide) (fun i q => by omega)
  · intro c _ hc hi ih
    refine x_mo_firstSquare_2 (pk_le 64 c (fun q => by omega) (fun _ => s_mo_isSquare hp hg hc h1 h8 (bsel (fun q => fe ?_) (fun q => k1 c hc q hi))))
    rw [nI_1]
    refine ih () fun i h9 => ?_
    by_cases z : i = c
    · rw [z]; exact q
    · exact hi i (by omega)
  · intro _ hi
    exact x_mo_firstSquare_2 (pk_le 64 64 (fun _ => k0 (bL_eq0 hi)) (fun q => by omega))
def mkR (f : Nat → Bool) (s : Nat) (D : Nat → Nat → Nat → Prop) (m : Nat → Int32) : Prop := ∀ t, t < 64 → (m t = 0 ∨ m t = 1) ∧ (m t = 1 ↔ ∃ c i j, D c i j ∧ f c = true ∧ i < s ∧ j < s ∧ t = c + 8 * i + j)
theorem mkR_c {f : Nat → Bool} {s : Nat} {D D' : Nat → Nat → Nat → Prop} {m : Nat → Int32} (e : ∀ c i j, i < s → j < s → f c = true → (D c i j ↔ D' c i j)) (r : mkR f s D m) : mkR f s D' m := by
  intro t ht
  obtain ⟨r1, r2⟩ := r t ht
  refine ⟨r1, r2.trans ⟨?_, ?_⟩⟩
  · rintro ⟨c, i, j, a1, a2, a3, a4, a5⟩; exact ⟨c, i, j, (e c i j a3 a4 a2).mp a1, a2, a3, a4, a5⟩
  · rintro ⟨c, i, j, a1, a2, a3, a4, a5⟩; exact ⟨c, i, j, (e c i j a3 a4 a2).mpr a1, a2, a3, a4, a5⟩
theorem s_mo_restOf {K : Int32 → gk_H → Prop} {s : Nat} (hp : p < 10) (hg : MG h p g) (h1 : 1 ≤ s) (h8 : s ≤ 8) (hk : ∀ h', fr (fun k => k = 134) h h' → K (nI (nb_onesL (g &&& (gSfN (gSqN g (s - 1)) (s - 1) ^^^ -1)))) h') : gk_ci E (d + 3) jmo_restOf [.ref 112, .int (nI p), .int (nI s)] h K := by
  refine gk_ci_mk (x_mo_restOf (fe ?_))
  refine lp_up (N := 64) (fun c (z : gk_H) => g_mo_restOf_2 E (d + 2) (gk_qi K) (nI p) (nI s) (nI c) z) (fun c z => fr (fun k => k = 134) h z ∧ ∀ i, i < c → z.2.1 134 i = 0) ?_ ?_ 0 h (by decide) ⟨fr_rf, fun i q => by omega⟩
  · rintro c z hc ⟨i1, i2⟩ ih
    refine x_mo_restOf_2 (pk_le 64 c (fun q => by omega) (fun _ => ⟨vp_in_nI hc (by decide), fe (fe ?_)⟩))
    rw [nI_1, nI_clamp (by omega)]
    refine ih _ ⟨fr_tr i1 (fr_ha rfl), fun i h9 => ?_⟩
    rw [OW_set]
    by_cases y : i = c
    · rw [if_pos y]
    · rw [if_neg y]; exact i2 i (by omega)
  · rintro z ⟨i1, i2⟩
    refine x_mo_restOf_2 (pk_le 64 64 (fun _ => fe ?_) (fun q => by omega))
    refine lp_up (N := 64) (fun c (z : gk_H) => g_mo_restOf_23 E (d + 2) (gk_qi K) (nI p) (nI s) (nI c) z) (fun c z => fr (fun k => k = 134) h z ∧ mkR (nb_bitL (gSqN g (s - 1))) s (fun c' _ _ => c' < c) (z.2.1 134)) ?_ ?_ 0 z (by decide) ⟨i1, fun t ht => ⟨Or.inl (i2 t ht), fun q => by rw [i2 t ht] at q; exact absurd q (by decide), fun ⟨c, _, _, q, _⟩ => by omega⟩⟩
    · clear i1 i2 z
      rintro c z hc ⟨i1, i2⟩ ih
      refine x_mo_restOf_23 (pk_le 64 c (fun q => by omega) (fun _ => s_mo_isSquare hp (MG_fr i1 (by decide) hg) hc h1 h8 (bsel2 (fun q => fe ?_) (fun q => fe ?_))))
      · rw [nI_1]
        refine ih _ ⟨i1, mkR_c (fun c' i j _ _ hf => ?_) i2⟩
        have : ¬ c' = c := fun y => by rw [y, q] at hf; cases hf
        omega
      · have sq : sqP (nb_bitL g) c s := by
          have := (bL_sq (x := g) (n := s - 1) hc).mp q
          rwa [show s - 1 + 1 = s by omega] at this
        refine lp_up (N := s) (fun i (z : gk_H) => g_mo_restOf_45 E (d + 2) (gk_qi K) (nI p) (nI s) (nI c) (nI i) z) (fun i z => fr (fun k => k = 134) h z ∧ mkR (nb_bitL (gSqN g (s - 1))) s (fun c' i' _ => c' < c ∨ (c' = c ∧ i' < i)) (z.2.1 134)) ?_ ?_ 0 z (Nat.zero_le _) ⟨i1, mkR_c (fun c' i j _ _ _ => by omega) i2⟩
        · clear i1 i2 z
          rintro i z hi ⟨i1, i2⟩ ihi
          refine x_mo_restOf_45 (pk_le s i (fun q => by omega) (fun _ => fe ?_))
          refine lp_up (N := s) (fun j (z : gk_H) => g_mo_restOf_54 E (d + 2) (gk_qi K) (nI p) (nI s) (nI c) (nI i) (nI j) z) (fun j z => fr (fun k => k = 134) h z ∧ mkR (nb_bitL (gSqN g (s - 1))) s (fun c' i' j' => c' < c ∨ (c' = c ∧ (i' < i ∨ (i' = i ∧ j' < j)))) (z.2.1 134)) ?_ ?_ 0 z (Nat.zero_le _) ⟨i1, mkR_c (fun c' i' j _ _ _ => by omega) i2⟩
          · clear i1 i2 z
            rintro j z hj ⟨i1, i2⟩ ihj
            have s1 := sq.1
            have s2 := sq.2.1
            have lt : c + 8 * i + j < 64 := by omega
            have e : nI c + 8 * nI i + nI j = nI (c + 8 * i + j) := by
              show nI c + nI 8 * nI i + nI j = _
              rw [nI_mulN, nI_add, nI_add]
            refine x_mo_restOf_54 (pk_le s j (fun q => by omega) (fun _ => ?_))
            rw [e, nI_clamp (by omega)]
            refine ⟨vp_in_nI lt (by decide), fe (fe ?_)⟩
            rw [nI_1]
            refine ihj _ ⟨fr_tr i1 (fr_ha rfl), fun t ht => ?_⟩
            rw [OW_set]
            obtain ⟨r1, r2⟩ := i2 t ht
            by_cases y : t = c + 8 * i + j
            · rw [if_pos y]
              exact ⟨Or.inr rfl, fun _ => ⟨c, i, j, by omega, q, hi, hj, y⟩, fun _ => rfl⟩
            · rw [if_neg y]
              refine ⟨r1, r2.trans ⟨?_, ?_⟩⟩
              · rintro ⟨c', i', j', a1, a2, a3, a4, a5⟩; exact ⟨c', i', j', by omega, a2, a3, a4, a5⟩
              · rintro ⟨c', i', j', a1, a2, a3, a4, a5⟩
                refine ⟨c', i', j', ?_, a2, a3, a4, a5⟩
                by_cases w : c' = c ∧ i' = i ∧ j' = j
                · obtain ⟨rfl, rfl, rfl⟩ := w; exact absurd a5 y
                · omega
          · rintro z ⟨i1, i2⟩
            refine x_mo_restOf_54 (pk_le s s (fun _ => fe ?_) (fun q => by omega))
            rw [nI_1]
            exact ihi z ⟨i1, mkR_c (fun c' i' j a1 a2 _ => by omega) i2⟩
        · rintro z ⟨i1, i2⟩
          refine x_mo_restOf_45 (pk_le s s (fun _ => fe ?_) (fun q => by omega))
          rw [nI_1]
          exact ih z ⟨i1, mkR_c (fun c' i' j a1 a2 _ => by omega) i2⟩
    · clear i1 i2 z
      rintro z ⟨i1, i2⟩
      refine x_mo_restOf_23 (pk_le 64 64 (fun _ => fe (fe ?_)) (fun q => by omega))
      have key : ∀ t, t < 64 → (nb_bitL (gSfN (gSqN g (s - 1)) (s - 1)) t = true ↔ z.2.1 134 t = 1) := by
        intro t ht
        rw [bL_sf ht, (i2 t ht).2]
        constructor
        · rintro ⟨c, i, j, a1, a2, a3, a4, a5⟩
          have := bL_lt a1
          exact ⟨c, i, j, this, a1, by omega, by omega, a4⟩
        · rintro ⟨c, i, j, a1, a2, a3, a4, a5⟩
          have sq := (bL_sq (x := g) (n := s - 1) a1).mp a2
          have := sq.2.1
          exact ⟨c, i, j, a2, by omega, by omega, a5, by omega⟩
      refine lp_up (N := 64) (fun c (v : Int32) => g_mo_restOf_99 E (d + 2) (gk_qi K) (nI p) v (nI c) z) (fun c v => v = nI (nb_cnt (nb_bitL (g &&& (gSfN (gSqN g (s - 1)) (s - 1) ^^^ -1))) c)) ?_ ?_ 0 0 (by decide) rfl
      · rintro c v hc rfl ih
        have eb : nb_bitL (g &&& (gSfN (gSqN g (s - 1)) (s - 1) ^^^ -1)) c = (nb_bitL g c && !nb_bitL (gSfN (gSqN g (s - 1)) (s - 1)) c) := by
          rw [bL_and, bL_not, decide_eq_true hc, Bool.true_and]
        have no : nb_bitL (g &&& (gSfN (gSqN g (s - 1)) (s - 1) ^^^ -1)) c = false → ∀ y : Int32, y = nI c + 1 → g_mo_restOf_99 E (d + 2) (gk_qi K) (nI p) (nI (nb_cnt (nb_bitL (g &&& (gSfN (gSqN g (s - 1)) (s - 1) ^^^ -1))) c)) y z := by
          rintro q _ rfl
          rw [nI_1]
          refine ih _ ?_
          rw [nb_cnt, q]; rfl
        refine x_mo_restOf_99 (pk_le 64 c (fun q => by omega) (fun _ => s_mo_dryCell hp hc (MG_fr i1 (by decide) hg) (bsel (fun q => no (by rw [eb, q]; rfl)) (fun q => ⟨vp_in_nI hc (by decide), ?_⟩))))
        rw [nI_clamp (by omega)]
        refine ⟨fun y => no ?_, fun y => fe (fe ?_)⟩
        · rcases (i2 c hc).1 with w | w
          · exact absurd w y
          · rw [eb, (key c hc).mpr w]; simp
        · rw [nI_1, nI_1]
          refine ih _ ?_
          have : nb_bitL (gSfN (gSqN g (s - 1)) (s - 1)) c = false := by
            cases e : nb_bitL (gSfN (gSqN g (s - 1)) (s - 1)) c with
            | false => rfl
            | true => rw [(key c hc).mp e] at y; exact absurd y (by decide)
          rw [nb_cnt, eb, q, this]; rfl
      · rintro v rfl
        exact x_mo_restOf_99 (pk_le 64 64 (fun _ => hk z i1) (fun q => by omega))
theorem rn1 : ∀ k, k < 8 → -(nI k) = nI 0 - nI k := by decide +kernel
theorem rn2 : ∀ k, k < 8 → ∀ i, i < 17 → (nI k < nI i - nI k ↔ 2 * k < i) := by decide +kernel
theorem rn3 : ∀ k, k < 8 → ∀ i, i < 17 → nI i - nI k + 1 = nI (i + 1) - nI k := by decide +kernel
theorem rn4 : ∀ k, k < 8 → ∀ i, i < 17 → (nI i - nI k ≤ 0 → 0 - (nI i - nI k) = nI (apN i k)) ∧ (¬ nI i - nI k ≤ 0 → nI i - nI k - 0 = nI (apN i k)) := by decide +kernel
theorem rn5 : ∀ k, k < 8 → ∀ i, i < 17 → ∀ r, r < 8 → ((0 ≤ nI r + (nI i - nI k) ∧ nI r + (nI i - nI k) ≤ 7) ↔ (k ≤ r + i ∧ r + i ≤ k + 7)) ∧ (k ≤ r + i → nI r + (nI i - nI k) = nI (r + i - k)) := by decide +kernel
theorem s_mo_isRound {K : Int32 → gk_H → Prop} {c k : Nat} (hp : p < 10) (hg : MG h p g) (hc : c < 64) (h8 : k < 8) (hk : K (nb_b (nb_bitL (gShN g k) c)) h) : gk_ci E (d + 3) jmo_isRound [.ref 112, .int (nI p), .int (nI c), .int (nI k)] h K := by
  have e1 : nI c / 8 = nI (c / 8) := pk_div (d := 8) (by omega) (by omega) (by omega)
  have e2 : nI c - nI c / 8 * 8 = nI (c % 8) := pk_rem (d := 8) (by omega) (by omega) (by omega)
  have ap : ∀ {K : Int32 → gk_H → Prop} (i : Nat), i < 17 → K (nI (apN i k)) h → gk_ci E (d + 2) jmo_apart [.ref 112, .int (nI i - nI k), .int 0] h K := by
    intro K i hi hK
    obtain ⟨a1, a2⟩ := rn4 k h8 i hi
    exact gk_ci_mk (x_mo_apart ⟨fun q => by rw [a1 q]; exact hK, fun q => by rw [a2 q]; exact hK⟩)
  have apl : ∀ i, i ≤ 2 * k + 1 → apN i k ≤ k + 1 := by intro i hi; unfold apN; split <;> omega
  let okc : Nat → Nat → Bool := fun i j => decide ((k ≤ c / 8 + i ∧ c / 8 + i ≤ k + 7) ∧ (k ≤ c % 8 + j ∧ c % 8 + j ≤ k + 7)) && nb_bitL g (8 * (c / 8 + i - k) + (c % 8 + j - k))
  have iff1 : nb_bitL (gShN g k) c = true ↔ ∀ i j, i ≤ 2 * k → j ≤ 2 * k → apN i k + apN j k ≤ k → okc i j = true := by
    rw [bL_rd hc]
    constructor
    · intro q i j hi hj ha
      have q2 := q ((c / 8 : Nat) + ((i : Int) - k)) ((c % 8 : Nat) + ((j : Int) - k)) (by unfold apN at ha; split at ha <;> split at ha <;> omega) (by unfold apN at ha; split at ha <;> split at ha <;> omega) (by unfold apN at ha; split at ha <;> split at ha <;> omega) (by unfold apN at ha; split at ha <;> split at ha <;> omega)
      show (decide _ && _) = true
      rw [Bool.and_eq_true, decide_eq_true_eq]
      refine ⟨by omega, ?_⟩
      have := q2.2.2
      rwa [show (8 * ((c / 8 : Nat) + ((i : Int) - k)) + ((c % 8 : Nat) + ((j : Int) - k))).toNat = 8 * (c / 8 + i - k) + (c % 8 + j - k) by omega] at this
    · intro q u v a1 a2 a3 a4
      have := q (u - (c / 8 : Nat) + k).toNat (v - (c % 8 : Nat) + k).toNat (by omega) (by omega) (by unfold apN; split <;> split <;> omega)
      have this : (decide _ && _) = true := this
      rw [Bool.and_eq_true, decide_eq_true_eq] at this
      obtain ⟨b1, b2⟩ := this
      refine ⟨by omega, by omega, ?_⟩
      rwa [show 8 * (c / 8 + (u - (c / 8 : Nat) + k).toNat - k) + (c % 8 + (v - (c % 8 : Nat) + k).toNat - k) = (8 * u + v).toNat by omega] at b2
  have no : ∀ i j, i ≤ 2 * k → j ≤ 2 * k → apN i k + apN j k ≤ k → okc i j = false → ((0 : Int32) = 0 ∨ (0 : Int32) = 1) ∧ K 0 h := by
    intro i j hi hj ha q
    have : nb_bitL (gShN g k) c = false := by
      cases e : nb_bitL (gShN g k) c with
      | false => rfl
      | true => rw [iff1.mp e i j hi hj ha] at q; cases q
    rw [this] at hk
    exact ⟨Or.inl rfl, hk⟩
  refine gk_ci_mk (x_mo_isRound (fe ?_))
  rw [rn1 k h8]
  refine lp_up (N := 2 * k + 1) (fun i (_ : Unit) => g_mo_isRound_4 E (d + 2) (gk_qi K) (nI p) (nI c) (nI k) (nI i - nI k) h) (fun i _ => ∀ i' j, i' < i → j ≤ 2 * k → apN i' k + apN j k ≤ k → okc i' j = true) ?_ ?_ 0 () (Nat.zero_le _) (fun i' j q => by omega)
  · intro i _ hi hI ih
    refine x_mo_isRound_4 ?_
    unfold w_mo_isRound_4
    rw [rn2 k h8 i (by omega)]
    refine yF (by omega) (fe ?_)
    rw [rn1 k h8]
    refine lp_up (N := 2 * k + 1) (fun j (_ : Unit) => g_mo_isRound_14 E (d + 2) (gk_qi K) (nI p) (nI c) (nI k) (nI i - nI k) (nI j - nI k) h) (fun j _ => ∀ j', j' < j → apN i k + apN j' k ≤ k → okc i j' = true) ?_ ?_ 0 () (Nat.zero_le _) (fun j' q => by omega)
    · intro j _ hj hJ ihj
      have l1 := apl i (by omega)
      have l2 := apl j (by omega)
      have go : (apN i k + apN j k ≤ k → okc i j = true) → ∀ y : Int32, y = nI j - nI k + 1 → g_mo_isRound_14 E (d + 2) (gk_qi K) (nI p) (nI c) (nI k) (nI i - nI k) y h := by
        rintro q _ rfl
        rw [rn3 k h8 j (by omega)]
        refine ihj () fun j' h1 h2 => ?_
        by_cases z : j' = j
        · rw [z] at h2 ⊢; exact q h2
        · exact hJ j' (by omega) h2
      refine x_mo_isRound_14 ?_
      unfold w_mo_isRound_14
      rw [rn2 k h8 j (by omega)]
      refine yF (by omega) (ap i (by omega) (ap j (by omega) ?_))
      rw [nI_add]
      refine pk_lt k (apN i k + apN j k) (fun q => go (fun z => by omega)) (fun q => ⟨by decide, by decide, ?_⟩)
      rw [e2, e1]
      obtain ⟨u1, u2⟩ := rn5 k h8 i (by omega) (c / 8) (by omega)
      obtain ⟨v1, v2⟩ := rn5 k h8 j (by omega) (c % 8) (by omega)
      refine s_mo_isDry (b := okc i j) hp hg ?_ (bsel2 (fun z => no i j (by omega) (by omega) q z) (fun z => go (fun _ => z)))
      by_cases z : (k ≤ c / 8 + i ∧ c / 8 + i ≤ k + 7) ∧ (k ≤ c % 8 + j ∧ c % 8 + j ≤ k + 7)
      · refine Or.inl ⟨c / 8 + i - k, c % 8 + j - k, by omega, by omega, u2 z.1.1, v2 z.2.1, ?_⟩
        show (decide _ && _) = _
        rw [decide_eq_true z, Bool.true_and]
      · refine Or.inr ⟨?_, ?_⟩
        · rw [u1, v1]
          omega
        · show (decide _ && _) = _
          rw [decide_eq_false z, Bool.false_and]
    · intro _ hJ
      refine x_mo_isRound_14 ?_
      unfold w_mo_isRound_14
      rw [rn2 k h8 (2 * k + 1) (by omega)]
      refine yT (by omega) (fe ?_)
      rw [rn3 k h8 i (by omega)]
      refine ih () fun i' j h1 h2 h3 => ?_
      by_cases z : i' = i
      · rw [z] at h3 ⊢; exact hJ j (by omega) h3
      · exact hI i' j (by omega) h2 h3
  · intro _ hI
    refine x_mo_isRound_4 ?_
    unfold w_mo_isRound_4
    rw [rn2 k h8 (2 * k + 1) (by omega)]
    refine yT (by omega) ⟨Or.inr rfl, ?_⟩
    rw [iff1.mpr (fun i j h1 h2 h3 => hI i j (by omega) h2 h3)] at hk
    exact hk
theorem s_mo_firstRound {K : Int32 → gk_H → Prop} {s : Nat} (hp : p < 10) (hg : MG h p g) (h8 : s < 8) (k0 : gShN g s = 0 → K (-1) h) (k1 : ∀ k, k < 64 → nb_bitL (gShN g s) k = true → (∀ i, i < k → nb_bitL (gShN g s) i = false) → K (nI k) h) : gk_ci E (d + 4) jmo_firstRound [.ref 112, .int (nI p), .int (nI s)] h K := by
  refine gk_ci_mk (x_mo_firstRound (fe ?_))
  refine lp_up (N := 64) (fun c (_ : Unit) => g_mo_firstRound_2 E (d + 3) (gk_qi K) (nI p) (nI s) (nI c) h) (fun c _ => ∀ i, i < c → nb_bitL (gShN g s) i = false) ?_ ?_ 0 () (by decide) (fun i q => by omega)
  · intro c _ hc hi ih
    refine x_mo_firstRound_2 (pk_le 64 c (fun q => by omega) (fun _ => s_mo_isRound hp hg hc h8 (bsel (fun q => fe ?_) (fun q => k1 c hc q hi))))
    rw [nI_1]
    refine ih () fun i h9 => ?_
    by_cases z : i = c
    · rw [z]; exact q
    · exact hi i (by omega)
  · intro _ hi
    exact x_mo_firstRound_2 (pk_le 64 64 (fun _ => k0 (bL_eq0 hi)) (fun q => by omega))
end SQ2
theorem low_u {x : Int64} {k k' : Nat} (h1 : nb_bitL x k = true) (h2 : ∀ i, i < k → nb_bitL x i = false) (h1' : nb_bitL x k' = true) (h2' : ∀ i, i < k' → nb_bitL x i = false) : k = k' := by
  rcases Nat.lt_trichotomy k k' with q | q | q
  · rw [h2' k q] at h1; cases h1
  · exact q
  · rw [h2 k' q] at h1'; cases h1'
theorem lc_square {E : gk_E} {d : Nat} (a0 a1 : Int32) : lc_ok E (d + 6) InvX jdp_square jmo_square [.int a0, .int a1] := by
  refine lc_q fun n w T X hn hw0 hgw hT => ?_
  by_cases ha : ∃ q, q < n ∧ a0 = nI q
  · obtain ⟨p, hp, rfl⟩ := ha
    obtain ⟨sd, d1, d2, d3⟩ := sq_ex (w.2.1 p)
    obtain ⟨dp, f1, f2, f3⟩ := dep_ex (w.2.1 p)
    have hc : ∀ (r : Int32), (∀ (h : gk_H) (K : Int32 → gk_H → Prop), K r h → ((a1 = (0 : Int32) → K (nI sd) h) ∧ (¬ a1 = (0 : Int32) → (a1 = (1 : Int32) → gk_cl2 E (d + 5) jgr_squareCorners [.long (w.2.1 p), .int (nI sd)] h (fun r_11 h_10 => gk_ci E (d + 5) jgr_firstOf [.long r_11] h_10 K)) ∧ (¬ a1 = (1 : Int32) → (a1 = (2 : Int32) → gk_cl2 E (d + 5) jgr_squareCorners [.long (w.2.1 p), .int (nI sd)] h (fun r_15 h_14 => gk_cl2 E (d + 5) jgr_squaresFrom [.long r_15, .int (nI sd)] h_14 (fun r_17 h_16 => gk_ci E (d + 5) jjl_bitCount [.long (w.2.1 p &&& (r_17 ^^^ (-1 : Int64)))] h_16 K))) ∧ (¬ a1 = (2 : Int32) → (a1 = (3 : Int32) → ((¬ nI dp = 0 → K (nI dp - 1) h) ∧ (nI dp = 0 → K (-1) h))) ∧ (¬ a1 = (3 : Int32) → (a1 = (4 : Int32) → gk_cl2 E (d + 5) jgr_shrunk [.long (w.2.1 p), .int (nI dp - 1)] h (fun r_21 h_20 => gk_ci E (d + 5) jgr_firstOf [.long r_21] h_20 K)) ∧ (¬ a1 = (4 : Int32) → K (-1) h))))))) → ∀ (h : gk_H) (K : Int32 → gk_H → Prop), Vw h n w T X → (∀ h', Qs h h' → K r h') → gk_ci E (d + 6) jdp_square (.ref 0 :: [.int (nI p), .int a1]) h K := by
      intro r hr h K v k
      refine gk_ci_mk (x_dp_square (s_wh1 hn (Vw_n v) hp (zF (by decide) ⟨vp_in_nI (by omega) (by decide), ?_⟩)))
      rw [nI_clamp (by omega), Vw_d v (by omega)]
      exact fe (s_gr_squareSide d1 d2 d3 (fe (s_gr_depth f1 f2 f3 (fe (hr h K (k h Qs_rf))))))
    have ne : ¬ w.2.1 p = 0 → ¬ nI (nb_onesL (w.2.1 p)) = 0 := by
      intro hx
      obtain ⟨c, c1, c2⟩ := bL_ne0 hx
      have := cnt_pos c1 c2
      have := nb_onesL_le (w.2.1 p)
      exact nI_ne0 (by unfold nb_onesL; omega) (by omega)
    by_cases hin : (0 : Int32) ≤ a1 ∧ a1 ≤ 4
    · by_cases z : w.2.1 p = 0
      · have sd0 : sd = 0 := by
          rcases Nat.eq_zero_or_pos sd with q | q
          · exact q
          · exact absurd z (d3 0 q)
        have dp0 : dp = 0 := by
          rcases Nat.eq_zero_or_pos dp with q | q
          · exact q
          · exact absurd z (f3 0 q)
        have hm : ∀ (r : Int32), ((a1 = 0 → (0 : Int32) = r) ∧ (¬ a1 = 0 → ((¬ a1 = (2 : Int32) → (-1 : Int32) = r) ∧ (a1 = (2 : Int32) → (0 : Int32) = r)))) → ∀ (h : gk_H) (K : Int32 → gk_H → Prop), Vw h n w T X → (∀ h', Qs h h' → K r h') → gk_ci E (d + 6) jmo_square (.ref 112 :: [.int (nI p), .int a1]) h K := by
          intro r hr h K v k
          have v2 := Vw_Qs (Qs_t (x := 0)) v
          refine gk_ci_mk (x_mo_square (s_mp1 hn v2.1.2.2 hp (yF (by decide) (s_in1 hin (zF (by decide) (s_mo_dryOf (by omega) (Vw_mp v2 (by omega)).2.2.2.2 (zT (by rw [z]; decide) ?_)))))))
          have k := k _ (Qs_t (h := h) (x := 0))
          refine ⟨fun q => ?_, fun q => ⟨fun q2 => ?_, fun q2 => ?_⟩⟩
          · rw [← hr.1 q] at k; exact k
          · rw [← (hr.2 q).1 q2] at k; exact k
          · rw [← (hr.2 q).2 q2] at k; exact k
        by_cases q0 : a1 = 0
        · exact ⟨0, hc _ (fun h K k => yT q0 (by rw [sd0]; exact k)), hm _ ⟨fun _ => rfl, fun q => absurd q0 q⟩⟩
        by_cases q2 : a1 = 2
        · have q1 : ¬ a1 = 1 := by rw [q2]; decide
          refine ⟨0, hc _ (fun h K k => yF q0 (yF q1 (yT q2 (s_gr_squareCorners (by omega) (s_gr_squaresFrom (by omega) (s_jl_bitCount ?_)))))), hm _ ⟨fun q => absurd q q0, fun _ => ⟨fun q => absurd q2 q, fun _ => rfl⟩⟩⟩
          have : w.2.1 p &&& (gSfN (gSqN (w.2.1 p) (sd - 1)) (sd - 1) ^^^ -1) = 0 := bL_eq0 fun c _ => by rw [bL_and, z, bL_0]; rfl
          rw [this]; exact k
        have mm := hm (-1) ⟨fun q => absurd q q0, fun _ => ⟨fun _ => rfl, fun q => absurd q q2⟩⟩
        by_cases q1 : a1 = 1
        · refine ⟨-1, hc _ (fun h K k => yF q0 (yT q1 (s_gr_squareCorners (by omega) (s_gr_firstOf (fun _ => k) (fun i i1 i2 _ => ?_))))), mm⟩
          rw [sd0, z] at i2
          have i2 : nb_bitL 0 i = true := i2
          rw [bL_0] at i2; cases i2
        by_cases q3 : a1 = 3
        · exact ⟨-1, hc _ (fun h K k => yF q0 (yF q1 (yF q2 (yT q3 (zT (by rw [dp0]; rfl) k))))), mm⟩
        by_cases q4 : a1 = 4
        · refine ⟨-1, hc _ (fun h K k => yF q0 (yF q1 (yF q2 (yF q3 (yT q4 ?_))))), mm⟩
          refine gk_cl_mk (x_gr_shrunk (fe (fe (x_gr_shrunk_5 (yT ?_ (s_gr_firstOf (fun _ => k) (fun i i1 i2 _ => ?_)))))))
          · rw [dp0]; decide
          · rw [z, bL_0] at i2; cases i2
        · exact ⟨-1, hc _ (fun h K k => yF q0 (yF q1 (yF q2 (yF q3 (yF q4 k))))), mm⟩
      · have sd1 : 1 ≤ sd := by
          rcases Nat.eq_zero_or_pos sd with q | q
          · rw [q] at d2; exact absurd d2 z
          · exact q
        have dp1 : 1 ≤ dp := by
          rcases Nat.eq_zero_or_pos dp with q | q
          · rw [q] at f2; exact absurd f2 z
          · exact q
        have hm : ∀ (r : Int32), (∀ (h : gk_H) (K : Int32 → gk_H → Prop), MG h p (w.2.1 p) → (∀ h', Qs h h' → K r h') → (((3 : Int32) ≤ a1 → g_mo_square_106 E (d + 5) (gk_qi K) (nI p) a1 (nI 7) h) ∧ (¬ (3 : Int32) ≤ a1 → ((¬ a1 = 0 → ((¬ a1 = (1 : Int32) → gk_ci E (d + 5) jmo_restOf [.ref 112, .int (nI p), .int (nI sd)] h K) ∧ (a1 = (1 : Int32) → gk_ci E (d + 5) jmo_firstSquare [.ref 112, .int (nI p), .int (nI sd)] h K))) ∧ (a1 = 0 → K (nI sd) h))))) → ∀ (h : gk_H) (K : Int32 → gk_H → Prop), Vw h n w T X → (∀ h', Qs h h' → K r h') → gk_ci E (d + 6) jmo_square (.ref 112 :: [.int (nI p), .int a1]) h K := by
          intro r hr h K v k
          have v2 := Vw_Qs (Qs_t (x := 0)) v
          have gp := (Vw_mp v2 (p := p) (by omega)).2.2.2.2
          refine gk_ci_mk (x_mo_square (s_mp1 hn v2.1.2.2 hp (yF (by decide) (s_in1 hin (zF (by decide) (s_mo_dryOf (by omega) gp (zF (ne z) (fe ?_))))))))
          have down : ∀ m, sd + m ≤ 8 → g_mo_square_51 E (d + 5) (gk_qi K) (nI p) a1 (nI (sd + m)) (gk_hf h 112 0 0) := by
            intro m
            induction m with
            | zero =>
              intro _
              have rr := hr _ K gp (fun h' q => k h' (Qs_tr Qs_t q))
              refine x_mo_square_51 (s_mo_firstSquare (by omega) gp (by omega) (by omega) (fun q => absurd q (d3 (sd - 1) (by omega))) (fun i i1 i2 i3 => zF ?_ ⟨fun q => fe (rr.1 q), rr.2⟩))
              intro q
              have := nI_pos (n := i) (by omega)
              rw [q] at this; exact absurd (by decide) this
            | succ m ih =>
              intro hm
              have e0 : gSqN (w.2.1 p) (sd + (m + 1) - 1) = 0 := by
                rw [show sd + (m + 1) - 1 = sd + m by omega]; exact sq_mono d2 m
              refine x_mo_square_51 (s_mo_firstSquare (by omega) gp (by omega) (by omega) (fun _ => zT rfl (fe ?_)) (fun i i1 i2 i3 => ?_))
              · rw [← Nat.add_assoc, nI_pred]; exact ih (by omega)
              · rw [e0, bL_0] at i2; cases i2
          have := down (8 - sd) (by omega)
          rw [show sd + (8 - sd) = 8 by omega] at this
          exact this
        have hr106 : ∀ (r : Int32) (h : gk_H) (K : Int32 → gk_H → Prop), MG h p (w.2.1 p) → ((¬ a1 = (3 : Int32) → gk_ci E (d + 5) jmo_firstRound [.ref 112, .int (nI p), .int (nI (dp - 1))] h K) ∧ (a1 = (3 : Int32) → K (nI (dp - 1)) h)) → g_mo_square_106 E (d + 5) (gk_qi K) (nI p) a1 (nI 7) h := by
          intro r h K gp hh
          have down : ∀ m, dp - 1 + m ≤ 7 → g_mo_square_106 E (d + 5) (gk_qi K) (nI p) a1 (nI (dp - 1 + m)) h := by
            intro m
            induction m with
            | zero =>
              intro _
              refine x_mo_square_106 (s_mo_firstRound (by omega) gp (by omega) (fun q => absurd q (f3 (dp - 1) (by omega))) (fun i i1 i2 i3 => zF ?_ hh))
              intro q
              have := nI_pos (n := i) (by omega)
              rw [q] at this; exact absurd (by decide) this
            | succ m ih =>
              intro hm
              have e0 : gShN (w.2.1 p) (dp - 1 + (m + 1)) = 0 := by
                rw [show dp - 1 + (m + 1) = dp + m by omega]; exact sh_mono f2 m
              refine x_mo_square_106 (s_mo_firstRound (by omega) gp (by omega) (fun _ => zT rfl (fe ?_)) (fun i i1 i2 i3 => ?_))
              · rw [← Nat.add_assoc, nI_pred]; exact ih (by omega)
              · rw [e0, bL_0] at i2; cases i2
          have := down (7 - (dp - 1)) (by omega)
          rw [show dp - 1 + (7 - (dp - 1)) = 7 by omega] at this
          exact this
        have edp : nI dp - 1 = nI (dp - 1) := pk_sub (b := 1) dp1
        by_cases q0 : a1 = 0
        · refine ⟨nI sd, hc _ (fun h K k => yT q0 k), hm _ (fun h K m k => yF (by rw [q0]; decide) (zT q0 (k h Qs_rf)))⟩
        by_cases q1 : a1 = 1
        · obtain ⟨i, i1, i2, i3, -⟩ := bL_low (d3 (sd - 1) (by omega))
          refine ⟨nI i, hc _ (fun h K k => yF q0 (yT q1 (s_gr_squareCorners (by omega) (s_gr_firstOf (fun q => absurd q (d3 (sd - 1) (by omega))) (fun i' _ a2 a3 => ?_))))), hm _ (fun h K m k => yF (by rw [q1]; decide) (zF q0 (zT q1 (s_mo_firstSquare (by omega) m (by omega) (by omega) (fun q => absurd q (d3 (sd - 1) (by omega))) (fun i' _ a2 a3 => ?_)))))⟩
          · rw [low_u a2 a3 i2 i3]; exact k
          · rw [low_u a2 a3 i2 i3]; exact k h Qs_rf
        by_cases q2 : a1 = 2
        · exact ⟨nI (nb_onesL (w.2.1 p &&& (gSfN (gSqN (w.2.1 p) (sd - 1)) (sd - 1) ^^^ -1))), hc _ (fun h K k => yF q0 (yF q1 (yT q2 (s_gr_squareCorners (by omega) (s_gr_squaresFrom (by omega) (s_jl_bitCount k)))))), hm _ (fun h K m k => yF (by rw [q2]; decide) (zF q0 (zF q1 (s_mo_restOf (by omega) m (by omega) (by omega) (fun h' a => k h' (Qs_134 (fun k q => by omega) a))))))⟩
        by_cases q3 : a1 = 3
        · refine ⟨nI (dp - 1), hc _ (fun h K k => yF q0 (yF q1 (yF q2 (yT q3 (zF (nI_ne0 (by omega) (by omega)) (by rw [edp]; exact k)))))), hm _ (fun h K m k => yT (by rw [q3]; decide) (hr106 0 h K m (zT q3 (k h Qs_rf))))⟩
        by_cases q4 : a1 = 4
        · obtain ⟨i, i1, i2, i3, -⟩ := bL_low (f3 (dp - 1) (by omega))
          refine ⟨nI i, hc _ (fun h K k => yF q0 (yF q1 (yF q2 (yF q3 (yT q4 ?_))))), hm _ (fun h K m k => yT (by rw [q4]; decide) (hr106 0 h K m (zF q3 (s_mo_firstRound (by omega) m (by omega) (fun q => absurd q (f3 (dp - 1) (by omega))) (fun i' _ a2 a3 => ?_)))))⟩
          · rw [edp]
            refine s_gr_shrunk (by omega) (s_gr_firstOf (fun q => absurd q (f3 (dp - 1) (by omega))) (fun i' _ a2 a3 => ?_))
            rw [low_u a2 a3 i2 i3]; exact k
          · rw [low_u a2 a3 i2 i3]; exact k h Qs_rf
        · exfalso
          obtain ⟨i, hi, rfl⟩ := of05 (N := 4) (by decide) hin
          have : i = 0 ∨ i = 1 ∨ i = 2 ∨ i = 3 ∨ i = 4 := by omega
          rcases this with rfl | rfl | rfl | rfl | rfl
          · exact q0 rfl
          · exact q1 rfl
          · exact q2 rfl
          · exact q3 rfl
          · exact q4 rfl
    · have ne0 : ∀ i : Nat, i ≤ 4 → ¬ a1 = nI i := fun i hi q => hin (by rw [q]; exact ⟨nI_pos' (by omega), nI_le (b := 4) hi (by decide)⟩)
      refine ⟨-1, hc _ (fun h K k => yF (ne0 0 (by decide)) (yF (ne0 1 (by decide)) (yF (ne0 2 (by decide)) (yF (ne0 3 (by decide)) (yF (ne0 4 (by decide)) k))))), fun h K v k => ?_⟩
      have v2 := Vw_Qs (Qs_t (x := 0)) v
      exact gk_ci_mk (x_mo_square (s_mp1 hn v2.1.2.2 hp (yF (by decide) (s_in0 hin (zT rfl (k _ Qs_t))))))
  · refine ⟨-1, fun h K v k => ?_, fun h K v k => ?_⟩
    · exact gk_ci_mk (x_dp_square (s_wh0 hn (Vw_n v) ha (zT rfl (k h Qs_rf))))
    · exact gk_ci_mk (x_mo_square (s_mp0 hn (Vw_Qs (Qs_t (x := 0)) v).1.2.2 ha (yT rfl (k _ Qs_t))))
