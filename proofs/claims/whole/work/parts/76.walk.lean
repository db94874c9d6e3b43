/-! walks: steps -/
theorem grow {X : Nat → Nat → Bool} (hm : ∀ n t, X n t = true → X (n + 1) t = true) (hs : ∀ n, (∀ t, t < 64 → X (n + 1) t = X n t) → ∀ t, t < 64 → X (n + 2) t = X (n + 1) t) (h0 : ∃ a, a < 64 ∧ X 0 a = true) {k t : Nat} (ht : t < 64) (hk : X k t = true) (hl : ∀ i, i < k → X i t = false) : k ≤ 63 := by
  have st : ∀ i, (∀ t, t < 64 → X (i + 1) t = X i t) → ∀ j t, t < 64 → X (i + j) t = X i t := by
    intro i hi
    have two : ∀ j, (∀ t, t < 64 → X (i + j + 1) t = X (i + j) t) := by
      intro j
      induction j with
      | zero => exact hi
      | succ j ih => exact hs (i + j) ih
    intro j
    induction j with
    | zero => intro t _; rfl
    | succ j ih => intro t h9; rw [← Nat.add_assoc, two j t h9, ih t h9]
  have key : ∀ i, i ≤ k → i + 1 ≤ nb_cnt (X i) 64 := by
    intro i
    induction i with
    | zero =>
      intro _
      obtain ⟨a, a1, a2⟩ := h0
      exact cnt_pos a1 a2
    | succ i ih =>
      intro hi
      have h1 := ih (by omega)
      have : ∃ t0, t0 < 64 ∧ X i t0 = false ∧ X (i + 1) t0 = true := by
        apply Classical.byContradiction
        intro q
        have e : ∀ t, t < 64 → X (i + 1) t = X i t := by
          intro t9 h9
          cases e1 : X i t9 with
          | true => exact hm i t9 e1
          | false =>
            cases e2 : X (i + 1) t9 with
            | false => rfl
            | true => exact absurd ⟨t9, h9, e1, e2⟩ q
        have := st i e (k - i) t ht
        rw [show i + (k - i) = k by omega, hk, hl i (by omega)] at this
        cases this
      obtain ⟨t0, t1, t2, t3⟩ := this
      have := cnt_lt (f := X i) (g := X (i + 1)) (n := 64) (fun i9 _ z => hm i i9 z) t1 t2 t3
      omega
  have := key k (Nat.le_refl _)
  have := nb_cnt_le (X k) 64
  omega
/-- cells within n steps -/
def rsN (g : Int64) (a : Nat) : Nat → Int64
  | 0 => (1 : Int64) <<< ((nI a).toInt64 &&& 63)
  | n + 1 => rsN g a n ||| (gBs (rsN g a n) &&& g)
theorem rs_mono {g : Int64} {a n t : Nat} (h : nb_bitL (rsN g a n) t = true) : nb_bitL (rsN g a (n + 1)) t = true := (pt_step rfl).mpr (Or.inl h)
theorem rs_le {g : Int64} {a n t : Nat} (h : nb_bitL (rsN g a n) t = true) : ∀ k, nb_bitL (rsN g a (n + k)) t = true := by
  intro k
  induction k with
  | zero => exact h
  | succ k ih => exact rs_mono ih
def rsD (g : Int64) (a t k : Nat) : Prop := nb_bitL (rsN g a k) t = true ∧ ∀ i, i < k → nb_bitL (rsN g a i) t = false
theorem rsD_lt {g : Int64} {a t k : Nat} (ha : a < 64) (h : rsD g a t k) : k ≤ 63 := by
  refine grow (X := fun n t => nb_bitL (rsN g a n) t) (fun n t q => rs_mono q) (fun n e t _ => ?_) ⟨a, ha, ?_⟩ (bL_lt h.1) h.1 h.2
  · have : rsN g a (n + 1) = rsN g a n := bL_ext e
    show nb_bitL (rsN g a (n + 1) ||| (gBs (rsN g a (n + 1)) &&& g)) t = nb_bitL (rsN g a n ||| (gBs (rsN g a n) &&& g)) t
    rw [this]
  · show nb_bitL ((1 : Int64) <<< ((nI a).toInt64 &&& 63)) a = true
    rw [bL_one ha]; simp
theorem rsD_u {g : Int64} {a t k k' : Nat} (h : rsD g a t k) (h' : rsD g a t k') : k = k' := by
  rcases Nat.lt_trichotomy k k' with q | q | q
  · have := h'.2 k q; rw [h.1] at this; cases this
  · exact q
  · have := h.2 k' q; rw [h'.1] at this; cases this
theorem rsD_ex {g : Int64} {a t n : Nat} (h : nb_bitL (rsN g a n) t = true) : ∃ k, k ≤ n ∧ rsD g a t k := by
  obtain ⟨k, k1, k2⟩ := pk_least (fun n => nb_bitL (rsN g a n) t = true) ⟨n, h⟩
  refine ⟨k, ?_, k1, fun i hi => ?_⟩
  · rcases Nat.lt_or_ge n k with q | q
    · exact absurd h (k2 n q)
    · exact q
  · cases e : nb_bitL (rsN g a i) t with
    | false => rfl
    | true => exact absurd e (k2 i hi)
theorem s_gr_fewestSteps {E : gk_E} {d : Nat} {h : gk_H} {K : Int32 → gk_H → Prop} {g : Int64} {a b : Nat} (ha : a < 64) (hb : b < 64) (k1 : ∀ k, rsD g a b k → K (nI k) h) (k0 : (¬ ∃ k, rsD g a b k) → K (-1) h) : gk_ci E (d + 3) jgr_fewestSteps [.long g, .int (nI a), .int (nI b)] h K := by
  refine gk_ci_mk (x_gr_fewestSteps (fe (fe ?_)))
  refine lp_up (N := 64) (fun j (_ : Unit) => g_gr_fewestSteps_8 E (d + 2) (gk_qi K) g (nI b) (rsN g a j) (nI j) h) (fun j _ => ∀ i, i < j → nb_bitL (rsN g a i) b = false) ?_ ?_ 0 () (by decide) (fun i q => by omega)
  · intro j _ hj hi ih
    refine x_gr_fewestSteps_8 (pk_le 64 j (fun q => by omega) (fun _ => s_gr_isDry hb (bsel (fun q => s_gr_beside (fe (fe ?_))) (fun q => k1 j ⟨q, hi⟩))))
    rw [nI_1]
    refine ih () fun i h9 => ?_
    by_cases z : i = j
    · rw [z]; exact q
    · exact hi i (by omega)
  · intro _ hi
    refine x_gr_fewestSteps_8 (pk_le 64 64 (fun _ => k0 ?_) (fun q => by omega))
    rintro ⟨k, hk⟩
    have := hi k (by have := rsD_lt ha hk; omega)
    rw [hk.1] at this; cases this
/-- the reference's steps in phase n, so far as cell c and o -/
def Ph (g : Int64) (a n c o : Nat) (m : Nat → Int32) : Prop := ∀ t, t < 64 → (∀ k, k ≤ n → rsD g a t k → m t = nI k) ∧ ((∀ k, k ≤ n → ¬ rsD g a t k) → ((∃ c', c' < 64 ∧ (c' < c ∨ (c' = c ∧ t < o)) ∧ rsD g a c' n ∧ adj c' t ∧ nb_bitL g t = true) → m t = nI (n + 1)) ∧ ((¬ ∃ c', c' < 64 ∧ (c' < c ∨ (c' = c ∧ t < o)) ∧ rsD g a c' n ∧ adj c' t ∧ nb_bitL g t = true) → m t = 100000000))
theorem far_ne {k : Nat} (hk : k < 100000000) : ¬ nI k = 100000000 := fun q => by
  have := (nI_eq (b := 100000000) (by omega) (by decide)).mp q
  omega
theorem Ph_c {g : Int64} {a n c o c1 o1 : Nat} {m : Nat → Int32} (h : Ph g a n c o m) (e : ∀ c' t, c' < 64 → t < 64 → rsD g a c' n → adj c' t → nb_bitL g t = true → (∀ k, k ≤ n → ¬ rsD g a t k) → ((c' < c ∨ (c' = c ∧ t < o)) ↔ (c' < c1 ∨ (c' = c1 ∧ t < o1)))) : Ph g a n c1 o1 m := by
  intro t ht
  obtain ⟨h1, h2⟩ := h t ht
  refine ⟨h1, fun q => ⟨?_, fun z => (h2 q).2 ?_⟩⟩
  · rintro ⟨c', a1, a2, a3, a4, a5⟩
    exact (h2 q).1 ⟨c', a1, (e c' t a1 ht a3 a4 a5 q).mpr a2, a3, a4, a5⟩
  · rintro ⟨c', a1, a2, a3, a4, a5⟩
    exact z ⟨c', a1, (e c' t a1 ht a3 a4 a5 q).mp a2, a3, a4, a5⟩
theorem Ph_at {g : Int64} {a n c o t : Nat} {m : Nat → Int32} (hn : n < 64) (ht : t < 64) (h : Ph g a n c o m) : (m t = nI n ↔ rsD g a t n) ∧ (m t = 100000000 → ∀ k, k ≤ n → ¬ rsD g a t k) := by
  obtain ⟨h1, h2⟩ := h t ht
  refine ⟨⟨fun q => ?_, fun q => h1 n (Nat.le_refl _) q⟩, fun q k hk z => far_ne (by omega) ((h1 k hk z).symm.trans q)⟩
  by_cases z : ∃ k, k ≤ n ∧ rsD g a t k
  · obtain ⟨k, k1, k2⟩ := z
    have := (nI_eq (by omega) (by omega)).mp ((h1 k k1 k2).symm.trans q)
    rw [← this]; exact k2
  · have z' : ∀ k, k ≤ n → ¬ rsD g a t k := fun k hk y => z ⟨k, hk, y⟩
    by_cases y : ∃ c', c' < 64 ∧ (c' < c ∨ (c' = c ∧ t < o)) ∧ rsD g a c' n ∧ adj c' t ∧ nb_bitL g t = true
    · have := (nI_eq (by omega) (by omega)).mp (((h2 z').1 y).symm.trans q)
      omega
    · exact absurd (((h2 z').2 y).symm.trans q).symm (far_ne (by omega))
theorem Ph_nx {g : Int64} {a n : Nat} {m : Nat → Int32} (h : Ph g a n 64 0 m) : Ph g a (n + 1) 0 0 m := by
  intro t ht
  obtain ⟨h1, h2⟩ := h t ht
  have key : (∀ k, k ≤ n → ¬ rsD g a t k) → (rsD g a t (n + 1) ↔ ∃ c', c' < 64 ∧ (c' < 64 ∨ (c' = 64 ∧ t < 0)) ∧ rsD g a c' n ∧ adj c' t ∧ nb_bitL g t = true) := by
    intro q
    have nb : ∀ i, i ≤ n → nb_bitL (rsN g a i) t = false := by
      intro i hi
      cases e : nb_bitL (rsN g a i) t with
      | false => rfl
      | true =>
        obtain ⟨k, k1, k2⟩ := rsD_ex e
        exact absurd k2 (q k (by omega))
    constructor
    · rintro ⟨z1, z2⟩
      rcases (pt_step rfl).mp z1 with y | ⟨⟨b, b1, b2⟩, b3⟩
      · rw [nb n (Nat.le_refl _)] at y; cases y
      · refine ⟨b, bL_lt b1, Or.inl (bL_lt b1), ⟨b1, fun i hi => ?_⟩, adj_sy b2, b3⟩
        cases e : nb_bitL (rsN g a i) b with
        | false => rfl
        | true =>
          have : nb_bitL (rsN g a (i + 1)) t = true := (pt_step rfl).mpr (Or.inr ⟨⟨b, e, b2⟩, b3⟩)
          rw [nb (i + 1) (by omega)] at this; cases this
    · rintro ⟨b, b1, -, b2, b3, b4⟩
      exact ⟨(pt_step rfl).mpr (Or.inr ⟨⟨b, b2.1, adj_sy b3⟩, b4⟩), fun i hi => nb i (by omega)⟩
  refine ⟨fun k hk z => ?_, fun q => ?_⟩
  · by_cases y : k ≤ n
    · exact h1 k y z
    · have e : k = n + 1 := by omega
      subst e
      have q : ∀ k, k ≤ n → ¬ rsD g a t k := fun k hk w => by have := rsD_u z w; omega
      exact (h2 q).1 ((key q).mp z)
  · have q' : ∀ k, k ≤ n → ¬ rsD g a t k := fun k hk => q k (by omega)
    refine ⟨fun ⟨c', _, z, _⟩ => by omega, fun _ => (h2 q').2 fun w => q (n + 1) (Nat.le_refl _) ((key q').mpr w)⟩
theorem s_mo_stepsBy {E : gk_E} {d : Nat} {h : gk_H} {K : Int32 → gk_H → Prop} {p : Nat} {g : Int64} {a b : Nat} (hp : p < 10) (hg : MG h p g) (ha : a < 64) (hb : b < 64) (k1 : ∀ h' k, fr (fun k => k = 138) h h' → rsD g a b k → K (nI k) h') (k0 : ∀ h', fr (fun k => k = 138) h h' → (¬ ∃ k, rsD g a b k) → K 100000000 h') : gk_ci E (d + 3) jmo_stepsBy [.ref 112, .int (nI p), .int (nI a), .int (nI b)] h K := by
  refine gk_ci_mk (x_mo_stepsBy (fe ?_))
  refine lp_up (N := 64) (fun c (s : gk_H) => g_mo_stepsBy_3 E (d + 2) (gk_qi K) (nI p) (nI a) (nI b) (nI c) s) (fun c s => fr (fun k => k = 138) h s ∧ ∀ i, i < c → s.2.1 138 i = if i = a then nI 0 else 100000000) ?_ ?_ 0 h (by decide) ⟨fr_rf, fun i q => by omega⟩
  · rintro c s hc ⟨i1, i2⟩ ih
    refine x_mo_stepsBy_3 (pk_le 64 c (fun q => by omega) (fun _ => ?_))
    rw [nI_clamp (by omega), nI_eq (a := c) (b := a) (by omega) (by omega)]
    refine ⟨fun q => ⟨vp_in_nI hc (by decide), fe (fe ?_)⟩, fun q => ⟨vp_in_nI hc (by decide), fe (fe ?_)⟩⟩
    · rw [nI_1]
      refine ih _ ⟨fr_tr i1 (fr_ha rfl), fun i h9 => ?_⟩
      rw [OW_set]
      by_cases z : i = c
      · rw [if_pos z, if_neg (by omega)]
      · rw [if_neg z]; exact i2 i (by omega)
    · rw [nI_1]
      refine ih _ ⟨fr_tr i1 (fr_ha rfl), fun i h9 => ?_⟩
      rw [OW_set]
      by_cases z : i = c
      · rw [if_pos z, if_pos (by omega)]; rfl
      · rw [if_neg z]; exact i2 i (by omega)
  · rintro s ⟨i1, i2⟩
    refine x_mo_stepsBy_3 (pk_le 64 64 (fun _ => fe ?_) (fun q => by omega))
    have d0 : ∀ t, t < 64 → (rsD g a t 0 ↔ t = a) := by
      intro t _
      constructor
      · intro q
        have := q.1
        rw [rsN, bL_one ha] at this
        exact of_decide_eq_true this
      · rintro rfl
        exact ⟨by rw [rsN, bL_one ha]; simp, fun i hi => by omega⟩
    refine lp_up (N := 64) (fun n (s : gk_H) => g_mo_stepsBy_39 E (d + 2) (gk_qi K) (nI p) (nI b) (nI n) s) (fun n s => fr (fun k => k = 138) h s ∧ Ph g a n 0 0 (s.2.1 138)) ?_ ?_ 0 s (by decide) ⟨i1, fun t ht => ?_⟩
    · clear i1 i2 s
      rintro n s hn ⟨i1, i2⟩ ih
      refine x_mo_stepsBy_39 (pk_le 64 n (fun q => by omega) (fun _ => fe ?_))
      refine lp_up (N := 64) (fun c (s : gk_H) => g_mo_stepsBy_49 E (d + 2) (gk_qi K) (nI p) (nI b) (nI n) (nI c) s) (fun c s => fr (fun k => k = 138) h s ∧ Ph g a n c 0 (s.2.1 138)) ?_ ?_ 0 s (by decide) ⟨i1, i2⟩
      · clear i1 i2 s
        rintro c s hc ⟨i1, i2⟩ ihc
        refine x_mo_stepsBy_49 (pk_le 64 c (fun q => by omega) (fun _ => fe ?_))
        refine lp_up (N := 64) (fun o (s : gk_H) => g_mo_stepsBy_59 E (d + 2) (gk_qi K) (nI p) (nI b) (nI n) (nI c) (nI o) s) (fun o s => fr (fun k => k = 138) h s ∧ Ph g a n c o (s.2.1 138)) ?_ ?_ 0 s (by decide) ⟨i1, i2⟩
        · clear i1 i2 s
          rintro o s ho ⟨i1, i2⟩ iho
          have no : ((rsD g a c n ∧ (∀ k, k ≤ n → ¬ rsD g a o k) ∧ adj c o ∧ nb_bitL g o = true) → s.2.1 138 o = nI (n + 1)) → ∀ y : Int32, y = nI o + 1 → g_mo_stepsBy_59 E (d + 2) (gk_qi K) (nI p) (nI b) (nI n) (nI c) y s := by
            rintro q _ rfl
            rw [nI_1]
            refine iho s ⟨i1, fun t ht => ?_⟩
            obtain ⟨w1, w2⟩ := i2 t ht
            refine ⟨w1, fun z => ⟨?_, fun x => (w2 z).2 ?_⟩⟩
            · rintro ⟨c', x1, x2, x3, x4, x5⟩
              by_cases y : c' = c ∧ t = o
              · obtain ⟨rfl, rfl⟩ := y
                exact q ⟨x3, z, x4, x5⟩
              · exact (w2 z).1 ⟨c', x1, by omega, x3, x4, x5⟩
            · rintro ⟨c', x1, x2, x3⟩
              exact x ⟨c', x1, by omega, x3⟩
          obtain ⟨pc1, -⟩ := Ph_at hn hc i2
          obtain ⟨-, po2⟩ := Ph_at hn ho i2
          refine x_mo_stepsBy_59 (pk_le 64 o (fun q => by omega) (fun _ => ?_))
          rw [nI_clamp (n := c) (by omega), nI_clamp (n := o) (by omega), pc1]
          refine ⟨vp_in_nI hc (by decide), fun q => no (fun z => absurd z.1 q), fun q => ⟨vp_in_nI ho (by decide), fun q2 => no (fun z => ?_), fun q2 => s_mo_isBeside hc ho (fun q3 => yF (by decide) (s_mo_dryCell hp ho (MG_fr i1 (by decide) hg) (bsel (fun q4 => no (fun z => by have z4 := z.2.2.2; rw [q4] at z4; cases z4)) (fun q4 => ⟨vp_in_nI ho (by decide), fe (fe ?_)⟩)))) (fun q3 => yT rfl (no (fun z => absurd z.2.2.1 q3)))⟩⟩
          · obtain ⟨w1, w2⟩ := i2 o ho
            by_cases y : ∃ c', c' < 64 ∧ (c' < c ∨ (c' = c ∧ o < o)) ∧ rsD g a c' n ∧ adj c' o ∧ nb_bitL g o = true
            · exact (w2 z.2.1).1 y
            · exact absurd ((w2 z.2.1).2 y) q2
          · rw [nI_1, nI_1]
            refine iho _ ⟨fr_tr i1 (fr_ha rfl), fun t ht => ?_⟩
            obtain ⟨w1, w2⟩ := i2 t ht
            rw [OW_set]
            by_cases y : t = o
            · subst y
              rw [if_pos rfl]
              exact ⟨fun k hk z => absurd z (po2 q2 k hk), fun _ => ⟨fun _ => rfl, fun z => absurd ⟨c, hc, Or.inr ⟨rfl, by omega⟩, q, q3, q4⟩ z⟩⟩
            · rw [if_neg y]
              refine ⟨w1, fun z => ⟨?_, fun x => (w2 z).2 ?_⟩⟩
              · rintro ⟨c', x1, x2, x3⟩
                exact (w2 z).1 ⟨c', x1, by omega, x3⟩
              · rintro ⟨c', x1, x2, x3⟩
                exact x ⟨c', x1, by omega, x3⟩
        · rintro s ⟨i1, i2⟩
          refine x_mo_stepsBy_59 (pk_le 64 64 (fun _ => fe ?_) (fun q => by omega))
          rw [nI_1]
          exact ihc s ⟨i1, Ph_c i2 fun c' t h1 h2 _ _ _ _ => by omega⟩
      · rintro s ⟨i1, i2⟩
        refine x_mo_stepsBy_49 (pk_le 64 64 (fun _ => fe ?_) (fun q => by omega))
        rw [nI_1]
        exact ih s ⟨i1, Ph_nx i2⟩
    · clear i1 i2 s
      rintro s ⟨i1, i2⟩
      refine x_mo_stepsBy_39 (pk_le 64 64 (fun _ => ⟨vp_in_nI hb (by decide), ?_⟩) (fun q => by omega))
      rw [nI_clamp (by omega)]
      obtain ⟨w1, w2⟩ := i2 b hb
      show K (s.2.1 138 b) s
      by_cases z : ∃ k, rsD g a b k
      · obtain ⟨k, hk⟩ := z
        rw [w1 k (by have := rsD_lt ha hk; omega) hk]
        exact k1 s k i1 hk
      · rw [(w2 (fun k _ y => z ⟨k, y⟩)).2 (fun ⟨c', _, y, _⟩ => by omega)]
        exact k0 s i1 z
    · rw [i2 t ht]
      by_cases z : t = a
      · rw [if_pos z]
        refine ⟨fun k hk w => by rw [show k = 0 by omega], fun q => absurd ((d0 t ht).mpr z) (q 0 (Nat.le_refl _))⟩
      · rw [if_neg z]
        refine ⟨fun k hk w => absurd ((d0 t ht).mp (by rw [show k = 0 by omega] at w; exact w)) z, fun q => ⟨fun ⟨c', _, y, _⟩ => by omega, fun _ => rfl⟩⟩
