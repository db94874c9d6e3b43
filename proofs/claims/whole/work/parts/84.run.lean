/-! THE LAW's codes, run on both sides -/
theorem sg_cons (op ar : Nat → Int32) : ∀ (n a : Nat), sg op ar a (n + 1) = (op a, ar a) :: sg op ar (a + 1) n := by
  intro n
  induction n with
  | zero => intro a; rfl
  | succ n ih =>
    intro a
    rw [sg, ih a, sg, List.cons_append, show a + 1 + n = a + (n + 1) by omega]
def stA (f : Nat → Int32) : List Int32 → Prop
  | [] => True
  | v :: t => f t.length = v ∧ stA f t
theorem stA_c {f g : Nat → Int32} : ∀ {s : List Int32}, (∀ i, i < s.length → f i = g i) → stA f s → stA g s := by
  intro s
  induction s with
  | nil => intro _ _; trivial
  | cons v t ih =>
    intro h hs
    exact ⟨by rw [← h _ (by simp)]; exact hs.1, ih (fun i hi => h i (by simp; omega)) hs.2⟩
theorem stA_push {h : gk_H} {k : Nat} {v : Int32} {s : List Int32} (hs : stA (h.2.1 k) s) : stA ((gk_ha h k s.length v).2.1 k) (v :: s) := by
  refine ⟨by rw [OW_set, if_pos rfl], stA_c (fun i hi => ?_) hs⟩
  rw [OW_set, if_neg (by omega)]
theorem rC_step {κ : Nat → Int32} {x : Int32 × Int32} {r : gSg} {s t : List Int32} (h : rC κ (x :: r) s = some t) : ∃ u, stC κ x s = some u ∧ rC κ r u = some t := by
  rw [rC] at h
  cases e : stC κ x s with
  | none => rw [e] at h; cases h
  | some u => rw [e] at h; exact ⟨u, rfl, h⟩
theorem rR_step {κ : Nat → Int32} {x : Int32 × Int32} {r : gSg} {s t : List Int32} (h : rR κ (x :: r) s = some t) : ∃ u, stR κ x s = some u ∧ rR κ r u = some t := by
  rw [rR] at h
  cases e : stR κ x s with
  | none => rw [e] at h; cases h
  | some u => rw [e] at h; exact ⟨u, rfl, h⟩
theorem rC_k {κ κ' : Nat → Int32} (e : ∀ i, i < 9 → κ i = κ' i) : ∀ (r : gSg) (s : List Int32), rC κ r s = rC κ' r s := by
  intro r
  induction r with
  | nil => intro s; rfl
  | cons x r ih =>
    intro s
    have : stC κ x s = stC κ' x s := by
      unfold stC
      by_cases z : s.length < 22 ∧ 0 ≤ x.2 ∧ x.2 < 9
      · rw [if_pos z, if_pos z]
        have : κ x.2.toNatClampNeg = κ' x.2.toNatClampNeg := by
          obtain ⟨j, hj, ej⟩ := nI_of (Int32.not_lt.mpr z.2.1)
          have h9 := z.2.2
          rw [ej] at h9 ⊢
          rw [nI_clamp hj]
          exact e j ((nI_ltI (b := 9) hj (by decide)).mp h9)
        rw [this]
      · rw [if_neg z, if_neg z]
    rw [rC, rC, this]
    cases stC κ' x s with
    | none => rfl
    | some u => exact ih u
theorem rR_k {κ κ' : Nat → Int32} (e : ∀ i, i < 9 → κ i = κ' i) : ∀ (r : gSg) (s : List Int32), rR κ r s = rR κ' r s := by
  intro r
  induction r with
  | nil => intro s; rfl
  | cons x r ih =>
    intro s
    have : stR κ x s = stR κ' x s := by
      unfold stR
      by_cases z : s.length < 400 ∧ 0 ≤ x.2 ∧ x.2 < 9
      · rw [if_pos z, if_pos z]
        have : κ x.2.toNatClampNeg = κ' x.2.toNatClampNeg := by
          obtain ⟨j, hj, ej⟩ := nI_of (Int32.not_lt.mpr z.2.1)
          have h9 := z.2.2
          rw [ej] at h9 ⊢
          rw [nI_clamp hj]
          exact e j ((nI_ltI (b := 9) hj (by decide)).mp h9)
        rw [this]
      · rw [if_neg z, if_neg z]
    rw [rR, rR, this]
    cases stR κ' x s with
    | none => rfl
    | some u => exact ih u
section RUN
variable {E : gk_E} {d : Nat} {h : gk_H} {K : Int32 → gk_H → Prop}
theorem s_te_joined {op a b : Int32} (hk : K (opJ op a b) h) : gk_ci E (d + 1) jte_joined [.int op, .int a, .int b] h K := by
  unfold opJ at hk
  refine gk_ci_mk (x_te_joined ?_)
  refine ⟨fun q => ?_, fun q2 => ⟨fun q => ?_, fun q3 => ⟨fun q => ?_, fun q4 => ⟨fun q => ?_, fun q5 => ⟨fun q => ⟨fun z => ?_, fun z => ?_⟩, fun q6 => ⟨fun q => ⟨fun z => ?_, fun z => ?_⟩, fun q7 => ⟨fun q => ⟨fun z => ?_, fun z => ?_⟩, fun q8 => ⟨fun q => ?_, fun q9 => ⟨fun q => ?_, fun q10 => ⟨fun q => ?_, fun q11 => ?_⟩⟩⟩⟩⟩⟩⟩⟩⟩⟩
  · rw [if_pos q] at hk; exact hk
  · rw [if_neg q2, if_pos q] at hk; exact hk
  · rw [if_neg q2, if_neg q3, if_pos q] at hk; exact hk
  · rw [q] at hk; exact hk
  · rw [if_neg q2, if_neg q3, if_neg q4, if_pos q, if_neg (Int32.not_lt.mpr z)] at hk; exact hk
  · rw [if_neg q2, if_neg q3, if_neg q4, if_pos q, if_pos (Int32.not_le.mp z)] at hk; exact hk
  · rw [if_neg q2, if_neg q3, if_neg q4, if_neg q6, if_pos q, if_neg z] at hk; exact hk
  · rw [if_neg q2, if_neg q3, if_neg q4, if_neg q6, if_pos q, if_pos z] at hk; exact hk
  · rw [if_neg q2, if_neg q3, if_neg q4, if_neg q6, if_neg q7, if_pos q, if_neg (Int32.not_lt.mpr z)] at hk; exact hk
  · rw [if_neg q2, if_neg q3, if_neg q4, if_neg q6, if_neg q7, if_pos q, if_pos (Int32.not_le.mp z)] at hk; exact hk
  · rw [q] at hk; exact hk
  · rw [if_neg q2, if_neg q3, if_neg q4, if_neg q6, if_neg q7, if_neg q8, if_pos q] at hk; exact hk
  · rw [if_neg q2, if_neg q3, if_neg q4, if_neg q6, if_neg q7, if_neg q8, if_neg q10, if_pos q] at hk; exact hk
  · rw [if_neg q2, if_neg q3, if_neg q4, if_neg q6, if_neg q7, if_neg q8, if_neg q10, if_neg q11] at hk; exact hk
theorem s_mo_twoOf {op a b : Int32} (h5 : ¬ (op = 5 ∧ b = 0)) (hk : K (opR op a b) h) : gk_ci E (d + 1) jmo_twoOf [.ref 112, .int op, .int a, .int b] h K := by
  unfold opR at hk
  refine gk_ci_mk (x_mo_twoOf ?_)
  refine ⟨fun q2 => ⟨fun q3 => ⟨fun q4 => ⟨fun q5 => ⟨fun q6 => ⟨fun q7 => ⟨fun q8 => ⟨fun q10 => ⟨fun z => ?_, fun z => ?_⟩, fun q => ?_⟩, fun q => ⟨fun z => ?_, fun z => ?_⟩⟩, fun q => ⟨fun z => ?_, fun z => ?_⟩⟩, fun q => ⟨fun z => ?_, fun z => ?_⟩⟩, fun q => ⟨fun z => h5 ⟨q, z⟩, ?_⟩⟩, fun q => ?_⟩, fun q => ?_⟩, fun q => ?_⟩
  · rw [if_neg q2, if_neg q3, if_neg q4, if_neg q5, if_neg q6, if_neg q7, if_neg q8, if_neg q10, if_neg (Int32.not_lt.mpr z)] at hk; exact hk
  · rw [if_neg q2, if_neg q3, if_neg q4, if_neg q5, if_neg q6, if_neg q7, if_neg q8, if_neg q10, if_pos (Int32.not_le.mp z)] at hk; exact hk
  · rw [if_neg q2, if_neg q3, if_neg q4, if_neg q5, if_neg q6, if_neg q7, if_neg q8, if_pos q] at hk; exact hk
  · rw [if_neg q2, if_neg q3, if_neg q4, if_neg q5, if_neg q6, if_neg q7, if_pos q, if_neg (Int32.not_lt.mpr z)] at hk; exact hk
  · rw [if_neg q2, if_neg q3, if_neg q4, if_neg q5, if_neg q6, if_neg q7, if_pos q, if_pos (Int32.not_le.mp z)] at hk; exact hk
  · rw [if_neg q2, if_neg q3, if_neg q4, if_neg q5, if_neg q6, if_pos q, if_neg z] at hk; exact hk
  · rw [if_neg q2, if_neg q3, if_neg q4, if_neg q5, if_neg q6, if_pos q, if_pos z] at hk; exact hk
  · rw [if_neg q2, if_neg q3, if_neg q4, if_neg q5, if_pos q, if_neg (Int32.not_lt.mpr z)] at hk; exact hk
  · rw [if_neg q2, if_neg q3, if_neg q4, if_neg q5, if_pos q, if_pos (Int32.not_le.mp z)] at hk; exact hk
  · rw [if_neg q2, if_neg q3, if_neg q4, if_pos q] at hk; exact hk
  · rw [if_neg q2, if_neg q3, if_pos q] at hk; exact hk
  · rw [if_neg q2, if_pos q] at hk; exact hk
  · rw [if_pos q] at hk; exact hk
theorem s_te_run {a n : Nat} {v : Int32} (ha : a + n ≤ 400) (hr : rC (h.2.1 77) (sg (h.2.1 13) (h.2.1 14) a n) [] = some [v]) (hk : ∀ h', fr (fun k => k = 78) h h' → K v h') : gk_ci E (d + 2) jte_run [.ref 76, .int (nI a), .int (nI (a + n))] h K := by
  refine gk_ci_mk (x_te_run (fe (fe ?_)))
  have key : ∀ (m i : Nat) (s : List Int32) (u : gk_H), i + m = n → fr (fun k => k = 78) h u → s.length ≤ 22 → stA (u.2.1 78) s → rC (h.2.1 77) (sg (h.2.1 13) (h.2.1 14) (a + i) m) s = some [v] → g_te_run_5 E (d + 1) (gk_qi K) (nI (a + n)) (nI s.length) (nI (a + i)) u := by
    intro m
    induction m with
    | zero =>
      intro i s u hi f1 hl hs hc
      have hc : some s = some [v] := hc
      cases hc
      refine x_te_run_5 (pk_le (a + n) (a + i) (fun _ => zT rfl ⟨vpi (by decide), ?_⟩) (fun q => by omega))
      have e : u.2.1 78 (0 : Int32).toNatClampNeg = v := hs.1
      rw [e]
      exact hk u f1
    | succ m ih =>
      intro i s u hi f1 hl hs hc
      rw [sg_cons] at hc
      obtain ⟨s', c1, c2⟩ := rC_step hc
      have e13 : u.2.1 13 = h.2.1 13 := (f1 13 (by decide)).2.1
      have e14 : u.2.1 14 = h.2.1 14 := (f1 14 (by decide)).2.1
      have e77 : u.2.1 77 = h.2.1 77 := (f1 77 (by decide)).2.1
      have go : ∀ (u' : gk_H) (y3 : Int32), fr (fun k => k = 78) h u' → s'.length ≤ 22 → stA (u'.2.1 78) s' → y3 = nI s'.length → ∀ y4 : Int32, y4 = nI (a + i) + 1 → g_te_run_5 E (d + 1) (gk_qi K) (nI (a + n)) y3 y4 u' := by
        rintro u' _ g1 g2 g3 rfl _ rfl
        rw [nI_1]
        exact ih (i + 1) s' u' (by omega) g1 g2 g3 c2
      refine x_te_run_5 (pk_le (a + n) (a + i) (fun q => by omega) (fun _ => pk_le 400 (a + i) (fun q => by omega) (fun _ => ⟨vp_in_nI (by omega) (by decide), ?_⟩)))
      rw [nI_clamp (n := a + i) (by omega), e13, e14, e77]
      refine fe ⟨vp_in_nI (by omega) (by decide), fe ?_⟩
      generalize h.2.1 13 (a + i) = op at c1 ⊢
      generalize h.2.1 14 (a + i) = ar at c1 ⊢
      unfold stC at c1
      have c1 : (if op = 0 then _ else _) = _ := c1
      by_cases q0 : op = 0
      · rw [if_pos q0] at c1
        have c1 : (if s.length < 22 ∧ 0 ≤ ar then some (ar :: s) else none) = some s' := c1
        by_cases q : s.length < 22 ∧ 0 ≤ ar
        · rw [if_pos q] at c1
          cases c1
          have n1 : ¬ op = 1 := by rw [q0]; decide
          refine yF (by rw [q0]; decide) (yF (nI_ge (a := s.length) (b := 22) q.1 (by decide)) (yF (Int32.not_lt.mpr q.2) (zF n1 (zF n1 ⟨vp_in_nI q.1 (by decide), ?_⟩))))
          rw [nI_clamp (by omega)]
          refine fe (fun x3 e3 => go _ x3 (fr_tr f1 (fr_ha rfl)) (by show s.length + 1 ≤ 22; omega) (stA_push hs) ?_)
          rw [e3, nI_1]; rfl
        · rw [if_neg q] at c1; cases c1
      rw [if_neg q0] at c1
      by_cases q1 : op = 1
      · rw [if_pos q1] at c1
        have c1 : (if s.length < 22 ∧ 0 ≤ ar ∧ ar < 9 then some (h.2.1 77 ar.toNatClampNeg :: s) else none) = some s' := c1
        by_cases q : s.length < 22 ∧ 0 ≤ ar ∧ ar < 9
        · rw [if_pos q] at c1
          cases c1
          refine yF (by rw [q1]; decide) (yF (nI_ge (a := s.length) (b := 22) q.1 (by decide)) (yF (Int32.not_lt.mpr q.2.1) (zT q1 (yT q.2.2 (zT q1 ⟨?_, vp_in_nI q.1 (by decide), ?_⟩)))))
          · obtain ⟨j, hj, ej⟩ := nI_of (Int32.not_lt.mpr q.2.1)
            have h9 := q.2.2
            rw [ej] at h9 ⊢
            exact vp_in_nI ((nI_ltI (b := 9) hj (by decide)).mp h9) (by decide)
          · rw [nI_clamp (n := s.length) (by omega)]
            refine fe (fun x3 e3 => go _ x3 (fr_tr f1 (fr_ha rfl)) (by show s.length + 1 ≤ 22; omega) (stA_push hs) ?_)
            rw [e3, nI_1]; rfl
        · rw [if_neg q] at c1; cases c1
      rw [if_neg q1] at c1
      have one : ∀ (w : Int32) (t : List Int32), s = w :: t → ∀ r : Int32, s' = r :: t → ∀ u', u' = gk_ha u 78 (nI s.length - 1).toNatClampNeg r → ∀ y4 : Int32, y4 = nI (a + i) + 1 → g_te_run_5 E (d + 1) (gk_qi K) (nI (a + n)) (nI s.length) y4 u' := by
        rintro w t rfl r rfl _ rfl
        have e : (nI (w :: t).length - 1).toNatClampNeg = t.length := by
          have : nI (w :: t).length - 1 = nI t.length := nI_pred t.length
          rw [this, nI_clamp (by have : (w :: t).length = t.length + 1 := rfl; omega)]
        rw [e]
        refine go _ (nI (w :: t).length) (fr_tr f1 (fr_ha rfl)) hl ?_ rfl
        exact stA_push hs.2
      by_cases q5 : op = 5
      · rw [if_pos q5] at c1
        cases s with
        | nil => cases c1
        | cons w t =>
          have c1 : (if ar = 0 then none else some (w / ar :: t)) = some s' := c1
          by_cases q : ar = 0
          · rw [if_pos q] at c1; cases c1
          · rw [if_neg q] at c1
            cases c1
            have lt : t.length < 22 := by have : (w :: t).length = t.length + 1 := rfl; omega
            have e1 : nI (w :: t).length - 1 = nI t.length := nI_pred t.length
            have ew : u.2.1 78 (nI (w :: t).length - 1).toNatClampNeg = w := by rw [e1, nI_clamp (by omega)]; exact hs.1
            refine yT (by rw [q5]; decide) (yT q5 (yT (nI_le (a := 1) (by show 1 ≤ t.length + 1; omega) (by show t.length + 1 < _; omega)) ⟨by rw [e1]; exact vp_in_nI lt (by decide), ?_⟩))
            rw [ew]
            refine gk_ci_mk (x_te_changed (zF (by rw [q5]; decide) (zF q ⟨q, by rw [e1]; exact vp_in_nI lt (by decide), one w t rfl (w / ar) rfl⟩)))
      rw [if_neg q5] at c1
      by_cases q9 : op = 9
      · rw [if_pos q9] at c1
        cases s with
        | nil => cases c1
        | cons w t =>
          have c1 : some ((1 - w) :: t) = some s' := c1
          cases c1
          have lt : t.length < 22 := by have : (w :: t).length = t.length + 1 := rfl; omega
          have e1 : nI (w :: t).length - 1 = nI t.length := nI_pred t.length
          have ew : u.2.1 78 (nI (w :: t).length - 1).toNatClampNeg = w := by rw [e1, nI_clamp (by omega)]; exact hs.1
          refine yT (by rw [q9]; decide) (yF q5 (zT q9 (yT (nI_le (a := 1) (by show 1 ≤ t.length + 1; omega) (by show t.length + 1 < _; omega)) ⟨by rw [e1]; exact vp_in_nI lt (by decide), ?_⟩)))
          rw [ew]
          exact gk_ci_mk (x_te_changed (zT q9 ⟨by rw [e1]; exact vp_in_nI lt (by decide), one w t rfl (1 - w) rfl⟩))
      rw [if_neg q9] at c1
      by_cases q2 : 2 ≤ op
      · rw [if_pos q2] at c1
        match s, hs, hl, c1, one with
        | [], _, _, c1, _ => cases c1
        | [_], _, _, c1, _ => cases c1
        | y :: x :: t, hs, hl, c1, _ =>
          have c1 : some (opJ op x y :: t) = some s' := c1
          cases c1
          have ll : (y :: x :: t).length = t.length + 2 := rfl
          have lt : t.length + 1 < 22 := by omega
          refine yT (Int32.not_le.mp fun z => absurd (Int32.le_trans q2 z) (by decide)) (yF q5 (zF q9 (yT (nI_le (a := 2) (by omega) (by omega)) ?_)))
          have em : nI (y :: x :: t).length + (-1) = nI (t.length + 1) := pk_m1 (t.length + 1)
          intro x3 e3
          rw [em] at e3
          subst e3
          have ep : nI (t.length + 1) - 1 = nI t.length := nI_pred t.length
          rw [ep, nI_clamp (n := t.length) (by omega), nI_clamp (n := t.length + 1) (by omega)]
          have e1 : u.2.1 78 (t.length + 1) = y := hs.1
          have e2 : u.2.1 78 t.length = x := hs.2.1
          rw [e1, e2]
          refine ⟨vp_in_nI (by omega) (by decide), vp_in_nI lt (by decide), s_te_joined ⟨vp_in_nI (by omega) (by decide), fe (go _ _ (fr_tr f1 (fr_ha rfl)) (by show t.length + 1 ≤ 22; omega) (stA_push hs.2.2) rfl)⟩⟩
      · rw [if_neg q2] at c1; cases c1
  exact key n 0 [] h (by omega) fr_rf (by decide) trivial hr
theorem s_mo_runs {a n : Nat} {v : Int32} (ha : a + n ≤ 400) (hr : rR (h.2.1 131) (sg (h.2.1 125) (h.2.1 126) a n) [] = some [v]) (hk : ∀ h', fr (fun k => k = 132) h h' → K v h') : gk_ci E (d + 2) jmo_runs [.ref 112, .int 0, .int (nI a), .int (nI (a + n))] h K := by
  have z4 : ∀ x : Nat, (400 : Int32) * 0 + nI x = nI x := fun x => by rw [show (400 : Int32) * 0 = 0 by decide, Int32.zero_add]
  refine gk_ci_mk (x_mo_runs (fe (fe ?_)))
  rw [z4]
  have key : ∀ (m i : Nat) (s : List Int32) (u : gk_H), i + m = n → fr (fun k => k = 132) h u → s.length ≤ i → stA (u.2.1 132) s → rR (h.2.1 131) (sg (h.2.1 125) (h.2.1 126) (a + i) m) s = some [v] → g_mo_runs_12 E (d + 1) (gk_qi K) 0 (nI (a + n)) (nI s.length) (nI (a + i)) u := by
    intro m
    induction m with
    | zero =>
      intro i s u hi f1 hl hs hc
      have hc : some s = some [v] := hc
      cases hc
      refine x_mo_runs_12 ?_
      unfold w_mo_runs_12
      rw [z4]
      refine pk_le (a + n) (a + i) (fun _ => ⟨vpi (by decide), ?_⟩) (fun q => by omega)
      have e : u.2.1 132 (0 : Int32).toNatClampNeg = v := hs.1
      rw [e]
      exact hk u f1
    | succ m ih =>
      intro i s u hi f1 hl hs hc
      rw [sg_cons] at hc
      obtain ⟨s', c1, c2⟩ := rR_step hc
      have e13 : u.2.1 125 = h.2.1 125 := (f1 125 (by decide)).2.1
      have e14 : u.2.1 126 = h.2.1 126 := (f1 126 (by decide)).2.1
      have e77 : u.2.1 131 = h.2.1 131 := (f1 131 (by decide)).2.1
      have go : ∀ (u' : gk_H) (y3 : Int32), fr (fun k => k = 132) h u' → s'.length ≤ i + 1 → stA (u'.2.1 132) s' → y3 = nI s'.length → ∀ y4 : Int32, y4 = nI (a + i) + 1 → g_mo_runs_12 E (d + 1) (gk_qi K) 0 (nI (a + n)) y3 y4 u' := by
        rintro u' _ g1 g2 g3 rfl _ rfl
        rw [nI_1]
        exact ih (i + 1) s' u' (by omega) g1 g2 g3 c2
      have vi : vp_in (nI (a + i)) 1200 := vp_in_nI (by omega) (by decide)
      refine x_mo_runs_12 ?_
      unfold w_mo_runs_12
      rw [z4, nI_clamp (n := a + i) (by omega), e13, e14, e77]
      refine pk_le (a + n) (a + i) (fun q => by omega) (fun _ => ⟨vi, ?_⟩)
      generalize h.2.1 125 (a + i) = op at c1 ⊢
      generalize h.2.1 126 (a + i) = ar at c1 ⊢
      unfold stR at c1
      have c1 : (if op = 0 then _ else _) = _ := c1
      by_cases q0 : op = 0
      · rw [if_pos q0] at c1
        have c1 : (if s.length < 400 then some (ar :: s) else none) = some s' := c1
        by_cases q : s.length < 400
        · rw [if_pos q] at c1
          cases c1
          refine yT q0 ⟨vi, zT q0 ⟨vi, vp_in_nI (by omega) (by decide), ?_⟩⟩
          rw [nI_clamp (n := s.length) (by omega)]
          refine fe (fun x3 e3 => go _ x3 (fr_tr f1 (fr_ha rfl)) (by show s.length + 1 ≤ i + 1; omega) (stA_push hs) ?_)
          rw [e3, nI_1]; rfl
        · rw [if_neg q] at c1; cases c1
      rw [if_neg q0] at c1
      by_cases q1 : op = 1
      · rw [if_pos q1] at c1
        have c1 : (if s.length < 400 ∧ 0 ≤ ar ∧ ar < 9 then some (h.2.1 131 ar.toNatClampNeg :: s) else none) = some s' := c1
        by_cases q : s.length < 400 ∧ 0 ≤ ar ∧ ar < 9
        · rw [if_pos q] at c1
          cases c1
          refine yF q0 ⟨vi, zT q1 ⟨vi, zF q0 ⟨vi, ?_, vp_in_nI (by omega) (by decide), ?_⟩⟩⟩
          · obtain ⟨j, hj, ej⟩ := nI_of (Int32.not_lt.mpr q.2.1)
            have h9 := q.2.2
            rw [ej] at h9 ⊢
            exact vp_in_nI ((nI_ltI (b := 9) hj (by decide)).mp h9) (by decide)
          · rw [nI_clamp (n := s.length) (by omega)]
            refine fe (fun x3 e3 => go _ x3 (fr_tr f1 (fr_ha rfl)) (by show s.length + 1 ≤ i + 1; omega) (stA_push hs) ?_)
            rw [e3, nI_1]; rfl
        · rw [if_neg q] at c1; cases c1
      rw [if_neg q1] at c1
      by_cases q9 : op = 9
      · rw [if_pos q9] at c1
        cases s with
        | nil => cases c1
        | cons w t =>
          have c1 : some ((1 - w) :: t) = some s' := c1
          cases c1
          have ll : (w :: t).length = t.length + 1 := rfl
          have e1 : nI (w :: t).length - 1 = nI t.length := nI_pred t.length
          refine yF q0 ⟨vi, zF q1 ⟨vi, zT q9 ?_⟩⟩
          rw [e1, nI_clamp (n := t.length) (by omega)]
          have ew : u.2.1 132 t.length = w := hs.1
          rw [ew]
          exact ⟨vp_in_nI (by omega) (by decide), vp_in_nI (by omega) (by decide), fe (go _ _ (fr_tr f1 (fr_ha rfl)) (by show t.length + 1 ≤ i + 1; omega) (stA_push hs.2) rfl)⟩
      rw [if_neg q9] at c1
      match s, hs, hl, c1 with
      | [], _, _, c1 => cases c1
      | [_], _, _, c1 => cases c1
      | y :: x :: t, hs, hl, c1 =>
        have c1 : (if op = 5 ∧ y = 0 then none else some (opR op x y :: t)) = some s' := c1
        by_cases q : op = 5 ∧ y = 0
        · rw [if_pos q] at c1; cases c1
        · rw [if_neg q] at c1
          cases c1
          have ll : (y :: x :: t).length = t.length + 2 := rfl
          refine yF q0 ⟨vi, zF q1 ⟨vi, zF q9 ?_⟩⟩
          have em : nI (y :: x :: t).length - 1 = nI (t.length + 1) := nI_pred (t.length + 1)
          intro x3 e3
          rw [em] at e3
          subst e3
          have ep : nI (t.length + 1) - 1 = nI t.length := nI_pred t.length
          rw [ep, nI_clamp (n := t.length) (by omega), nI_clamp (n := t.length + 1) (by omega)]
          have e1 : u.2.1 132 (t.length + 1) = y := hs.1
          have e2 : u.2.1 132 t.length = x := hs.2.1
          rw [e1, e2]
          exact ⟨vi, vp_in_nI (by omega) (by decide), vp_in_nI (by omega) (by decide), s_mo_twoOf q ⟨vp_in_nI (by omega) (by decide), fe (go _ _ (fr_tr f1 (fr_ha rfl)) (by show t.length + 1 ≤ i + 1; omega) (stA_push hs.2.2) rfl)⟩⟩
  exact key n 0 [] h (by omega) fr_rf (Nat.le_refl _) trivial hr
end RUN
