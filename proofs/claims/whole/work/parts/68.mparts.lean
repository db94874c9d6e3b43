/-! parts, the reference -/
section MP1
variable {E : gk_E} {d : Nat} {h : gk_H} {K : Int32 → gk_H → Prop}
def apN (a b : Nat) : Nat := if a ≤ b then b - a else a - b
theorem s_mo_apart {a b : Nat} (ha : a < 2 ^ 31) (hb : b < 2 ^ 31) (hk : K (nI (apN a b)) h) : gk_ci E (d + 1) jmo_apart [.ref 112, .int (nI a), .int (nI b)] h K := by
  unfold apN at hk
  refine gk_ci_mk (x_mo_apart (pk_le a b (fun q => ?_) (fun q => ?_)))
  · rw [if_pos q] at hk; rw [pk_sub q]; exact hk
  · rw [if_neg (by omega)] at hk; rw [pk_sub (by omega)]; exact hk
theorem s_mo_isBeside {a b : Nat} (ha : a < 64) (hb : b < 64) (h1 : adj a b → K 1 h) (h0 : ¬ adj a b → K 0 h) : gk_ci E (d + 2) jmo_isBeside [.ref 112, .int (nI a), .int (nI b)] h K := by
  have e1 : ∀ c, c < 64 → nI c / 8 = nI (c / 8) := fun c hc => pk_div (d := 8) (by omega) (by omega) (by omega)
  have e2 : ∀ c, c < 64 → nI c - nI c / 8 * 8 = nI (c % 8) := fun c hc => pk_rem (d := 8) (by omega) (by omega) (by omega)
  refine gk_ci_mk (x_mo_isBeside ?_)
  unfold w_mo_isBeside
  rw [e2 a ha, e2 b hb, e1 a ha, e1 b hb]
  refine ⟨by decide, by decide, s_mo_apart (by omega) (by omega) ⟨by decide, by decide, s_mo_apart (by omega) (by omega) ?_⟩⟩
  rw [nI_add]
  have key : (apN (a / 8) (b / 8) + apN (a % 8) (b % 8) = 1) ↔ adj a b := by
    unfold apN adj
    split <;> split <;> omega
  have lt : apN (a / 8) (b / 8) + apN (a % 8) (b % 8) < 2 ^ 31 := by
    unfold apN
    split <;> split <;> omega
  have q1 : (nI (apN (a / 8) (b / 8) + apN (a % 8) (b % 8)) = 1) ↔ adj a b := by
    rw [← key]
    exact nI_eq (b := 1) lt (by decide)
  rw [q1]
  exact ⟨fun q => ⟨Or.inl rfl, h0 q⟩, fun q => ⟨Or.inr rfl, h1 q⟩⟩
theorem s_mo_isAtEdge {c : Nat} (hc : c < 64) (h1 : bord c → K 1 h) (h0 : ¬ bord c → K 0 h) : gk_ci E (d + 1) jmo_isAtEdge [.ref 112, .int (nI c)] h K := by
  have e1 : nI c / 8 = nI (c / 8) := pk_div (d := 8) (by omega) (by omega) (by omega)
  have e2 : nI c - nI c / 8 * 8 = nI (c % 8) := pk_rem (d := 8) (by omega) (by omega) (by omega)
  have e3 : nI (c / 8) - nI (c / 8) / 7 * 7 = nI (c / 8 % 7) := pk_rem (d := 7) (by omega) (by omega) (by omega)
  have e4 : nI (c % 8) - nI (c % 8) / 7 * 7 = nI (c % 8 % 7) := pk_rem (d := 7) (by omega) (by omega) (by omega)
  refine gk_ci_mk (x_mo_isAtEdge ?_)
  unfold w_mo_isAtEdge
  rw [e2, e1, e3, e4]
  refine ⟨by decide, by decide, pk_eq (c / 8 % 7) 0 (fun q => ⟨Or.inr rfl, h1 (by unfold bord; omega)⟩) (fun q => ⟨by decide, by decide, ?_⟩)⟩
  have := pk_eq (x := nI (c % 8 % 7)) (y := 0) (A := ((1 : Int32) = 0 ∨ (1 : Int32) = 1) ∧ K 1 h) (B := ((0 : Int32) = 0 ∨ (0 : Int32) = 1) ∧ K 0 h) (c % 8 % 7) 0 (fun q2 => ⟨Or.inr rfl, h1 (by unfold bord; omega)⟩) (fun q2 => ⟨Or.inl rfl, h0 (by unfold bord; omega)⟩)
  exact ⟨this.2, this.1⟩
end MP1
theorem sm_lt {f g : Nat → Nat} {k : Nat} : ∀ {n : Nat}, (∀ i, i ≠ k → f i = g i) → f k < g k → k < n → sm f n < sm g n := by
  intro n
  induction n with
  | zero => intro _ _ h; omega
  | succ n ih =>
    intro h1 h2 h3
    rw [sm, sm]
    by_cases q : k = n
    · subst q
      have : sm f k = sm g k := sm_congr fun i hi => h1 i (by omega)
      omega
    · have := ih h1 h2 (by omega)
      rw [h1 n (by omega)]; omega
/-- marks that lie within their part -/
def PJ (f : Nat → Bool) (m : Nat → Int32) : Prop := ∀ c, c < 64 → (f c = false → m c = -1) ∧ (f c = true → ∃ a, a ≤ c ∧ m c = nI a ∧ conn f c a)
def PM (f : Nat → Bool) (m : Nat → Int32) : Prop := ∀ c, c < 64 → (f c = false → m c = -1) ∧ (f c = true → ∃ a, a < 64 ∧ m c = nI a ∧ conn f c a ∧ lead f a)
def mu (f : Nat → Bool) (m : Nat → Int32) : Nat := sm (fun c => if f c then (m c).toNatClampNeg else 0) 64
theorem PM_of {f : Nat → Bool} {m : Nat → Int32} (hf2 : ∀ c, 64 ≤ c → f c = false) (j : PJ f m) (fx : ∀ c o, c < 64 → o < 64 → f c = true → f o = true → adj c o → ¬ m o < m c) : PM f m := by
  have lt : ∀ c, f c = true → c < 64 := fun c q => by
    rcases Nat.lt_or_ge c 64 with z | z
    · exact z
    · rw [hf2 c z] at q; cases q
  have same : ∀ c, f c = true → ∀ b, conn f c b → f b = true ∧ m b = m c := by
    intro c hc b hb
    refine hb (fun b => f b = true ∧ m b = m c) ⟨hc, rfl⟩ ?_
    intro x y hx hy hxy
    refine ⟨hy, ?_⟩
    rw [← hx.2]
    exact Int32.le_antisymm (Int32.not_lt.mp (fx y x (lt y hy) (lt x hx.1) hy hx.1 (adj_sy hxy))) (Int32.not_lt.mp (fx x y (lt x hx.1) (lt y hy) hx.1 hy hxy))
  intro c hc
  refine ⟨(j c hc).1, fun q => ?_⟩
  obtain ⟨a, a1, a2, a3⟩ := (j c hc).2 q
  have sa := same c q a a3
  refine ⟨a, lt a sa.1, a2, a3, sa.1, fun b hb => ?_⟩
  have sb := same a sa.1 b hb
  obtain ⟨a', b1, b2, b3⟩ := (j b (lt b sb.1)).2 sb.1
  have : nI a' = nI a := by rw [← b2, sb.2, sa.2, a2]
  have := (nI_eq (by have := lt b sb.1; omega) (by have := lt a sa.1; omega)).mp this
  omega
section MP2
variable {E : gk_E} {d : Nat} {h : gk_H} {K : gk_H → Prop} {f : Nat → Bool}
def I56 (f : Nat → Bool) (h0 : gk_H) (m0 : Nat → Int32) (c o : Nat) (s : Bool × gk_H) : Prop := fr (fun k => k = 134) h0 s.2 ∧ PJ f (s.2.2.1 134) ∧ ((s.1 = true ∧ mu f (s.2.2.1 134) < mu f m0) ∨ (s.1 = false ∧ s.2.2.1 134 = m0 ∧ ∀ c' o', c' < 64 → o' < 64 → (c' < c ∨ (c' = c ∧ o' < o)) → f c' = true → f o' = true → adj c' o' → ¬ m0 o' < m0 c'))
theorem I56_next {h0 : gk_H} {m0 : Nat → Int32} {c o : Nat} {s : Bool × gk_H} (hc : c < 64) (ho : o < 64) (i : I56 f h0 m0 c o s) (q : ¬ (f c = true ∧ f o = true ∧ adj c o ∧ s.2.2.1 134 o < s.2.2.1 134 c)) : I56 f h0 m0 c (o + 1) s := by
  obtain ⟨i1, i2, i3⟩ := i
  refine ⟨i1, i2, ?_⟩
  rcases i3 with i3 | ⟨i3, i4, i5⟩
  · exact Or.inl i3
  · refine Or.inr ⟨i3, i4, fun c' o' h1 h2 h3 h4 h5 h6 h7 => ?_⟩
    by_cases z : c' = c ∧ o' = o
    · obtain ⟨rfl, rfl⟩ := z
      rw [i4] at q
      exact q ⟨h4, h5, h6, h7⟩
    · exact i5 c' o' h1 h2 (by omega) h4 h5 h6 h7
theorem PJ_ne {m : Nat → Int32} {c : Nat} (hc : c < 64) (j : PJ f m) : m c = -1 ↔ f c = false := by
  constructor
  · intro q
    cases e : f c with
    | false => rfl
    | true =>
      obtain ⟨a, a1, a2, -⟩ := (j c hc).2 e
      rw [a2] at q
      have := nI_pos (n := a) (by omega)
      rw [q] at this
      exact absurd (by decide) this
  · exact (j c hc).1
theorem l_findsParts (hf2 : ∀ c, 64 ≤ c → f c = false) (h0 : gk_H) (hk : ∀ h', fr (fun k => k = 134) h0 h' → PM f (h'.2.1 134) → K h') : ∀ (N : Nat) (h : gk_H), fr (fun k => k = 134) h0 h → PJ f (h.2.1 134) → mu f (h.2.1 134) < N → g_mo_findsParts_37 E (d + 3) (gk_qv K) 1 h := by
  intro N
  induction N with
  | zero => intro h _ _ q; omega
  | succ N IH =>
    intro h hfr hj hmu
    refine x_mo_findsParts_37 (yF (by decide) ?_)
    rintro _ rfl _ rfl
    refine lp_up (N := 64) (fun c (s : Bool × gk_H) => g_mo_findsParts_46 E (d + 3) (gk_qv K) (nb_b s.1) (nI c) s.2) (fun c s => I56 f h0 (h.2.1 134) c 0 s) ?_ ?_ 0 (false, h) (by decide) ⟨hfr, hj, Or.inr ⟨rfl, rfl, fun c' o' _ _ z => by omega⟩⟩
    · intro c s hc hi ihc
      refine x_mo_findsParts_46 (pk_le 64 c (fun q => by omega) (fun _ => ?_))
      rintro _ rfl
      refine lp_up (N := 64) (fun o (s : Bool × gk_H) => g_mo_findsParts_56 E (d + 3) (gk_qv K) (nb_b s.1) (nI c) (nI o) s.2) (fun o s => I56 f h0 (h.2.1 134) c o s) ?_ ?_ 0 s (by decide) hi
      · intro o s ho hi iho
        have hj2 := hi.2.1
        have go : ¬ (f c = true ∧ f o = true ∧ adj c o ∧ s.2.2.1 134 o < s.2.2.1 134 c) → ∀ x : Int32, x = nI o + 1 → g_mo_findsParts_56 E (d + 3) (gk_qv K) (nb_b s.1) (nI c) x s.2 := by
          rintro q _ rfl
          rw [nI_1]
          exact iho s (I56_next hc ho hi q)
        refine x_mo_findsParts_56 (pk_le 64 o (fun q => by omega) (fun _ => ?_))
        rw [nI_clamp (n := c) (by omega), nI_clamp (n := o) (by omega)]
        refine ⟨vp_in_nI hc (by decide), fun q => go (fun z => ?_), fun q => ⟨vp_in_nI ho (by decide), fun q2 => go (fun z => ?_), fun q2 => ?_⟩⟩
        · rw [(PJ_ne hc hj2).mp q] at z; cases z.1
        · rw [(PJ_ne ho hj2).mp q2] at z; cases z.2.1
        · have fc : f c = true := by
            cases e : f c with
            | true => rfl
            | false => exact absurd ((PJ_ne hc hj2).mpr e) q
          have fo : f o = true := by
            cases e : f o with
            | true => rfl
            | false => exact absurd ((PJ_ne ho hj2).mpr e) q2
          refine s_mo_isBeside hc ho (fun ha => yF (by decide) ⟨vp_in_nI ho (by decide), vp_in_nI hc (by decide), fun q3 => ⟨vp_in_nI ho (by decide), vp_in_nI hc (by decide), ?_⟩, fun q3 => go (fun z => q3 z.2.2.2)⟩) (fun ha => yT rfl (go (fun z => ha z.2.2.1)))
          rintro _ rfl _ rfl _ rfl
          rw [nI_1]
          obtain ⟨ac, c1, c2, c3⟩ := (hj2 c hc).2 fc
          obtain ⟨ao, o1, o2, o3⟩ := (hj2 o ho).2 fo
          have lt : ao < ac := by
            rw [c2, o2] at q3
            exact (nI_ltI (by omega) (by omega)).mp q3
          have rd : ∀ i, (gk_ha s.2 134 c (s.2.2.1 134 o)).2.1 134 i = if i = c then nI ao else s.2.2.1 134 i := by
            intro i
            rw [ha_a, o2]
            by_cases z : i = c
            · rw [if_pos ⟨rfl, z⟩, if_pos z]
            · rw [if_neg (fun w => z w.2), if_neg z]
          refine iho (true, gk_ha s.2 134 c (s.2.2.1 134 o)) ⟨fr_tr hi.1 (fr_ha rfl), fun i hi9 => ?_, Or.inl ⟨rfl, ?_⟩⟩
          · show (f i = false → (gk_ha s.2 134 c (s.2.2.1 134 o)).2.1 134 i = -1) ∧ (f i = true → ∃ a, a ≤ i ∧ (gk_ha s.2 134 c (s.2.2.1 134 o)).2.1 134 i = nI a ∧ conn f i a)
            rw [rd i]
            by_cases z : i = c
            · subst z
              rw [if_pos rfl]
              exact ⟨fun w => absurd (fc.symm.trans w) (by decide), fun _ => ⟨ao, by omega, rfl, conn_tr (conn_st conn_rf fo ha) o3⟩⟩
            · rw [if_neg z]; exact hj2 i hi9
          · show mu f ((gk_ha s.2 134 c (s.2.2.1 134 o)).2.1 134) < mu f (h.2.1 134)
            have m1 : mu f ((gk_ha s.2 134 c (s.2.2.1 134 o)).2.1 134) < mu f (s.2.2.1 134) := by
              refine sm_lt (k := c) (fun i z => ?_) ?_ hc
              · simp only [rd i, if_neg z]
              · show (if f c then ((gk_ha s.2 134 c (s.2.2.1 134 o)).2.1 134 c).toNatClampNeg else 0) < (if f c then (s.2.2.1 134 c).toNatClampNeg else 0)
                rw [rd c, if_pos rfl, if_pos fc, if_pos fc, c2, nI_clamp (by omega), nI_clamp (by omega)]
                exact lt
            rcases hi.2.2 with w | w
            · have := w.2; omega
            · have e9 : s.2.2.1 134 = h.2.1 134 := w.2.1
              exact Nat.lt_of_lt_of_eq m1 (by rw [e9])
      · intro s hi
        refine x_mo_findsParts_56 (pk_le 64 64 (fun _ => ?_) (fun q => by omega))
        rintro _ rfl
        rw [nI_1]
        refine ihc s ⟨hi.1, hi.2.1, ?_⟩
        rcases hi.2.2 with w | ⟨w1, w2, w3⟩
        · exact Or.inl w
        · exact Or.inr ⟨w1, w2, fun c' o' z1 z2 z3 => w3 c' o' z1 z2 (by omega)⟩
    · intro s hi
      refine x_mo_findsParts_46 (pk_le 64 64 (fun _ => ?_) (fun q => by omega))
      obtain ⟨b, h1⟩ := s
      obtain ⟨i1, i2, i3⟩ := hi
      rcases i3 with ⟨rfl, w⟩ | ⟨rfl, w2, w3⟩
      · have w : mu f (h1.2.1 134) < mu f (h.2.1 134) := w
        exact IH h1 i1 i2 (by omega)
      · refine x_mo_findsParts_37 (yT rfl ?_)
        have w2 : h1.2.1 134 = h.2.1 134 := w2
        refine hk h1 i1 (PM_of hf2 i2 (fun c o z1 z2 z3 z4 z5 => ?_))
        show ¬ h1.2.1 134 o < h1.2.1 134 c
        rw [w2]
        exact w3 c o z1 z2 (Or.inl z1) z3 z4 z5
theorem MG_fr {S : Nat → Prop} {h h' : gk_H} {p : Nat} {g : Int64} (a : fr S h h') (hS : ¬ S 113) (m : MG h p g) : MG h' p g := fun r hr => by rw [(a 113 hS).2.1]; exact m r hr
theorem s_mo_findsParts {p : Nat} {g : Int64} {od : Bool} (hp : p < 10) (hg : MG h p g) (hf : ∀ c, c < 64 → f c = (nb_bitL g c == od)) (hf2 : ∀ c, 64 ≤ c → f c = false) (hk : ∀ h', fr (fun k => k = 134) h h' → PM f (h'.2.1 134) → K h') : gk_cv E (d + 4) jmo_findsParts [.ref 112, .int (nI p), .int (nb_b od)] h K := by
  refine gk_cv_mk (x_mo_findsParts ?_)
  rintro _ rfl
  refine lp_up (N := 64) (fun c (s : gk_H) => g_mo_findsParts_2 E (d + 3) (gk_qv K) (nI p) (nb_b od) (nI c) s) (fun c s => fr (fun k => k = 134) h s ∧ ∀ i, i < c → s.2.1 134 i = if f i then nI i else -1) ?_ ?_ 0 h (by decide) ⟨fr_rf, fun i hi => by omega⟩
  · rintro c s hc ⟨i1, i2⟩ ih
    refine x_mo_findsParts_2 (pk_le 64 c (fun q => by omega) (fun _ => ?_))
    refine s_mo_dryCell hp hc (MG_fr i1 (by decide) hg) ?_
    rw [nI_clamp (by omega)]
    have eb : (nb_b (nb_bitL g c) = nb_b od) ↔ f c = true := by
      rw [hf c hc]
      cases nb_bitL g c <;> cases od <;> decide
    rw [eb]
    refine ⟨fun q => ⟨vp_in_nI hc (by decide), ?_⟩, fun q => ⟨vp_in_nI hc (by decide), ?_⟩⟩
    · rintro _ rfl _ rfl
      rw [nI_1]
      refine ih _ ⟨fr_tr i1 (fr_ha rfl), fun i hi => ?_⟩
      rw [ha_a]
      by_cases z : i = c
      · subst z
        rw [if_pos ⟨rfl, rfl⟩, if_neg q]
      · rw [if_neg (fun w => z w.2)]; exact i2 i (by omega)
    · rintro _ rfl _ rfl
      rw [nI_1]
      refine ih _ ⟨fr_tr i1 (fr_ha rfl), fun i hi => ?_⟩
      rw [ha_a]
      by_cases z : i = c
      · subst z
        rw [if_pos ⟨rfl, rfl⟩, if_pos q]
      · rw [if_neg (fun w => z w.2)]; exact i2 i (by omega)
  · rintro s ⟨i1, i2⟩
    refine x_mo_findsParts_2 (pk_le 64 64 (fun _ => ?_) (fun q => by omega))
    rintro _ rfl
    refine l_findsParts (f := f) hf2 h hk _ s i1 (fun c hc => ?_) (Nat.lt_succ_self _)
    rw [i2 c hc]
    exact ⟨fun q => by rw [if_neg (by rw [q]; decide)], fun q => ⟨c, Nat.le_refl _, by rw [if_pos q], conn_rf⟩⟩
theorem PM_lead {m : Nat → Int32} {c : Nat} (hc : c < 64) (j : PM f m) : m c = nI c ↔ lead f c := by
  constructor
  · intro q
    cases e : f c with
    | false =>
      rw [(j c hc).1 e] at q
      have := nI_pos (n := c) (by omega)
      rw [← q] at this
      exact absurd (by decide) this
    | true =>
      obtain ⟨a, a1, a2, a3, a4⟩ := (j c hc).2 e
      have := (nI_eq (by omega) (by omega)).mp (a2.symm.trans q)
      subst this; exact a4
  · intro q
    obtain ⟨a, a1, a2, a3, a4⟩ := (j c hc).2 q.1
    have h1 := q.2 a a3
    have h2 := a4.2 c (conn_sy q.1 a3)
    rw [a2, show a = c by omega]
end MP2
section MP3
variable {E : gk_E} {d : Nat} {h : gk_H} {K : Int32 → gk_H → Prop} {f : Nat → Bool} {p : Nat} {g : Int64}
theorem s_mo_islandsOf (hp : p < 10) (hg : MG h p g) (hk : ∀ h', fr (fun k => k = 134) h h' → K (nI (nb_cnt (leadB (nb_bitL g)) 64)) h') : gk_ci E (d + 5) jmo_islandsOf [.ref 112, .int (nI p)] h K := by
  refine gk_ci_mk (x_mo_islandsOf ?_)
  refine s_mo_findsParts (f := nb_bitL g) (od := true) hp hg (fun c _ => by cases nb_bitL g c <;> rfl) (fun c hc => bL_ge hc) (fun h' a1 a2 => ?_)
  rintro _ rfl _ rfl
  refine lp_up (N := 64) (fun c (s : Int32) => g_mo_islandsOf_10 E (d + 4) (gk_qi K) s (nI c) h') (fun c s => s = nI (nb_cnt (leadB (nb_bitL g)) c)) ?_ ?_ 0 0 (by decide) rfl
  · rintro c s hc rfl ih
    refine x_mo_islandsOf_10 (pk_le 64 c (fun q => by omega) (fun _ => ⟨vp_in_nI hc (by decide), ?_⟩))
    rw [nI_clamp (by omega), PM_lead hc a2]
    refine ⟨fun q => ?_, fun q => ?_⟩
    · rintro _ rfl
      rw [nI_1]
      refine ih _ ?_
      have : leadB (nb_bitL g) c = false := by
        cases e : leadB (nb_bitL g) c with
        | false => rfl
        | true => exact absurd (leadB_iff.mp e) q
      rw [nb_cnt, this]; rfl
    · rintro _ rfl _ rfl
      rw [nI_1, nI_1]
      refine ih _ ?_
      rw [nb_cnt, leadB_iff.mpr q]; rfl
  · rintro s rfl
    exact x_mo_islandsOf_10 (pk_le 64 64 (fun _ => hk h' a1) (fun q => by omega))
theorem s_mo_comesOut {c0 : Nat} (hj : PM f (h.2.1 134)) (hf2 : ∀ c, 64 ≤ c → f c = false) (hl : lead f c0) (hk : K (nb_b (outB f c0)) h) : gk_ci E (d + 2) jmo_comesOut [.ref 112, .int (nI c0)] h K := by
  have lt : ∀ c, f c = true → c < 64 := fun c q => by
    rcases Nat.lt_or_ge c 64 with z | z
    · exact z
    · rw [hf2 c z] at q; cases q
  have hc0 := lt c0 hl.1
  have key : ∀ a, a < 64 → (h.2.1 134 a = nI c0 ↔ f a = true ∧ conn f a c0) := by
    intro a ha
    constructor
    · intro q
      cases e : f a with
      | false =>
        rw [(hj a ha).1 e] at q
        have := nI_pos (n := c0) (by omega)
        rw [← q] at this
        exact absurd (by decide) this
      | true =>
        obtain ⟨b, b1, b2, b3, b4⟩ := (hj a ha).2 e
        have := (nI_eq (by omega) (by omega)).mp (b2.symm.trans q)
        subst this; exact ⟨rfl, b3⟩
    · rintro ⟨q1, q2⟩
      obtain ⟨b, b1, b2, b3, b4⟩ := (hj a ha).2 q1
      have h1 := b4.2 c0 (conn_tr (conn_sy q1 b3) q2)
      have h2 := hl.2 b (conn_tr (conn_sy q1 q2) b3)
      rw [b2, show b = c0 by omega]
  refine gk_ci_mk (x_mo_comesOut ?_)
  rintro _ rfl
  refine lp_up (N := 64) (fun c (s : Unit) => g_mo_comesOut_2 E (d + 1) (gk_qi K) (nI c0) (nI c) h) (fun c s => ∀ a, a < c → ¬ (bord a ∧ f a = true ∧ conn f a c0)) ?_ ?_ 0 () (by decide) (fun a q => by omega)
  · intro c s hc hi ih
    have go : ¬ (bord c ∧ f c = true ∧ conn f c c0) → ∀ x : Int32, x = nI c + 1 → g_mo_comesOut_2 E (d + 1) (gk_qi K) (nI c0) x h := by
      rintro q _ rfl
      rw [nI_1]
      refine ih () fun a ha => ?_
      by_cases z : a = c
      · subst z; exact q
      · exact hi a (by omega)
    refine x_mo_comesOut_2 (pk_le 64 c (fun q => by omega) (fun _ => ⟨vp_in_nI hc (by decide), ?_⟩))
    rw [nI_clamp (by omega), key c hc]
    refine ⟨fun q => go (fun z => q z.2), fun q => s_mo_isAtEdge hc (fun b => yF (by decide) ⟨Or.inr rfl, ?_⟩) (fun b => yT rfl (go (fun z => b z.1)))⟩
    rw [outB_iff.mpr ⟨c, b, q⟩] at hk
    exact hk
  · intro s hi
    refine x_mo_comesOut_2 (pk_le 64 64 (fun _ => ⟨Or.inl rfl, ?_⟩) (fun q => by omega))
    have : outB f c0 = false := by
      cases e : outB f c0 with
      | false => rfl
      | true =>
        obtain ⟨a, a1, a2, a3⟩ := outB_iff.mp e
        exact absurd ⟨a1, a2, a3⟩ (hi a (lt a a2))
    rw [this] at hk
    exact hk
theorem s_mo_holesOf (hp : p < 10) (hg : MG h p g) (hk : ∀ h', fr (fun k => k = 134) h h' → K (nI (holN (nb_bitL (g ^^^ -1)))) h') : gk_ci E (d + 5) jmo_holesOf [.ref 112, .int (nI p)] h K := by
  refine gk_ci_mk (x_mo_holesOf ?_)
  have hf2 : ∀ c, 64 ≤ c → nb_bitL (g ^^^ -1) c = false := fun c hc => bL_ge hc
  refine s_mo_findsParts (f := nb_bitL (g ^^^ -1)) (od := false) hp hg (fun c hc => by rw [bL_not, decide_eq_true hc]; cases nb_bitL g c <;> rfl) hf2 (fun h' a1 a2 => ?_)
  rintro _ rfl _ rfl
  refine lp_up (N := 64) (fun c (s : Int32) => g_mo_holesOf_10 E (d + 4) (gk_qi K) s (nI c) h') (fun c s => s = nI (nb_cnt (fun c => leadB (nb_bitL (g ^^^ -1)) c && !outB (nb_bitL (g ^^^ -1)) c) c)) ?_ ?_ 0 0 (by decide) rfl
  · rintro c s hc rfl ih
    refine x_mo_holesOf_10 (pk_le 64 c (fun q => by omega) (fun _ => ⟨vp_in_nI hc (by decide), ?_⟩))
    rw [nI_clamp (by omega), PM_lead hc a2]
    refine ⟨fun q => ?_, fun q => s_mo_comesOut a2 hf2 q (bsel2 (fun z => ?_) (fun z => ?_))⟩
    · rintro _ rfl
      rw [nI_1]
      refine ih _ ?_
      have : leadB (nb_bitL (g ^^^ -1)) c = false := by
        cases e : leadB (nb_bitL (g ^^^ -1)) c with
        | false => rfl
        | true => exact absurd (leadB_iff.mp e) q
      rw [nb_cnt, this]; rfl
    · rintro _ rfl _ rfl
      rw [nI_1, nI_1]
      refine ih _ ?_
      rw [nb_cnt, leadB_iff.mpr q, z]; rfl
    · rintro _ rfl
      rw [nI_1]
      refine ih _ ?_
      rw [nb_cnt, leadB_iff.mpr q, z]; rfl
  · rintro s rfl
    exact x_mo_holesOf_10 (pk_le 64 64 (fun _ => hk h' a1) (fun q => by omega))
end MP3
