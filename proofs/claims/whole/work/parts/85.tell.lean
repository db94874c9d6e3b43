/-! what THE LAW is asked with, and what it tells -/
theorem wv_f {h : gk_H} {a : Nat} {w : gk_WV} (e : wv h a = w) {s : Nat} (hs : s < 8) : h.1 a s = w.1 s := by rw [← e]; exact (if_pos hs).symm
theorem wv_d {h : gk_H} {a : Nat} {w : gk_WV} (e : wv h a = w) {p : Nat} (hp : p < 10) : h.2.2 (a + 1) p = w.2.1 p := by rw [← e]; exact (if_pos hp).symm
theorem wv_y {h : gk_H} {a : Nat} {w : gk_WV} (e : wv h a = w) {p : Nat} (hp : p < 10) : h.2.1 (a + 2) p = w.2.2.1 p := by rw [← e]; exact (if_pos hp).symm
theorem wv_h {h : gk_H} {a : Nat} {w : gk_WV} (e : wv h a = w) {p : Nat} (hp : p < 10) : h.2.1 (a + 3) p = w.2.2.2.1 p := by rw [← e]; exact (if_pos hp).symm
theorem wv_p {h : gk_H} {a : Nat} {w : gk_WV} (e : wv h a = w) {p : Nat} (hp : p < 10) : h.2.1 (a + 4) p = w.2.2.2.2.1 p := by rw [← e]; exact (if_pos hp).symm
theorem wv_l {h : gk_H} {a : Nat} {w : gk_WV} (e : wv h a = w) {p : Nat} (hp : p < 6) : h.2.1 (a + 5) p = w.2.2.2.2.2 p := by rw [← e]; exact (if_pos hp).symm
def k9 (h : gk_H) (k : Nat) (v0 v1 v2 v3 v4 v5 v6 v7 v8 : Int32) : gk_H := gk_ha (gk_ha (gk_ha (gk_ha (gk_ha (gk_ha (gk_ha (gk_ha (gk_ha h k 0 v0) k 1 v1) k 2 v2) k 3 v3) k 4 v4) k 5 v5) k 6 v6) k 7 v7) k 8 v8
theorem k9_fr {h : gk_H} {k : Nat} {v0 v1 v2 v3 v4 v5 v6 v7 v8 : Int32} : fr (fun i => i = k) h (k9 h k v0 v1 v2 v3 v4 v5 v6 v7 v8) := fr_tr (fr_tr (fr_tr (fr_tr (fr_tr (fr_tr (fr_tr (fr_tr (fr_ha rfl) (fr_ha rfl)) (fr_ha rfl)) (fr_ha rfl)) (fr_ha rfl)) (fr_ha rfl)) (fr_ha rfl)) (fr_ha rfl)) (fr_ha rfl)
def lgt (w : gk_WV) (p : Nat) : Int32 := if w.2.2.2.1 p = -1 then 0 else w.2.2.2.2.2 (w.2.2.2.1 p).toNatClampNeg
/-- the nine numbers of a place -/
def kn (w : gk_WV) (p : Nat) (wt : Int32) : Nat → Int32
  | 0 => nI (nb_onesL (w.2.1 p))
  | 1 => nI (edg (nb_bitL (w.2.1 p)))
  | 2 => w.2.2.1 p
  | 3 => lgt w p
  | 4 => w.2.2.2.1 p + 1
  | 5 => nb_b (nb_bit (w.1 2) p)
  | 6 => w.2.2.2.2.1 p
  | 7 => w.1 5
  | _ => wt
theorem k9_at {h : gk_H} {k : Nat} {w : gk_WV} {p : Nat} {wt : Int32} : ∀ i, i < 9 → (k9 h k (kn w p wt 0) (kn w p wt 1) (kn w p wt 2) (kn w p wt 3) (kn w p wt 4) (kn w p wt 5) (kn w p wt 6) (kn w p wt 7) (kn w p wt 8)).2.1 k i = kn w p wt i := by
  intro i hi
  have : i = 0 ∨ i = 1 ∨ i = 2 ∨ i = 3 ∨ i = 4 ∨ i = 5 ∨ i = 6 ∨ i = 7 ∨ i = 8 := by omega
  unfold k9
  rcases this with rfl | rfl | rfl | rfl | rfl | rfl | rfl | rfl | rfl <;> simp [OW_set]
/-- the value of a code -/
def vC (κ : Nat → Int32) (c : gSg) : Int32 := match rC κ c [] with
  | some [v] => v
  | _ => 0
theorem vC_eq {κ : Nat → Int32} {c : gSg} {v : Int32} (h : rC κ c [] = some [v]) : vC κ c = v := by unfold vC; rw [h]
def hitL (κ : Nat → Int32) (wd : Int32) (x : gLn) : Prop := x.1 = wd ∧ (x.2.1.2 = [] ∨ ¬ vC κ x.2.1.2 = 0)
noncomputable def tell (κ : Nat → Int32) (wd o : Int32) : List gLn → Int32
  | [] => o
  | x :: r => @ite _ (hitL κ wd x) (Classical.propDecidable _) (vC κ x.2.1.1) (tell κ wd o r)
theorem tell_hit {κ : Nat → Int32} {wd o : Int32} {x : gLn} {r : List gLn} (h : hitL κ wd x) : tell κ wd o (x :: r) = vC κ x.2.1.1 := by rw [tell]; exact @if_pos _ (Classical.propDecidable _) h _ _ _
theorem tell_no {κ : Nat → Int32} {wd o : Int32} {x : gLn} {r : List gLn} (h : ¬ hitL κ wd x) : tell κ wd o (x :: r) = tell κ wd o r := by rw [tell]; exact @if_neg _ (Classical.propDecidable _) h _ _ _
theorem sg_nil {op ar : Nat → Int32} {a n : Nat} : sg op ar a n = [] ↔ n = 0 := by
  cases n with
  | zero => exact ⟨fun _ => rfl, fun _ => rfl⟩
  | succ n => rw [sg_cons]; exact ⟨fun h => (by cases h), fun h => (by cases h)⟩
def heldN (v m : Int32) : Int32 := if 0 < (if v < m then v else m) then (if v < m then v else m) else 0
theorem drop_cons {L : List gLn} {i : Nat} {x : gLn} (h : L[i]? = some x) : L.drop i = x :: L.drop (i + 1) := by
  obtain ⟨hl, e⟩ := List.getElem?_eq_some_iff.mp h
  rw [List.drop_eq_getElem_cons hl, e]
section TELL
variable {E : gk_E} {d : Nat} {h : gk_H}
theorem s_te_held {K : Int32 → gk_H → Prop} {v m : Int32} (hk : K (heldN v m) h) : gk_ci E (d + 2) jte_held [.int v, .int m] h K := gk_ci_mk (x_te_held ⟨Nat.le_add_left _ _, Nat.le_add_left _ _, hk⟩)
theorem s_mo_held {K : Int32 → gk_H → Prop} {v m : Int32} (hm : 0 ≤ m) (hk : K (heldN v m) h) : gk_ci E (d + 1) jmo_held [.ref 112, .int v, .int 0, .int m] h K := by
  unfold heldN at hk
  refine gk_ci_mk (x_mo_held ⟨fun q => ⟨fun q2 => ?_, fun q2 => ?_⟩, fun q => ?_⟩)
  · have : (if v < m then v else m) = v := by
      by_cases z : v < m
      · rw [if_pos z]
      · rw [if_neg z]; exact Int32.le_antisymm (Int32.not_lt.mp z) q2
    rw [this] at hk
    by_cases z : 0 < v
    · rw [if_pos z] at hk; exact hk
    · rw [if_neg z] at hk
      rw [Int32.le_antisymm (Int32.not_lt.mp z) q]; exact hk
  · rw [if_neg (fun z => q2 (Int32.le_of_lt z))] at hk
    by_cases z : 0 < m
    · rw [if_pos z] at hk; exact hk
    · rw [if_neg z] at hk
      have : m = 0 := Int32.le_antisymm (Int32.not_lt.mp z) hm
      rw [this]; exact hk
  · have z : v < m := Int32.lt_of_lt_of_le (Int32.not_le.mp q) hm
    rw [if_pos z, if_neg (fun w => q (Int32.le_of_lt w))] at hk; exact hk
theorem s_te_ask {K : Int32 → gk_H → Prop} {b : Nat} {T : gT} {n : Nat} {κ : Nat → Int32} {wd o : Int32} (hc : CT h 7 19 T) (hT : okT n T) (hκ : ∀ i, i < 9 → h.2.1 77 i = κ i) (hk : ∀ h', fr (fun k => k = 78) h h' → K (tell κ wd o T.2.2.2.2.1) h') : gk_ci E (d + 3) jte_ask [.ref 76, .int wd, .int o] h K := by
  obtain ⟨-, -, -, -, ⟨⟨l16, ln⟩, us, ⟨u400, eu⟩, lc⟩, -⟩ := hc
  obtain ⟨-, -, -, -, ok⟩ := hT
  generalize T.2.2.2.2.1 = L at *
  have ln : h.1 8 0 = nI L.length := ln
  refine gk_ci_mk (x_te_ask (fe ?_))
  refine lp_up (N := L.length) (fun i (u : gk_H) => g_te_ask_2 E (d + 2) (gk_qi K) wd o (nI i) u) (fun i u => fr (fun k => k = 78) h u ∧ tell κ wd o L = tell κ wd o (L.drop i)) ?_ ?_ 0 h (Nat.zero_le _) ⟨fr_rf, rfl⟩
  · rintro i u hi ⟨f1, te⟩ ih
    obtain ⟨x, hx⟩ : ∃ x, L[i]? = some x := ⟨_, List.getElem?_eq_getElem hi⟩
    rw [drop_cons hx] at te
    obtain ⟨a, b, c, ⟨q1, q2, q3⟩, ⟨w1, w2, w3, w4⟩, s1, s2⟩ := lc i x hx
    have okx := ok x (List.mem_of_getElem? hx)
    have r8 : u.1 8 = h.1 8 := (f1 8 (by decide)).1
    have ra : ∀ k, ¬ k = 78 → u.2.1 k = h.2.1 k := fun k hk => (f1 k hk).2.1
    have vE := okx.2 κ
    have w1 : h.2.1 9 i = x.1 := w1
    have w2 : h.2.1 10 i = nI a := w2
    have w3 : h.2.1 11 i = nI b := w3
    have w4 : h.2.1 12 i = nI c := w4
    have run1 : ∀ (K' : Int32 → gk_H → Prop) (u : gk_H), fr (fun k => k = 78) h u → (∀ u', fr (fun k => k = 78) h u' → K' (vC κ x.2.1.1) u') → gk_ci E (d + 2) jte_run [.ref 76, .int (nI a), .int (nI b)] u K' := by
      intro K' u f1 hK
      have ra : ∀ k, ¬ k = 78 → u.2.1 k = h.2.1 k := fun k hk => (f1 k hk).2.1
      obtain ⟨v, v1, -⟩ := vE.1
      have := s_te_run (E := E) (d := d) (h := u) (K := K') (a := a) (n := b - a) (v := v) (by omega) (by
        rw [ra 77 (by decide), ra 13 (by decide), ra 14 (by decide), rC_k (fun i hi => hκ i hi)]
        have s1 : sg (h.2.1 13) (h.2.1 14) a (b - a) = x.2.1.1 := s1
        rw [s1]; exact v1) (fun u' g => by
          have := hK u' (fr_tr f1 g)
          rw [vC_eq v1] at this; exact this)
      rwa [show a + (b - a) = b by omega] at this
    have run2 : ¬ x.2.1.2 = [] → ∀ (K' : Int32 → gk_H → Prop) (u : gk_H), fr (fun k => k = 78) h u → (∀ u', fr (fun k => k = 78) h u' → K' (vC κ x.2.1.2) u') → gk_ci E (d + 2) jte_run [.ref 76, .int (nI b), .int (nI c)] u K' := by
      intro ne K' u f1 hK
      have ra : ∀ k, ¬ k = 78 → u.2.1 k = h.2.1 k := fun k hk => (f1 k hk).2.1
      obtain ⟨v, v1, -⟩ := vE.2 ne
      have := s_te_run (E := E) (d := d) (h := u) (K := K') (a := b) (n := c - b) (v := v) (by omega) (by
        rw [ra 77 (by decide), ra 13 (by decide), ra 14 (by decide), rC_k (fun i hi => hκ i hi)]
        have s2 : sg (h.2.1 13) (h.2.1 14) b (c - b) = x.2.1.2 := s2
        rw [s2]; exact v1) (fun u' g => by
          have := hK u' (fr_tr f1 g)
          rw [vC_eq v1] at this; exact this)
      rwa [show b + (c - b) = c by omega] at this
    have nx : ¬ hitL κ wd x → ∀ u, fr (fun k => k = 78) h u → ∀ y : Int32, y = nI i + 1 → g_te_ask_2 E (d + 2) (gk_qi K) wd o y u := by
      rintro nh u f1 _ rfl
      rw [nI_1]
      exact ih u ⟨f1, by rw [te, tell_no nh]⟩
    have fin : hitL κ wd x → ∀ u', fr (fun k => k = 78) h u' → K (vC κ x.2.1.1) u' := by
      intro hh u' g
      have := hk u' g
      rw [te, tell_hit hh] at this; exact this
    have vi : vp_in (nI i) 16 := vp_in_nI (by omega) (by decide)
    refine x_te_ask_2 (pk_le L.length i (fun q => by omega) (fun _ => ⟨vi, vi, ?_⟩) (hx := by rw [r8]; exact ln))
    rw [nI_clamp (by omega), ra 12 (by decide), ra 11 (by decide), ra 9 (by decide), ra 10 (by decide), w1, w2, w3, w4]
    refine pk_le c b (fun q => fe ⟨vi, fun z => nx (fun hh => z hh.1) u f1, fun z => yT rfl ⟨vi, vi, run1 _ u f1 fun u' g => ?_⟩⟩) (fun q => fe ⟨vi, fun z => nx (fun hh => z hh.1) u f1, fun z => yF (by decide) ⟨vi, vi, run2 ?_ _ u f1 fun u' g => ⟨fun y => nx (fun hh => ?_) u' g, fun y => ⟨vi, vi, ?_⟩⟩⟩⟩)
    · refine fin ⟨z, Or.inl ?_⟩ u' g
      rw [← s2]; exact sg_nil.mpr (by omega)
    · rw [← s2, sg_nil]; omega
    · rcases hh.2 with e | e
      · rw [← s2, sg_nil] at e; omega
      · exact e y
    · have g10 : u'.2.1 10 i = nI a := by rw [(g 10 (by decide)).2.1]; exact w2
      have g11 : u'.2.1 11 i = nI b := by rw [(g 11 (by decide)).2.1]; exact w3
      rw [g10, g11]
      exact run1 _ u' g fun u2 g2 => fin ⟨z, Or.inr y⟩ u2 g2
  · rintro u ⟨f1, te⟩
    have r8 : u.1 8 = h.1 8 := (f1 8 (by decide)).1
    rw [List.drop_eq_nil_of_le (Nat.le_refl _)] at te
    refine x_te_ask_2 (pk_le L.length L.length (fun _ => ?_) (fun q => by omega) (hx := by rw [r8]; exact ln))
    have := hk u f1
    rw [te] at this; exact this
theorem s_mo_lineOf {K : Int32 → gk_H → Prop} {T : gT} {n : Nat} {κ : Nat → Int32} {wd : Int32} (hc : MTl h T) (hT : okT n T) (hκ : ∀ i, i < 9 → h.2.1 131 i = κ i) (k1 : ∀ h' i x, fr (fun k => k = 132) h h' → T.2.2.2.2.1[i]? = some x → hitL κ wd x → (∀ o, tell κ wd o T.2.2.2.2.1 = vC κ x.2.1.1) → K (nI i) h') (k0 : ∀ h', fr (fun k => k = 132) h h' → (∀ o, tell κ wd o T.2.2.2.2.1 = o) → K (-1) h') : gk_ci E (d + 3) jmo_lineOf [.ref 112, .int wd] h K := by
  obtain ⟨-, -, -, -, ⟨⟨l16, ln⟩, lc⟩, -⟩ := hc
  obtain ⟨-, -, -, -, ok⟩ := hT
  generalize T.2.2.2.2.1 = L at *
  refine gk_ci_mk (x_mo_lineOf (fe ?_))
  refine lp_up (N := L.length) (fun i (u : gk_H) => g_mo_lineOf_2 E (d + 2) (gk_qi K) wd (nI i) u) (fun i u => fr (fun k => k = 132) h u ∧ ∀ o, tell κ wd o L = tell κ wd o (L.drop i)) ?_ ?_ 0 h (Nat.zero_le _) ⟨fr_rf, fun _ => rfl⟩
  · rintro i u hi ⟨f1, te⟩ ih
    obtain ⟨x, hx⟩ : ∃ x, L[i]? = some x := ⟨_, List.getElem?_eq_getElem hi⟩
    rw [drop_cons hx] at te
    obtain ⟨a, b, c, ⟨q1, q2, q3⟩, ⟨w1, w2, w3, w4⟩, s1, s2⟩ := lc i x hx
    have okx := ok x (List.mem_of_getElem? hx)
    have ra : ∀ k, ¬ k = 132 → u.2.1 k = h.2.1 k := fun k hk => (f1 k hk).2.1
    have vE := okx.2 κ
    have nx : ¬ hitL κ wd x → ∀ u, fr (fun k => k = 132) h u → ∀ y : Int32, y = nI i + 1 → g_mo_lineOf_2 E (d + 2) (gk_qi K) wd y u := by
      rintro nh u f1 _ rfl
      rw [nI_1]
      exact ih u ⟨f1, fun o => by rw [te o, tell_no nh]⟩
    have fin : hitL κ wd x → ∀ u', fr (fun k => k = 132) h u' → K (nI i) u' := fun hh u' g => k1 u' i x g hx hh (fun o => by rw [te o, tell_hit hh])
    have vi : vp_in (nI i) 48 := vp_in_nI (by omega) (by decide)
    have e0 : u.2.1 120 (0 : Int32).toNatClampNeg = nI L.length := by rw [ra 120 (by decide)]; exact ln
    refine x_mo_lineOf_2 ⟨vpi (by decide), pk_le L.length i (fun q => by omega) (fun _ => ⟨vi, ?_⟩) (hx := e0)⟩
    rw [nI_clamp (by omega), ra 121 (by decide), ra 123 (by decide), ra 124 (by decide), w1, w3, w4]
    refine ⟨fun z => nx (fun hh => z hh.1) u f1, fun z => ⟨vi, vi, pk_eq b c (fun q => ?_) (fun q => ⟨vi, vi, ?_⟩)⟩⟩
    · refine fin ⟨z, Or.inl (okx.1.mpr ?_)⟩ u f1
      rw [← s2]; exact sg_nil.mpr (by omega)
    · have ne : ¬ x.2.1.2 = [] := fun e => by
        have := okx.1.mp e
        rw [← s2, sg_nil] at this; omega
      obtain ⟨v, v1, v2⟩ := vE.2 ne
      have := s_mo_runs (E := E) (d := d) (h := u) (K := fun r_4 h_3 => (r_4 = 0 → ∀ x2_5 : Int32, x2_5 = nI i + 1 → g_mo_lineOf_2 E (d + 2) (gk_qi K) wd x2_5 h_3) ∧ (¬ r_4 = 0 → gk_qi K (some (.int (nI i))) h_3)) (a := b) (n := c - b) (v := v) (by omega) (by
        rw [ra 131 (by decide), ra 125 (by decide), ra 126 (by decide), rR_k (fun i hi => hκ i hi), s2]; exact v2) (fun u' g => ⟨fun y => nx (fun hh => ?_) u' (fr_tr f1 g), fun y => fin ⟨z, Or.inr (by rw [vC_eq v1]; exact y)⟩ u' (fr_tr f1 g)⟩)
      · rwa [show b + (c - b) = c by omega] at this
      · rcases hh.2 with e | e
        · exact ne e
        · rw [vC_eq v1] at e; exact e y
  · rintro u ⟨f1, te⟩
    have ra : ∀ k, ¬ k = 132 → u.2.1 k = h.2.1 k := fun k hk => (f1 k hk).2.1
    have e0 : u.2.1 120 (0 : Int32).toNatClampNeg = nI L.length := by rw [ra 120 (by decide)]; exact ln
    exact x_mo_lineOf_2 ⟨vpi (by decide), pk_le L.length L.length (fun _ => k0 u f1 (fun o => by rw [te o, List.drop_eq_nil_of_le (Nat.le_refl _)]; rfl)) (fun q => by omega) (hx := e0)⟩
theorem s_mo_lawTells {K : Int32 → gk_H → Prop} {T : gT} {n : Nat} {κ : Nat → Int32} {wd o m : Int32} (hm : 0 ≤ m) (hc : MTl h T) (hT : okT n T) (hκ : ∀ i, i < 9 → h.2.1 131 i = κ i) (hk : ∀ h', fr (fun k => k = 132) h h' → K (heldN (tell κ wd o T.2.2.2.2.1) m) h') : gk_ci E (d + 4) jmo_lawTells [.ref 112, .int wd, .int o, .int m] h K := by
  refine gk_ci_mk (x_mo_lawTells (s_mo_lineOf hc hT hκ (fun u i x f1 hx hh te => fe (zF ?_ ?_)) (fun u f1 te => fe (zT rfl (s_mo_held hm ?_)))))
  · intro q
    obtain ⟨hl, -⟩ := List.getElem?_eq_some_iff.mp hx
    have := hc.2.2.2.2.1.1.1
    have := nI_pos (n := i) (by omega)
    rw [q] at this; exact absurd (by decide) this
  · obtain ⟨-, -, -, -, ⟨⟨l16, ln⟩, lc⟩, -⟩ := hc
    obtain ⟨-, -, -, -, ok⟩ := hT
    obtain ⟨hl, -⟩ := List.getElem?_eq_some_iff.mp hx
    obtain ⟨a, b, c, ⟨q1, q2, q3⟩, ⟨w1, w2, w3, w4⟩, s1, s2⟩ := lc i x hx
    have okx := ok x (List.mem_of_getElem? hx)
    obtain ⟨v, v1, v2⟩ := (okx.2 κ).1
    have ra : ∀ k, ¬ k = 132 → u.2.1 k = h.2.1 k := fun k hk => (f1 k hk).2.1
    have vi : vp_in (nI i) 48 := vp_in_nI (by omega) (by decide)
    rw [nI_clamp (by omega), ra 122 (by decide), ra 123 (by decide), w2, w3]
    refine ⟨vi, vi, ?_⟩
    have := s_mo_runs (E := E) (d := d + 1) (h := u) (K := fun r_5 h_4 => gk_ci E (d + 3) jmo_held [.ref 112, .int r_5, .int 0, .int m] h_4 (fun r_7 h_6 => gk_qi K (some (.int r_7)) h_6)) (a := a) (n := b - a) (v := v) (by omega) (by
      rw [ra 131 (by decide), ra 125 (by decide), ra 126 (by decide), rR_k (fun i hi => hκ i hi), s1]; exact v2) (fun u' g => s_mo_held hm (by
        have := hk u' (fr_tr f1 g)
        rw [te o, vC_eq v1] at this; exact this))
    rwa [show a + (b - a) = b by omega] at this
  · have := hk u f1
    rw [te o] at this; exact this
end TELL
theorem s_wo_isHosed_1 {E : gk_E} {d : Nat} {h : gk_H} {K : Int32 → gk_H → Prop} {p : Nat} (hp : p < 32) (hk : K (nb_b (nb_bit (h.1 1 2) p)) h) : gk_ci E (d + 1) jwo_isHosed [.ref 1, .int (nI p)] h K := by
  refine gk_ci_mk (x_wo_isHosed_1 ?_)
  unfold w_wo_isHosed_1
  rw [nb_has0 _ hp]
  refine ⟨fun q => ⟨Or.inl rfl, ?_⟩, fun q => ⟨Or.inr rfl, ?_⟩⟩
  · rw [q] at hk; exact hk
  · rw [Bool.not_eq_false] at q; rw [q] at hk; exact hk
theorem s_te_face_1 {E : gk_E} {d : Nat} {h : gk_H} {K : gk_H → Prop} {w : gk_WV} {p : Nat} {wt : Int32} (hp : p < 10) (hw : wv h 1 = w) (hg : goodW w) (hk : ∀ h', fr (fun k => k = 77) h h' → (∀ i, i < 9 → h'.2.1 77 i = kn w p wt i) → K h') : gk_cv E (d + 3) jte_face [.ref 76, .ref 1, .int (nI p), .int wt] h K := by
  obtain ⟨-, -, -, -, hh, -⟩ := hg
  have hh := hh p hp
  have hk := hk _ (k9_fr (h := h) (k := 77)) (k9_at (h := h) (k := 77) (w := w) (p := p) (wt := wt))
  have F : ∀ u, fr (fun k => k = 77) h u → wv u 1 = w := fun u f => (wv_fr f (fun i hi q => by omega)).trans hw
  have vp : vp_in (nI p) 10 := vp_in_nI hp (by decide)
  have v9 : ∀ i, i < 9 → vp_in (nI i) 9 := fun i hi => vp_in_nI hi (by decide)
  refine gk_cv_mk (x_te_face_76_1 ?_)
  unfold w_te_face_76_1
  rw [nI_clamp (by omega)]
  have e4 : h.2.1 4 p = w.2.2.2.1 p := wv_h hw hp
  have e2 : h.2.2 2 p = w.2.1 p := wv_d hw hp
  have e3 : h.2.1 3 p = w.2.2.1 p := wv_y hw hp
  have e5 : h.2.1 5 p = w.2.2.2.2.1 p := wv_p hw hp
  have e1 : h.1 1 5 = w.1 5 := wv_f hw (by decide)
  have e12 : h.1 1 2 = w.1 2 := wv_f hw (by decide)
  refine ⟨vp, ?_⟩
  rw [e4, e2]
  refine fe ⟨vp, s_jl_bitCount ⟨v9 0 (by decide), fe ⟨vp, ?_⟩⟩⟩
  show gk_ci E (d + 2) jgr_edges [.long (h.2.2 2 p)] _ _
  rw [e2]
  refine s_gr_edges ⟨v9 1 (by decide), fe ⟨vp, v9 2 (by decide), ?_⟩⟩
  intro h8 e8
  have e8 : h8 = gk_ha (gk_ha (gk_ha h 77 0 (nI (nb_onesL (w.2.1 p)))) 77 1 (nI (edg (nb_bitL (w.2.1 p))))) 77 2 (w.2.2.1 p) := by
    rw [← e3]; exact e8
  have tail : ∀ (h9 : gk_H), h9 = gk_ha (gk_ha h8 77 3 (lgt w p)) 77 4 (w.2.2.2.1 p + 1) → gk_ci E (d + 2) jwo_isHosed [.ref 1, .int (nI p)] h9 (fun r_14 h_13 => (r_14 = 0 → (vp_in (5 : Int32) 9 ∧ (∀ h_15 : gk_H, h_15 = gk_ha h_13 77 (5 : Int32).toNatClampNeg (0 : Int32) → (vp_in (nI p) 10 ∧ (vp_in (6 : Int32) 9 ∧ (∀ h_16 : gk_H, h_16 = gk_ha h_15 77 (6 : Int32).toNatClampNeg (h_15.2.1 5 p) → (vp_in (7 : Int32) 9 ∧ (∀ h_17 : gk_H, h_17 = gk_ha h_16 77 (7 : Int32).toNatClampNeg (h_16.1 1 5) → (vp_in (8 : Int32) 9 ∧ (∀ h_18 : gk_H, h_18 = gk_ha h_17 77 (8 : Int32).toNatClampNeg wt → (gk_qv K none h_18))))))))))) ∧ (¬ r_14 = 0 → (vp_in (5 : Int32) 9 ∧ (∀ h_15 : gk_H, h_15 = gk_ha h_13 77 (5 : Int32).toNatClampNeg (1 : Int32) → (vp_in (nI p) 10 ∧ (vp_in (6 : Int32) 9 ∧ (∀ h_16 : gk_H, h_16 = gk_ha h_15 77 (6 : Int32).toNatClampNeg (h_15.2.1 5 p) → (vp_in (7 : Int32) 9 ∧ (∀ h_17 : gk_H, h_17 = gk_ha h_16 77 (7 : Int32).toNatClampNeg (h_16.1 1 5) → (vp_in (8 : Int32) 9 ∧ (∀ h_18 : gk_H, h_18 = gk_ha h_17 77 (8 : Int32).toNatClampNeg wt → (gk_qv K none h_18)))))))))))) := by
    rintro h9 e9
    have g1 : h9.1 1 = h.1 1 := by rw [e9, e8]; rfl
    have g2 : h9.2.1 5 = h.2.1 5 := by
      rw [e9, e8]
      funext s
      simp [ha_a]
    refine s_wo_isHosed_1 (by omega) ?_
    rw [g1, e12]
    have fin : ∀ b : Int32, b = kn w p wt 5 → ∀ h_15 : gk_H, h_15 = gk_ha h9 77 5 b → (vp_in (nI p) 10 ∧ (vp_in (6 : Int32) 9 ∧ (∀ h_16 : gk_H, h_16 = gk_ha h_15 77 (6 : Int32).toNatClampNeg (h_15.2.1 5 p) → (vp_in (7 : Int32) 9 ∧ (∀ h_17 : gk_H, h_17 = gk_ha h_16 77 (7 : Int32).toNatClampNeg (h_16.1 1 5) → (vp_in (8 : Int32) 9 ∧ (∀ h_18 : gk_H, h_18 = gk_ha h_17 77 (8 : Int32).toNatClampNeg wt → (gk_qv K none h_18)))))))) := by
      rintro _ rfl _ rfl
      refine ⟨vp, v9 6 (by decide), fun h16 e16 => ⟨v9 7 (by decide), fun h17 e17 => ⟨v9 8 (by decide), fun h18 e18 => ?_⟩⟩⟩
      have x1 : (gk_ha h9 77 5 (kn w p wt 5)).2.1 5 p = w.2.2.2.2.1 p := by
        rw [ha_a, if_neg (fun q => absurd q.1 (by decide)), g2, e5]
      rw [x1] at e16
      have x2 : h16.1 1 5 = w.1 5 := by
        rw [e16]
        show h9.1 1 5 = _
        rw [g1, e1]
      rw [x2] at e17
      rw [e18, e17, e16, e9, e8]
      exact hk
    refine bsel (fun q => ⟨v9 5 (by decide), fin 0 ?_⟩) (fun q => ⟨v9 5 (by decide), fin 1 ?_⟩)
    · show 0 = nb_b (nb_bit (w.1 2) p)
      rw [q]; rfl
    · show 1 = nb_b (nb_bit (w.1 2) p)
      rw [q]; rfl
  rcases hh with e | ⟨r, hr, e⟩
  · have el : lgt w p = 0 := by unfold lgt; rw [if_pos e]
    refine s_rm0 (by rw [e]; decide) (yT rfl ⟨v9 3 (by decide), fun h11 e11 => ⟨v9 4 (by decide), fun h12 e12' => tail h12 ?_⟩⟩)
    rw [e12', e11, el]; rfl
  · have el : lgt w p = w.2.2.2.2.2 r := by
      unfold lgt
      rw [e, if_neg (fun q => by have := nI_pos (n := r) (by omega); rw [q] at this; exact absurd (by decide) this), nI_clamp (by omega)]
    refine s_rm1 (by rw [e]; exact ⟨nI_pos' (by omega), nI_le (b := 5) (by omega) (by decide)⟩) (yF (by decide) ⟨by rw [e]; exact vp_in_nI hr (by decide), v9 3 (by decide), fun h11 e11 => ⟨v9 4 (by decide), fun h12 e12' => tail h12 ?_⟩⟩)
    have x6 : h8.2.1 6 (w.2.2.2.1 p).toNatClampNeg = w.2.2.2.2.2 r := by
      rw [e, nI_clamp (by omega), e8]
      have := wv_l hw hr
      simpa [ha_a] using this
    rw [x6] at e11
    rw [e12', e11, el]; rfl
def S_teA (k : Nat) : Prop := k = 77 ∨ k = 78
theorem s_te_tell_1 {E : gk_E} {d : Nat} {h : gk_H} {T : gT} {n : Nat} {w : gk_WV} {p : Nat} (hp : p < 10) (hw : wv h 1 = w) (hg : goodW w) (hc : CT h 7 19 T) (hT : okT n T) : (∀ K : Int32 → gk_H → Prop, (∀ h', fr S_teA h h' → K (heldN (tell (kn w p 0) 1 (5 * nI (nb_onesL (w.2.1 p)) + w.2.2.1 p) T.2.2.2.2.1) 9999) h') → gk_ci E (d + 4) jte_worthOf [.ref 76, .ref 1, .int (nI p)] h K) ∧ (∀ K : Int32 → gk_H → Prop, (∀ h', fr S_teA h h' → K (heldN (tell (kn w p 0) 2 (lgt w p + nI (nb_onesL (w.2.1 p)) / 8) T.2.2.2.2.1) 99) h') → gk_ci E (d + 4) jte_comersTo [.ref 76, .ref 1, .int (nI p)] h K) ∧ (∀ (wt : Int32) (K : Int32 → gk_H → Prop), (∀ h', fr S_teA h h' → K (heldN (tell (kn w p wt) 0 (10 * wt) T.2.2.2.2.1) 1000) h') → gk_ci E (d + 4) jte_chanceIn [.ref 76, .ref 1, .int (nI p), .int wt] h K) := by
  have ct : ∀ u, fr (fun k => k = 77) h u → CT u 7 19 T := fun u f => CT_eq (fun i h1 h2 => f _ (by omega)) (f 19 (by decide)).2.1 hc
  have tr : ∀ u u', fr (fun k => k = 77) h u → fr (fun k => k = 78) u u' → fr S_teA h u' := fun u u' f g => fr_tr (fr_mo f (fun k q => Or.inl q)) (fr_mo g (fun k q => Or.inr q))
  refine ⟨fun K hk => ?_, fun K hk => ?_, fun wt K hk => ?_⟩
  · refine gk_ci_mk (x_te_worthOf_76_1 (s_te_face_1 hp hw hg fun u f kk => ⟨vpi (by decide), vpi (by decide), ?_⟩))
    have e0 : u.2.1 77 (0 : Int32).toNatClampNeg = nI (nb_onesL (w.2.1 p)) := kk 0 (by decide)
    have e2 : u.2.1 77 (2 : Int32).toNatClampNeg = w.2.2.1 p := kk 2 (by decide)
    rw [e0, e2]
    exact s_te_ask (b := 0) (ct u f) hT kk fun u' g => s_te_held (hk u' (tr u u' f g))
  · refine gk_ci_mk (x_te_comersTo_76_1 (s_te_face_1 hp hw hg fun u f kk => ⟨vpi (by decide), vpi (by decide), by decide, ?_⟩))
    have e0 : u.2.1 77 (0 : Int32).toNatClampNeg = nI (nb_onesL (w.2.1 p)) := kk 0 (by decide)
    have e3 : u.2.1 77 (3 : Int32).toNatClampNeg = lgt w p := kk 3 (by decide)
    rw [e0, e3]
    exact s_te_ask (b := 0) (ct u f) hT kk fun u' g => s_te_held (hk u' (tr u u' f g))
  · refine gk_ci_mk (x_te_chanceIn_76_1 (s_te_face_1 hp hw hg fun u f kk => ?_))
    exact s_te_ask (b := 0) (ct u f) hT kk fun u' g => s_te_held (hk u' (tr u u' f g))
theorem s_wo_isHosed_81 {E : gk_E} {d : Nat} {h : gk_H} {K : Int32 → gk_H → Prop} {p : Nat} (hp : p < 32) (hk : K (nb_b (nb_bit (h.1 81 2) p)) h) : gk_ci E (d + 1) jwo_isHosed [.ref 81, .int (nI p)] h K := by
  refine gk_ci_mk (x_wo_isHosed_81 ?_)
  unfold w_wo_isHosed_81
  rw [nb_has0 _ hp]
  refine ⟨fun q => ⟨Or.inl rfl, ?_⟩, fun q => ⟨Or.inr rfl, ?_⟩⟩
  · rw [q] at hk; exact hk
  · rw [Bool.not_eq_false] at q; rw [q] at hk; exact hk
theorem s_te_face_81 {E : gk_E} {d : Nat} {h : gk_H} {K : gk_H → Prop} {w : gk_WV} {p : Nat} {wt : Int32} (hp : p < 10) (hw : wv h 81 = w) (hg : goodW w) (hk : ∀ h', fr (fun k => k = 77) h h' → (∀ i, i < 9 → h'.2.1 77 i = kn w p wt i) → K h') : gk_cv E (d + 3) jte_face [.ref 76, .ref 81, .int (nI p), .int wt] h K := by
  obtain ⟨-, -, -, -, hh, -⟩ := hg
  have hh := hh p hp
  have hk := hk _ (k9_fr (h := h) (k := 77)) (k9_at (h := h) (k := 77) (w := w) (p := p) (wt := wt))
  have F : ∀ u, fr (fun k => k = 77) h u → wv u 81 = w := fun u f => (wv_fr f (fun i hi q => by omega)).trans hw
  have vp : vp_in (nI p) 10 := vp_in_nI hp (by decide)
  have v9 : ∀ i, i < 9 → vp_in (nI i) 9 := fun i hi => vp_in_nI hi (by decide)
  refine gk_cv_mk (x_te_face_76_81 ?_)
  unfold w_te_face_76_81
  rw [nI_clamp (by omega)]
  have e4 : h.2.1 84 p = w.2.2.2.1 p := wv_h hw hp
  have e2 : h.2.2 82 p = w.2.1 p := wv_d hw hp
  have e3 : h.2.1 83 p = w.2.2.1 p := wv_y hw hp
  have e5 : h.2.1 85 p = w.2.2.2.2.1 p := wv_p hw hp
  have e1 : h.1 81 5 = w.1 5 := wv_f hw (by decide)
  have e12 : h.1 81 2 = w.1 2 := wv_f hw (by decide)
  refine ⟨vp, ?_⟩
  rw [e4, e2]
  refine fe ⟨vp, s_jl_bitCount ⟨v9 0 (by decide), fe ⟨vp, ?_⟩⟩⟩
  show gk_ci E (d + 2) jgr_edges [.long (h.2.2 82 p)] _ _
  rw [e2]
  refine s_gr_edges ⟨v9 1 (by decide), fe ⟨vp, v9 2 (by decide), ?_⟩⟩
  intro h8 e8
  have e8 : h8 = gk_ha (gk_ha (gk_ha h 77 0 (nI (nb_onesL (w.2.1 p)))) 77 1 (nI (edg (nb_bitL (w.2.1 p))))) 77 2 (w.2.2.1 p) := by
    rw [← e3]; exact e8
  have tail : ∀ (h9 : gk_H), h9 = gk_ha (gk_ha h8 77 3 (lgt w p)) 77 4 (w.2.2.2.1 p + 1) → gk_ci E (d + 2) jwo_isHosed [.ref 81, .int (nI p)] h9 (fun r_14 h_13 => (r_14 = 0 → (vp_in (5 : Int32) 9 ∧ (∀ h_15 : gk_H, h_15 = gk_ha h_13 77 (5 : Int32).toNatClampNeg (0 : Int32) → (vp_in (nI p) 10 ∧ (vp_in (6 : Int32) 9 ∧ (∀ h_16 : gk_H, h_16 = gk_ha h_15 77 (6 : Int32).toNatClampNeg (h_15.2.1 85 p) → (vp_in (7 : Int32) 9 ∧ (∀ h_17 : gk_H, h_17 = gk_ha h_16 77 (7 : Int32).toNatClampNeg (h_16.1 81 5) → (vp_in (8 : Int32) 9 ∧ (∀ h_18 : gk_H, h_18 = gk_ha h_17 77 (8 : Int32).toNatClampNeg wt → (gk_qv K none h_18))))))))))) ∧ (¬ r_14 = 0 → (vp_in (5 : Int32) 9 ∧ (∀ h_15 : gk_H, h_15 = gk_ha h_13 77 (5 : Int32).toNatClampNeg (1 : Int32) → (vp_in (nI p) 10 ∧ (vp_in (6 : Int32) 9 ∧ (∀ h_16 : gk_H, h_16 = gk_ha h_15 77 (6 : Int32).toNatClampNeg (h_15.2.1 85 p) → (vp_in (7 : Int32) 9 ∧ (∀ h_17 : gk_H, h_17 = gk_ha h_16 77 (7 : Int32).toNatClampNeg (h_16.1 81 5) → (vp_in (8 : Int32) 9 ∧ (∀ h_18 : gk_H, h_18 = gk_ha h_17 77 (8 : Int32).toNatClampNeg wt → (gk_qv K none h_18)))))))))))) := by
    rintro h9 e9
    have g1 : h9.1 81 = h.1 81 := by rw [e9, e8]; rfl
    have g2 : h9.2.1 85 = h.2.1 85 := by
      rw [e9, e8]
      funext s
      simp [ha_a]
    refine s_wo_isHosed_81 (by omega) ?_
    rw [g1, e12]
    have fin : ∀ b : Int32, b = kn w p wt 5 → ∀ h_15 : gk_H, h_15 = gk_ha h9 77 5 b → (vp_in (nI p) 10 ∧ (vp_in (6 : Int32) 9 ∧ (∀ h_16 : gk_H, h_16 = gk_ha h_15 77 (6 : Int32).toNatClampNeg (h_15.2.1 85 p) → (vp_in (7 : Int32) 9 ∧ (∀ h_17 : gk_H, h_17 = gk_ha h_16 77 (7 : Int32).toNatClampNeg (h_16.1 81 5) → (vp_in (8 : Int32) 9 ∧ (∀ h_18 : gk_H, h_18 = gk_ha h_17 77 (8 : Int32).toNatClampNeg wt → (gk_qv K none h_18)))))))) := by
      rintro _ rfl _ rfl
      refine ⟨vp, v9 6 (by decide), fun h16 e16 => ⟨v9 7 (by decide), fun h17 e17 => ⟨v9 8 (by decide), fun h18 e18 => ?_⟩⟩⟩
      have x1 : (gk_ha h9 77 5 (kn w p wt 5)).2.1 85 p = w.2.2.2.2.1 p := by
        rw [ha_a, if_neg (fun q => absurd q.1 (by decide)), g2, e5]
      rw [x1] at e16
      have x2 : h16.1 81 5 = w.1 5 := by
        rw [e16]
        show h9.1 81 5 = _
        rw [g1, e1]
      rw [x2] at e17
      rw [e18, e17, e16, e9, e8]
      exact hk
    refine bsel (fun q => ⟨v9 5 (by decide), fin 0 ?_⟩) (fun q => ⟨v9 5 (by decide), fin 1 ?_⟩)
    · show 0 = nb_b (nb_bit (w.1 2) p)
      rw [q]; rfl
    · show 1 = nb_b (nb_bit (w.1 2) p)
      rw [q]; rfl
  rcases hh with e | ⟨r, hr, e⟩
  · have el : lgt w p = 0 := by unfold lgt; rw [if_pos e]
    refine s_rm0 (by rw [e]; decide) (yT rfl ⟨v9 3 (by decide), fun h11 e11 => ⟨v9 4 (by decide), fun h12 e12' => tail h12 ?_⟩⟩)
    rw [e12', e11, el]; rfl
  · have el : lgt w p = w.2.2.2.2.2 r := by
      unfold lgt
      rw [e, if_neg (fun q => by have := nI_pos (n := r) (by omega); rw [q] at this; exact absurd (by decide) this), nI_clamp (by omega)]
    refine s_rm1 (by rw [e]; exact ⟨nI_pos' (by omega), nI_le (b := 5) (by omega) (by decide)⟩) (yF (by decide) ⟨by rw [e]; exact vp_in_nI hr (by decide), v9 3 (by decide), fun h11 e11 => ⟨v9 4 (by decide), fun h12 e12' => tail h12 ?_⟩⟩)
    have x6 : h8.2.1 86 (w.2.2.2.1 p).toNatClampNeg = w.2.2.2.2.2 r := by
      rw [e, nI_clamp (by omega), e8]
      have := wv_l hw hr
      simpa [ha_a] using this
    rw [x6] at e11
    rw [e12', e11, el]; rfl
theorem s_te_tell_81 {E : gk_E} {d : Nat} {h : gk_H} {T : gT} {n : Nat} {w : gk_WV} {p : Nat} (hp : p < 10) (hw : wv h 81 = w) (hg : goodW w) (hc : CT h 7 19 T) (hT : okT n T) : (∀ K : Int32 → gk_H → Prop, (∀ h', fr S_teA h h' → K (heldN (tell (kn w p 0) 1 (5 * nI (nb_onesL (w.2.1 p)) + w.2.2.1 p) T.2.2.2.2.1) 9999) h') → gk_ci E (d + 4) jte_worthOf [.ref 76, .ref 81, .int (nI p)] h K) ∧ (∀ K : Int32 → gk_H → Prop, (∀ h', fr S_teA h h' → K (heldN (tell (kn w p 0) 2 (lgt w p + nI (nb_onesL (w.2.1 p)) / 8) T.2.2.2.2.1) 99) h') → gk_ci E (d + 4) jte_comersTo [.ref 76, .ref 81, .int (nI p)] h K) ∧ (∀ (wt : Int32) (K : Int32 → gk_H → Prop), (∀ h', fr S_teA h h' → K (heldN (tell (kn w p wt) 0 (10 * wt) T.2.2.2.2.1) 1000) h') → gk_ci E (d + 4) jte_chanceIn [.ref 76, .ref 81, .int (nI p), .int wt] h K) := by
  have ct : ∀ u, fr (fun k => k = 77) h u → CT u 7 19 T := fun u f => CT_eq (fun i h1 h2 => f _ (by omega)) (f 19 (by decide)).2.1 hc
  have tr : ∀ u u', fr (fun k => k = 77) h u → fr (fun k => k = 78) u u' → fr S_teA h u' := fun u u' f g => fr_tr (fr_mo f (fun k q => Or.inl q)) (fr_mo g (fun k q => Or.inr q))
  refine ⟨fun K hk => ?_, fun K hk => ?_, fun wt K hk => ?_⟩
  · refine gk_ci_mk (x_te_worthOf_76_81 (s_te_face_81 hp hw hg fun u f kk => ⟨vpi (by decide), vpi (by decide), ?_⟩))
    have e0 : u.2.1 77 (0 : Int32).toNatClampNeg = nI (nb_onesL (w.2.1 p)) := kk 0 (by decide)
    have e2 : u.2.1 77 (2 : Int32).toNatClampNeg = w.2.2.1 p := kk 2 (by decide)
    rw [e0, e2]
    exact s_te_ask (b := 0) (ct u f) hT kk fun u' g => s_te_held (hk u' (tr u u' f g))
  · refine gk_ci_mk (x_te_comersTo_76_81 (s_te_face_81 hp hw hg fun u f kk => ⟨vpi (by decide), vpi (by decide), by decide, ?_⟩))
    have e0 : u.2.1 77 (0 : Int32).toNatClampNeg = nI (nb_onesL (w.2.1 p)) := kk 0 (by decide)
    have e3 : u.2.1 77 (3 : Int32).toNatClampNeg = lgt w p := kk 3 (by decide)
    rw [e0, e3]
    exact s_te_ask (b := 0) (ct u f) hT kk fun u' g => s_te_held (hk u' (tr u u' f g))
  · refine gk_ci_mk (x_te_chanceIn_76_81 (s_te_face_81 hp hw hg fun u f kk => ?_))
    exact s_te_ask (b := 0) (ct u f) hT kk fun u' g => s_te_held (hk u' (tr u u' f g))
