/-! passages, diary, vouches: the class -/
def pTN (τ : gTk) (k lo hi un p : Nat) : pRe (Nat × Nat) := (pT τ k p).bind (fun q => pN τ lo hi un q)
def psA (a : Nat → Nat) (i j l : Nat) : Nat → Nat := fun k => if (a (i * 6 + j) = 0 ∨ l < a (i * 6 + j)) ∧ (k = i * 6 + j ∨ k = j * 6 + i) then l else a k
def psL (τ : gTk) (p : Nat) (a : Nat → Nat) : pRe (Nat × (Nat → Nat)) := (pTN τ 111 0 6 10000 p).bind (fun x => (pTN τ 111 0 6 x.2 x.1).bind (fun y => (pTN τ 116 1 100 10000 y.1).bind (fun z => (pT τ 59 z.1).bind (fun q => .ok (q, psA a x.2 y.2 z.2)))))
def vcA (a : Nat → Int32) (i j : Nat) : Nat → Int32 := fun k => if k = i then a k ||| ((1 : Int32) <<< (nI j &&& 31)) else a k
def vcL (τ : gTk) (pl p : Nat) (a : Nat → Int32) : pRe (Nat × (Nat → Int32)) := (pTN τ 123 0 pl 10000 p).bind (fun x => (pTN τ 124 0 pl x.2 x.1).bind (fun y => (pT τ 59 y.1).bind (fun q => .ok (q, vcA a x.2 y.2))))
abbrev gDe : Type := Nat × Nat × Nat × Nat
def pW (τ : gTk) (p : Nat) : pRe (Nat × Nat) := if 118 ≤ τ.1 p ∧ τ.1 p ≤ 120 then .ok (τ.2.2 p, τ.1 p - 118) else if τ.1 p = 110 then .ok (τ.2.2 p, 3) else if τ.1 p = 122 then .ok (τ.2.2 p, 4) else .error (1, p)
def pDt (τ : gTk) (what p : Nat) : pRe (Nat × Nat) := if what = 2 then pTN τ 121 0 6 10000 p else if what = 3 then pN τ 0 10 10000 p else if what = 4 then pN τ 0 8 10000 p else .ok (p, 0)
def dyL (τ : gTk) (pl p : Nat) (L : List gDe) : pRe (Nat × List gDe) := (pTN τ 117 0 1000 10000 p).bind (fun x => (pW τ x.1).bind (fun y => (pN τ 0 (if y.2 = 3 then 6 else pl) 10000 y.1).bind (fun z => (pDt τ y.2 z.1).bind (fun v => (pT τ 59 v.1).bind (fun q => .ok (q, L ++ [(x.2, y.2, z.2, v.2)]))))))
def dF (L : List gDe) (i : Nat) : Int32 := match L[i / 4]? with
  | none => 0
  | some e => if i % 4 = 0 then nI e.1 else if i % 4 = 1 then nI e.2.1 else if i % 4 = 2 then nI e.2.2.1 else nI e.2.2.2
def psI (a : Nat → Nat) : Prop := (∀ i j, i < 6 → j < 6 → a (i * 6 + j) = a (j * 6 + i)) ∧ ∀ k, k < 36 → a k ≤ 99
theorem psI_A {a : Nat → Nat} {i j l : Nat} (hi : i < 6) (hj : j < 6) (hl : l < 100) (h : psI a) : psI (psA a i j l) := by
  refine ⟨fun u v hu hv => ?_, fun k hk => ?_⟩
  · have e := h.1 u v hu hv
    unfold psA
    by_cases c : (a (i * 6 + j) = 0 ∨ l < a (i * 6 + j)) ∧ (u * 6 + v = i * 6 + j ∨ u * 6 + v = j * 6 + i)
    · rw [if_pos c, if_pos ⟨c.1, by omega⟩]
    · rw [if_neg c, if_neg (fun y => c ⟨y.1, by omega⟩)]; exact e
  · unfold psA
    split
    · omega
    · exact h.2 k hk
def S_t (k : Nat) : Prop := k = 63 ∨ (72 ≤ k ∧ k ≤ 75)
def frT (h h' : gk_H) : Prop := fr S_t h h' ∧ h'.1 63 4 = h.1 63 4
theorem frT_tr {h1 h2 h3 : gk_H} (a : frT h1 h2) (b : frT h2 h3) : frT h1 h3 := ⟨fr_tr a.1 b.1, b.2.trans a.2⟩
theorem frT_PD {h h' : gk_H} (b : PD h h') : frT h h' := ⟨fun k hk => ⟨funext fun j => b.2 k j (fun z => hk (Or.inl z.1)), by rw [b.1], by rw [b.1]⟩, b.2 63 4 (by omega)⟩
theorem TK_t {h h' : gk_H} {n N : Nat} {s : Nat → Nat} (a : frT h h') (t : TK h n s N) : TK h' n s N := TK_2 (a.1 60 (by unfold S_t; omega)).2.1 (a.1 61 (by unfold S_t; omega)).2.1 (a.1 62 (by unfold S_t; omega)).2.1 t
def Ff (h0 h : gk_H) (e : Nat × Nat) : Prop := frT h0 h ∧ CFt h e
def CPa (h0 h : gk_H) (s : Nat → Nat) (n N p : Nat) (a : Nat → Nat) (k : Nat) : Prop := frT h0 h ∧ CTok h s n N p ∧ psI a ∧ (∀ i, i < 36 → h.2.1 73 i = nI (a i)) ∧ h.2.1 72 1 = nI k
def CVo (h0 h : gk_H) (s : Nat → Nat) (n N p : Nat) (a : Nat → Int32) (k : Nat) : Prop := frT h0 h ∧ CTok h s n N p ∧ (∀ i, i < 10 → h.2.1 75 i = a i) ∧ h.2.1 72 3 = nI k
def CDi (h0 h : gk_H) (s : Nat → Nat) (n N p : Nat) (L : List gDe) (k : Nat) : Prop := frT h0 h ∧ CTok h s n N p ∧ L.length = k ∧ (∀ i, i < 4 * k → h.2.1 74 i = dF L i) ∧ h.2.1 72 2 = nI k
theorem dF_l {L : List gDe} {e : gDe} {i : Nat} (h : i < 4 * L.length) : dF (L ++ [e]) i = dF L i := by
  unfold dF
  rw [List.getElem?_append_left (by omega)]
theorem dF_r {L : List gDe} {e : gDe} {i r : Nat} (hr : r < 4) (h : i = 4 * L.length + r) : dF (L ++ [e]) i = if r = 0 then nI e.1 else if r = 1 then nI e.2.1 else if r = 2 then nI e.2.2.1 else nI e.2.2.2 := by
  unfold dF
  have e1 : i / 4 = L.length := by omega
  have e2 : i % 4 = r := by omega
  rw [e1, e2, List.getElem?_append_right (Nat.le_refl _), Nat.sub_self]
  rfl
section OTC
variable {E : gk_E} {d : Nat} {h h0 : gk_H} {n N p : Nat} {s : Nat → Nat}
theorem s_tx_addPassage {K : gk_H → Prop} {a : Nat → Nat} {i j l k : Nat} (hi : i < 6) (hj : j < 6) (hij : ¬ j = i) (hl : l < 100) (hk : k < 100) (pI : psI a) (ea : ∀ i, i < 36 → h.2.1 73 i = nI (a i)) (ek : h.2.1 72 1 = nI k) (kk : ∀ h', fr (fun k => k = 72 ∨ k = 73) h h' → (∀ i', i' < 36 → h'.2.1 73 i' = nI (psA a i j l i')) → h'.2.1 72 1 = nI (k + 1) → K h') : gk_cv E (d + 1) jtx_addPassage [.ref 64, .int (nI i), .int (nI j), .int (nI l)] h K := by
  have e1 : nI i * 6 + nI j = nI (i * 6 + j) := by rw [show nI i * 6 = nI (i * 6) from pk_mul i 6, nI_add]
  have e2 : nI j * 6 + nI i = nI (j * 6 + i) := by rw [show nI j * 6 = nI (j * 6) from pk_mul j 6, nI_add]
  have v1 : vp_in (nI (i * 6 + j)) 36 := vp_in_nI (by omega) (by decide)
  have v2 : vp_in (nI (j * 6 + i)) 36 := vp_in_nI (by omega) (by decide)
  have c1 : (1 : Int32).toNatClampNeg = 1 := by decide
  have vv : vp_in (1 : Int32) 4 := vpi (by decide)
  have hb := pI.2 (i * 6 + j) (by omega)
  have set : (a (i * 6 + j) = 0 ∨ l < a (i * 6 + j)) → K (gk_ha (gk_ha (gk_ha h 73 (i * 6 + j) (nI l)) 73 (j * 6 + i) (nI l)) 72 1 (nI (k + 1))) := fun c => by
    refine kk _ (fr_tr (fr_ha (Or.inr rfl)) (fr_tr (fr_ha (Or.inr rfl)) (fr_ha (Or.inl rfl)))) (fun i' hi' => ?_) (by rw [OW_set, if_pos rfl])
    rw [ha_o (by decide), OW_set, OW_set]
    unfold psA
    by_cases q : i' = j * 6 + i
    · rw [if_pos q, if_pos ⟨c, Or.inr q⟩]
    · by_cases q2 : i' = i * 6 + j
      · rw [if_neg q, if_pos q2, if_pos ⟨c, Or.inl q2⟩]
      · rw [if_neg q, if_neg q2, if_neg (fun y => y.2.elim q2 q)]; exact ea i' hi'
  refine gk_cv_mk (x_tx_addPassage ?_)
  unfold w_tx_addPassage
  rw [e1, e2, nI_clamp (by omega), nI_clamp (by omega), ea _ (by omega), c1]
  refine ⟨v1, fe (pk_eq (a (i * 6 + j)) 0 (fun q => ⟨v1, fe ⟨v2, fe ⟨vv, vv, fe ?_⟩⟩⟩) (fun q => pk_le (a (i * 6 + j)) l (fun q2 => ⟨vv, vv, fe ?_⟩) (fun q2 => ⟨v1, fe ⟨v2, fe ⟨vv, vv, fe ?_⟩⟩⟩)))⟩
  · rw [ha_o (by decide), ha_o (by decide), ek, nI_1]
    exact set (Or.inl q)
  · rw [ek, nI_1]
    refine kk _ (fr_ha (Or.inl rfl)) (fun i' hi' => ?_) (by rw [OW_set, if_pos rfl])
    rw [ha_o (by decide), ea i' hi']
    unfold psA
    rw [if_neg (fun y => by omega)]
  · rw [ha_o (by decide), ha_o (by decide), ek, nI_1]
    exact set (Or.inr q2)
theorem pT_ok {τ : gTk} {k p : Nat} (e : τ.1 p = k) : pT τ k p = .ok (τ.2.2 p) := by unfold pT; rw [if_pos e]
theorem s_pa_readPassage {K : Int32 → gk_H → Prop} {a : Nat → Nat} {k : Nat} (o : okK (tkT s n) n) (tk : TK h0 n s N) (st : CPa h0 h s n N p a k) (hk : k < 16) (h111 : tK s n p = 111) (kk : OC (psL (tkT s n) p a) (fun e => ∀ h', Ff h0 h' e → K 0 h') (fun x => ∀ h', CPa h0 h' s n N x.1 x.2 (k + 1) → K 1 h')) : gk_ci E (d + 4) jpa_readPassage [.ref 63] h K := by
  obtain ⟨f0, ct, pI, ea, ek⟩ := st
  have tkh := TK_t f0 tk
  have FF : ∀ {e h'}, CQf h h' e → Ff h0 h' e := fun q => ⟨frT_tr f0 (frT_PD q.1), q.2⟩
  unfold psL pTN at kk
  rw [pT_ok (show (tkT s n).1 p = 111 from h111)] at kk
  refine gk_ci_mk (x_pa_readPassage (s_pa_step (d := d + 2) tkh ⟨PD_rf, ct⟩ (fun h1 q1 => s_pa_takeRoom (d := d) o un_n tkh q1 (OC_bi kk (fun e H h' q' => fe (yT rfl ⟨Or.inl rfl, H h' (FF q')⟩)) (fun x ex H h2 q2 => ?_)))))
  obtain ⟨a1, a2, a3, a4, a5, a6, -⟩ := bN o ex
  refine fe (yF (nI_m1 (by omega)) (s_pa_take (d := d + 1) (w := 111) (by decide) tkh q2 (OC_bi (OC_as H) (fun e H h' q' => zT rfl ⟨Or.inl rfl, H h' (FF q')⟩) (fun r er H h3 q3 => zF (by decide) (s_pa_takeRoom (d := d) o (un_s a6) tkh q3 (OC_bi H (fun e H h' q' => fe (yT rfl ⟨Or.inl rfl, H h' (FF q')⟩)) (fun y ey H h4 q4 => ?_)))))))
  obtain ⟨b1, b2, b3, b4, b5, b6, b7⟩ := bN o ey
  refine fe (yF (nI_m1 (by omega)) (s_pa_take (d := d + 1) (w := 116) (by decide) tkh q4 (OC_bi (OC_as H) (fun e H h' q' => zT rfl ⟨Or.inl rfl, H h' (FF q')⟩) (fun r er H h3 q3 => zF (by decide) (s_pa_takeNumber (d := d + 1) (lo := 1) (hi := 100) o (by decide) (hi_n (m := 99) rfl (by decide)) un_n tkh q3 (OC_bi H (fun e H h' q' => fe (yT rfl ⟨Or.inl rfl, H h' (FF q')⟩)) (fun z ez H h5 q5 => ?_)))))))
  obtain ⟨c1, c2, c3, c4, c5, c6, -⟩ := bN o ez
  refine fe (yF (nI_m1 (by omega)) (s_pa_take (d := d + 1) (w := 59) (by decide) tkh q5 (OC_bi H (fun e H h' q' => zT rfl ⟨Or.inl rfl, H h' (FF q')⟩) (fun r er H h6 q6 => zF (by decide) ?_))))
  refine s_tx_addPassage (d := d + 2) (k := k) (a := a) a5 b5 b7 c5 (by omega) pI (by rw [q6.1.1]; exact ea) (by rw [q6.1.1]; exact ek) (fun h7 f7 e7 k7 => ⟨Or.inr rfl, H h7 ⟨frT_tr (frT_tr f0 (frT_PD q6.1)) ⟨fr_mo f7 (fun k q => by unfold S_t; omega), by rw [(f7 63 (by omega)).1]⟩, ?_, psI_A a5 b5 c5 pI, e7, k7⟩⟩)
  obtain ⟨t, t1, t2, t3, t4, t5⟩ := q6.2
  exact ⟨t, t1, by rw [(f7 63 (by omega)).1]; exact t2, t3, by rw [(f7 63 (by omega)).1]; exact t4, by unfold CF0; rw [(f7 63 (by omega)).1]; exact t5⟩
theorem s_pa_readVoucher {K : Int32 → gk_H → Prop} {a : Nat → Int32} {k pl : Nat} (o : okK (tkT s n) n) (tk : TK h0 n s N) (hpl : pl ≤ 10) (e4 : h0.1 63 4 = nI pl) (st : CVo h0 h s n N p a k) (hk : k < 16) (h123 : tK s n p = 123) (kk : OC (vcL (tkT s n) pl p a) (fun e => ∀ h', Ff h0 h' e → K 0 h') (fun x => ∀ h', CVo h0 h' s n N x.1 x.2 (k + 1) → K 1 h')) : gk_ci E (d + 4) jpa_readVoucher [.ref 63] h K := by
  obtain ⟨f0, ct, ea, ek⟩ := st
  have tkh := TK_t f0 tk
  have e4' : h.1 63 4 = nI pl := f0.2.trans e4
  have FF : ∀ {e h'}, CQf h h' e → Ff h0 h' e := fun q => ⟨frT_tr f0 (frT_PD q.1), q.2⟩
  unfold vcL pTN at kk
  rw [pT_ok (show (tkT s n).1 p = 123 from h123)] at kk
  refine gk_ci_mk (x_pa_readVoucher (s_pa_step (d := d + 2) tkh ⟨PD_rf, ct⟩ (fun h1 q1 => s_pa_takePlace (d := d) o un_n hpl e4' tkh q1 (OC_bi kk (fun e H h' q' => fe (yT rfl ⟨Or.inl rfl, H h' (FF q')⟩)) (fun x ex H h2 q2 => ?_)))))
  obtain ⟨a1, a2, a3, a4, a5, a6, -⟩ := bN o ex
  refine fe (yF (nI_m1 (by omega)) (s_pa_take (d := d + 1) (w := 124) (by decide) tkh q2 (OC_bi (OC_as H) (fun e H h' q' => zT rfl ⟨Or.inl rfl, H h' (FF q')⟩) (fun r er H h3 q3 => zF (by decide) (s_pa_takePlace (d := d) o (un_s a6) hpl e4' tkh q3 (OC_bi H (fun e H h' q' => fe (yT rfl ⟨Or.inl rfl, H h' (FF q')⟩)) (fun y ey H h4 q4 => ?_)))))))
  obtain ⟨b1, b2, b3, b4, b5, b6, b7⟩ := bN o ey
  refine fe (yF (nI_m1 (by omega)) (s_pa_take (d := d + 1) (w := 59) (by decide) tkh q4 (OC_bi H (fun e H h' q' => zT rfl ⟨Or.inl rfl, H h' (FF q')⟩) (fun r er H h6 q6 => zF (by decide) ?_))))
  have c3 : (3 : Int32).toNatClampNeg = 3 := by decide
  have vv : vp_in (3 : Int32) 4 := vpi (by decide)
  have vx : vp_in (nI x.2) 10 := vp_in_nI (by omega) (by decide)
  have ea6 : h6.2.1 75 x.2 = a x.2 := by rw [q6.1.1]; exact ea x.2 (by omega)
  have ek6 : h6.2.1 72 3 = nI k := by rw [q6.1.1]; exact ek
  refine gk_cv_mk (x_tx_addVoucher ?_)
  unfold w_tx_addVoucher
  rw [c3, nI_clamp (by omega), ea6]
  refine ⟨vx, vx, fe ⟨vv, vv, ?_⟩⟩
  rw [ha_o (by decide), ek6, nI_1]
  refine fe ⟨Or.inr rfl, H _ ⟨frT_tr (frT_tr f0 (frT_PD q6.1)) ⟨fr_tr (fr_ha (by unfold S_t; omega)) (fr_ha (by unfold S_t; omega)), rfl⟩, q6.2, fun i hi => ?_, by rw [OW_set, if_pos rfl]⟩⟩
  rw [ha_o (by decide), OW_set, q6.1.1, ea i hi]
  show _ = vcA a x.2 y.2 i
  unfold vcA
  by_cases q : i = x.2
  · rw [if_pos q, if_pos q, q]
  · rw [if_neg q, if_neg q]
theorem s_pa_actOfWord {K : Int32 → gk_H → Prop} (t4 : h.1 63 6 = nI (tK s n p)) (k1 : ∀ q w, pW (tkT s n) p = .ok (q, w) → q = nxp s n p → w ≤ 4 → p < n → K (nI w) h) (k0 : pW (tkT s n) p = .error (1, p) → K (-1) h) : gk_ci E (d + 1) jpa_actOfWord [.ref 63] h K := by
  have hb := tK_lt s n p
  have hc := tK_c s n p
  have no : ¬ (118 ≤ tK s n p ∧ tK s n p ≤ 120) → ¬ tK s n p = 110 → ¬ tK s n p = 122 → K (-1) h := fun h1 h2 h3 => k0 (by
    unfold pW
    rw [if_neg (show ¬ (118 ≤ (tkT s n).1 p ∧ (tkT s n).1 p ≤ 120) from h1), if_neg (show ¬ (tkT s n).1 p = 110 from h2), if_neg (show ¬ (tkT s n).1 p = 122 from h3)])
  have y3 : tK s n p = 110 → K 3 h := fun z => k1 (nxp s n p) 3 (by
    unfold pW
    rw [if_neg (show ¬ (118 ≤ (tkT s n).1 p ∧ (tkT s n).1 p ≤ 120) from fun y => by have : 118 ≤ tK s n p := y.1; omega), if_pos (show (tkT s n).1 p = 110 from z)]
    rfl) rfl (by decide) (by omega)
  have y4 : tK s n p = 122 → K 4 h := fun z => k1 (nxp s n p) 4 (by
    unfold pW
    rw [if_neg (show ¬ (118 ≤ (tkT s n).1 p ∧ (tkT s n).1 p ≤ 120) from fun y => by have : tK s n p ≤ 120 := y.2; omega), if_neg (show ¬ (tkT s n).1 p = 110 from fun y => by have : tK s n p = 110 := y; omega), if_pos (show (tkT s n).1 p = 122 from z)]
    rfl) rfl (by decide) (by omega)
  have yb : 118 ≤ tK s n p → tK s n p ≤ 120 → K (nI (tK s n p - 118)) h := fun z1 z2 => k1 (nxp s n p) (tK s n p - 118) (by
    unfold pW
    rw [if_pos (show 118 ≤ (tkT s n).1 p ∧ (tkT s n).1 p ≤ 120 from ⟨z1, z2⟩)]
    rfl) rfl (by omega) (by omega)
  refine gk_ci_mk (x_pa_actOfWord ?_)
  unfold w_pa_actOfWord
  rw [t4]
  refine pk_eq (tK s n p) 110 y3 (fun q0 => pk_eq (tK s n p) 111 (fun z => no (by omega) (by omega) (by omega)) (fun q1 => pk_eq (tK s n p) 112 (fun z => no (by omega) (by omega) (by omega)) (fun q2 => pk_eq (tK s n p) 113 (fun z => no (by omega) (by omega) (by omega)) (fun q3 => pk_eq (tK s n p) 114 (fun z => no (by omega) (by omega) (by omega)) (fun q4 => pk_eq (tK s n p) 115 (fun z => no (by omega) (by omega) (by omega)) (fun q5 => pk_eq (tK s n p) 116 (fun z => no (by omega) (by omega) (by omega)) (fun q6 => pk_eq (tK s n p) 117 (fun z => no (by omega) (by omega) (by omega)) (fun q7 => pk_eq (tK s n p) 118 (fun z => ?_) (fun q8 => pk_eq (tK s n p) 119 (fun z => ?_) (fun q9 => pk_eq (tK s n p) 120 (fun z => ?_) (fun q10 => pk_eq (tK s n p) 121 (fun z => no (by omega) (by omega) (by omega)) (fun q11 => pk_eq (tK s n p) 122 y4 (fun q12 => no (by omega) q0 q12)))))))))))))
  · have := yb (by omega) (by omega); rw [z] at this; exact this
  · have := yb (by omega) (by omega); rw [z] at this; exact this
  · have := yb (by omega) (by omega); rw [z] at this; exact this
theorem s_pa_takeDetail {K : Int32 → gk_H → Prop} {w : Nat} (o : okK (tkT s n) n) (tk : TK h0 n s N) (hw : w ≤ 4) (q : CQ h0 h s n N p) (k : OC (pDt (tkT s n) w p) (fun e => ∀ h', CQf h0 h' e → K (-1) h') (fun x => ∀ h', CQ h0 h' s n N x.1 → K (nI x.2) h')) : gk_ci E (d + 4) jpa_takeDetail [.ref 63, .int (nI w)] h K := by
  refine gk_ci_mk (x_pa_takeDetail ?_)
  unfold w_pa_takeDetail
  unfold pDt at k
  refine pk_eq w 2 (fun z => ?_) (fun z => pk_eq w 3 (fun z2 => ?_) (fun z2 => pk_eq w 4 (fun z3 => ?_) (fun z3 => ?_)))
  · rw [if_pos z] at k
    exact s_pa_take (d := d + 1) (w := 121) (by decide) tk q (OC_bi k (fun e H h' q' => yT rfl (H h' q')) (fun r er H h' q' => yF (by decide) (s_pa_takeRoom (d := d) o un_n tk q' (OC_mo H (fun e H => H) (fun x _ H => H)))))
  · rw [if_neg z, if_pos z2] at k
    exact s_pa_takeNumber (d := d + 1) (lo := 0) (hi := 10) o (by decide) (hi_n (m := 9) rfl (by decide)) un_n tk q k
  · rw [if_neg z, if_neg z2, if_pos z3] at k
    exact s_pa_takeNumber (d := d + 1) (lo := 0) (hi := 8) o (by decide) (hi_n (m := 7) rfl (by decide)) un_n tk q k
  · rw [if_neg z, if_neg z2, if_neg z3] at k
    exact k h q
theorem bDt (o : okK (tkT s n) n) {w : Nat} {x : Nat × Nat} (e : pDt (tkT s n) w p = .ok x) : x.2 < 10 ∧ (w = 2 → x.2 < 6) ∧ (w = 4 → x.2 < 8) := by
  unfold pDt at e
  split at e
  · obtain ⟨r, er, e⟩ := bind_ok e
    obtain ⟨-, -, -, -, b, -, -⟩ := bN o e
    omega
  · split at e
    · obtain ⟨-, -, -, -, b, -, -⟩ := bN o e
      omega
    · split at e
      · obtain ⟨-, -, -, -, b, -, -⟩ := bN o e
        omega
      · rename_i w2 w3 w4
        cases e
        exact ⟨by show 0 < 10; omega, fun z => absurd z w2, fun z => absurd z w4⟩
theorem s_pa_readEntry {K : Int32 → gk_H → Prop} {L : List gDe} {k pl : Nat} (o : okK (tkT s n) n) (tk : TK h0 n s N) (hpl : pl ≤ 10) (e4 : h0.1 63 4 = nI pl) (st : CDi h0 h s n N p L k) (hk : k < 16) (h117 : tK s n p = 117) (kk : OC (dyL (tkT s n) pl p L) (fun e => ∀ h', Ff h0 h' e → K 0 h') (fun x => ∀ h', CDi h0 h' s n N x.1 x.2 (k + 1) → K 1 h')) : gk_ci E (d + 5) jpa_readEntry [.ref 63] h K := by
  obtain ⟨f0, ct, lk, ea, ek⟩ := st
  have tkh := TK_t f0 tk
  have e4' : h.1 63 4 = nI pl := f0.2.trans e4
  have FF : ∀ {e h'}, CQf h h' e → Ff h0 h' e := fun q => ⟨frT_tr f0 (frT_PD q.1), q.2⟩
  unfold dyL pTN at kk
  rw [pT_ok (show (tkT s n).1 p = 117 from h117)] at kk
  refine gk_ci_mk (x_pa_readEntry (s_pa_step (d := d + 3) tkh ⟨PD_rf, ct⟩ (fun h1 q1 => s_pa_takeNumber (d := d + 2) (lo := 0) (hi := 1000) o (by decide) (hi_n (m := 999) rfl (by decide)) un_n tkh q1 (OC_bi kk (fun e H h' q' => fe (zT rfl ⟨Or.inl rfl, H h' (FF q')⟩)) (fun x ex H h2 q2 => ?_)))))
  obtain ⟨a1, a2, a3, a4, a5, a6, -⟩ := bN o ex
  obtain ⟨t, t1, t2, t3, t4, t5⟩ := q2.2
  refine fe (zF (nI_m1 (by omega)) (s_pa_actOfWord (d := d + 3) t4 (fun q w ew eq hw hx => ?_) (fun ew => ?_)))
  · rw [ew] at H
    have rest : ∀ (z : Nat × Nat) (h9 : gk_H), z.2 < 10 → CQ h h9 s n N z.1 → OC ((pDt (tkT s n) w z.1).bind (fun v => (pT (tkT s n) 59 v.1).bind (fun q => (.ok (q, L ++ [(x.2, w, z.2, v.2)]) : pRe (Nat × List gDe))))) (fun e => ∀ h', Ff h0 h' e → K 0 h') (fun x => ∀ h', CDi h0 h' s n N x.1 x.2 (k + 1) → K 1 h') → gk_ci E (d + 4) jpa_takeDetail [.ref 63, .int (nI w)] h9 (fun r_13 h_12 => ∀ x4_14 : Int32, x4_14 = r_13 → ((x4_14 = (-1 : Int32) → (((0 : Int32) = 0 ∨ (0 : Int32) = 1) ∧ gk_qi K (some (.int (0 : Int32))) h_12)) ∧ (¬ x4_14 = (-1 : Int32) → (gk_ci E (d + 4) jpa_take [.ref 63, .int (59 : Int32)] h_12 (fun r_16 h_15 => (¬ r_16 = 0 → (gk_cv E (d + 4) jtx_addEntry [.ref 64, .int (nI x.2), .int (nI w), .int (nI z.2), .int x4_14] h_15 (fun h_17 => ((1 : Int32) = 0 ∨ (1 : Int32) = 1) ∧ gk_qi K (some (.int (1 : Int32))) h_17))) ∧ (r_16 = 0 → (((0 : Int32) = 0 ∨ (0 : Int32) = 1) ∧ gk_qi K (some (.int (0 : Int32))) h_15))))))) := by
      intro z h9 hz q9 k9
      refine s_pa_takeDetail (d := d) o tkh hw q9 (OC_bi k9 (fun e H h' q' => fe (yT rfl ⟨Or.inl rfl, H h' (FF q')⟩)) (fun v ev H h10 q10 => ?_))
      have bv := bDt o ev
      refine fe (yF (nI_m1 (by omega)) (s_pa_take (d := d + 2) (w := 59) (by decide) tkh q10 (OC_bi H (fun e H h' q' => zT rfl ⟨Or.inl rfl, H h' (FF q')⟩) (fun r er H h6 q6 => zF (by decide) ?_))))
      have c2 : (2 : Int32).toNatClampNeg = 2 := by decide
      have vv : vp_in (2 : Int32) 4 := vpi (by decide)
      have ek6 : h6.2.1 72 2 = nI k := by rw [q6.1.1]; exact ek
      have e40 : nI k * 4 = nI (4 * k) := by rw [show nI k * 4 = nI (k * 4) from pk_mul k 4, Nat.mul_comm]
      have s1 : nI (4 * k) + 1 = nI (4 * k + 1) := nI_add _ 1
      have s2 : nI (4 * k) + 2 = nI (4 * k + 2) := nI_add _ 2
      have s3 : nI (4 * k) + 3 = nI (4 * k + 3) := nI_add _ 3
      have s4 : nI (4 * k) + 4 = nI (4 * k + 4) := nI_add _ 4
      refine gk_cv_mk (x_tx_addEntry ?_)
      unfold w_tx_addEntry
      rw [c2, ek6, e40]
      refine ⟨vv, fe ?_⟩
      rw [s1, s2, s3, s4, nI_clamp (n := 4 * k) (by omega), nI_clamp (n := 4 * k + 1) (by omega), nI_clamp (n := 4 * k + 2) (by omega), nI_clamp (n := 4 * k + 3) (by omega)]
      refine pk_le (4 * k + 4) 64 (fun _ => ⟨vp_in_nI (by omega) (by decide), fe ⟨vp_in_nI (by omega) (by decide), fe ⟨vp_in_nI (by omega) (by decide), fe ⟨vp_in_nI (by omega) (by decide), fe ⟨vv, vv, ?_⟩⟩⟩⟩⟩) (fun q => by omega)
      rw [ha_o (by decide), ha_o (by decide), ha_o (by decide), ha_o (by decide), ek6, nI_1]
      refine fe ⟨Or.inr rfl, H _ ⟨frT_tr (frT_tr f0 (frT_PD q6.1)) ⟨fr_tr (fr_ha (by unfold S_t; omega)) (fr_tr (fr_ha (by unfold S_t; omega)) (fr_tr (fr_ha (by unfold S_t; omega)) (fr_tr (fr_ha (by unfold S_t; omega)) (fr_ha (by unfold S_t; omega))))), rfl⟩, q6.2, ?_, fun i hi => ?_, by rw [OW_set, if_pos rfl]⟩⟩
      · show (L ++ [_]).length = k + 1
        rw [List.length_append, lk]; rfl
      · show _ = dF (L ++ [(x.2, w, z.2, v.2)]) i
        rw [ha_o (by decide), OW_set, OW_set, OW_set, OW_set]
        by_cases w3 : i = 4 * k + 3
        · rw [if_pos w3, dF_r (r := 3) (by decide) (by rw [lk]; exact w3)]; rfl
        · rw [if_neg w3]
          by_cases w2 : i = 4 * k + 2
          · rw [if_pos w2, dF_r (r := 2) (by decide) (by rw [lk]; exact w2)]; rfl
          · rw [if_neg w2]
            by_cases w1 : i = 4 * k + 1
            · rw [if_pos w1, dF_r (r := 1) (by decide) (by rw [lk]; exact w1)]; rfl
            · rw [if_neg w1]
              by_cases w0 : i = 4 * k
              · rw [if_pos w0, dF_r (r := 0) (by decide) (by rw [lk]; exact w0)]; rfl
              · rw [if_neg w0, dF_l (by rw [lk]; omega), q6.1.1]
                exact ea i (by omega)
    have H : OC ((pN (tkT s n) 0 (if w = 3 then 6 else pl) 10000 q).bind (fun z => (pDt (tkT s n) w z.1).bind (fun v => (pT (tkT s n) 59 v.1).bind (fun q => (.ok (q, L ++ [(x.2, w, z.2, v.2)]) : pRe (Nat × List gDe)))))) (fun e => ∀ h', Ff h0 h' e → K 0 h') (fun x => ∀ h', CDi h0 h' s n N x.1 x.2 (k + 1) → K 1 h') := H
    refine fe (zF (nI_m1 (by omega)) (s_pa_step (d := d + 3) tkh q2 (fun h8 q8 => ?_)))
    rw [← eq] at q8
    refine pk_ne w 3 (fun w3 => ?_) (fun w3 => ?_)
    · rw [if_neg w3] at H
      refine s_pa_takePlace (d := d + 1) o un_n hpl e4' tkh q8 (OC_bi H (fun e H h' q' => fe (zT rfl ⟨Or.inl rfl, H h' (FF q')⟩)) (fun z ez H h9 q9 => ?_))
      obtain ⟨-, -, -, -, z5, z6, -⟩ := bN o ez
      exact fe (zF (nI_m1 (by omega)) (rest z h9 (by omega) q9 H))
    · rw [if_pos w3] at H
      refine s_pa_takeRoom (d := d + 1) o un_n tkh q8 (OC_bi H (fun e H h' q' => fe (zT rfl ⟨Or.inl rfl, H h' (FF q')⟩)) (fun z ez H h9 q9 => ?_))
      obtain ⟨-, -, -, -, z5, z6, -⟩ := bN o ez
      exact fe (zF (nI_m1 (by omega)) (rest z h9 (by omega) q9 H))
  · rw [ew] at H
    exact fe (zT rfl (s_pa_refuse (d := d + 3) (f := 1) tkh q2 (fun h' q' => ⟨Or.inl rfl, H h' (FF q')⟩)))
end OTC
