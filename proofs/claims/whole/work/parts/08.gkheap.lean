/-! the heap's rows -/
theorem gk_u_lays {C : String} {T : u_T} {N : Nat} : (u_ws C T N).all goodWord = true := by
  rw [List.all_eq_true]
  intro w hw
  obtain ⟨k, -, rfl⟩ := List.mem_map.mp hw
  unfold u_lay
  split <;> rfl
set_option maxRecDepth 100000 in
theorem gk_clok {ci : Nat} {C : String} {T : u_T} {N : Nat} (hc : vwCl[ci]? = some (C, T, N)) : (∀ w ∈ u_ws C T N, w ∈ gk_TT) ∧ (∃ ty0 : Nat → FieldType, ∀ k, k < N → parseFieldDescriptor (T k).2.2.1 = some (ty0 k)) ∧ (∀ a, a < N → ∀ b, b < N → a ≠ b → (T a).2.1 ≠ (T b).2.1) := by
  have key : (∀ w ∈ u_ws C T N, w ∈ lw_tbl) → ∀ w ∈ u_ws C T N, w ∈ gk_TT := fun h w hw => gk_TT_of (h w hw) (List.all_eq_true.mp gk_u_lays w hw)
  match ci, hc with
  | 0, hc => cases hc; exact ⟨key (by decide +kernel), ⟨_, tyX1_ok⟩, nmX1⟩
  | 1, hc => cases hc; exact ⟨key (by decide +kernel), ⟨_, tyX2_ok⟩, nmX2⟩
  | 2, hc => cases hc; exact ⟨key (by decide +kernel), ⟨_, tyX3_ok⟩, nmX3⟩
  | 3, hc => cases hc; exact ⟨key (by decide +kernel), ⟨_, tyX4_ok⟩, nmX4⟩
  | 4, hc => cases hc; exact ⟨key (by decide +kernel), ⟨_, tyX5_ok⟩, nmX5⟩
  | 5, hc => cases hc; exact ⟨key (by decide +kernel), ⟨_, tyX6_ok⟩, nmX6⟩
  | 6, hc => cases hc; exact ⟨key (by decide +kernel), ⟨_, tyX7_ok⟩, nmX7⟩
  | 7, hc => cases hc; exact ⟨key (by decide +kernel), ⟨_, tyX8_ok⟩, nmX8⟩
  | 8, hc => cases hc; exact ⟨key (by decide +kernel), ⟨_, tyX9_ok⟩, nmX9⟩
  | 9, hc => cases hc; exact ⟨key (by decide +kernel), ⟨_, tyX10_ok⟩, nmX10⟩
  | 10, hc => cases hc; exact ⟨key (by decide +kernel), ⟨_, tyX11_ok⟩, nmX11⟩
  | k + 11, hc => simp [vwCl] at hc
/-- an entry of a pool's fields says what is so: kd 0 int, 1 boolean, 2 a reference that is read, 5 one that its own constructor writes -/
def gk_kok (own dec : String) (fin : Bool) (b : Option Bool) (kd : Nat) (ty : FieldType) : Prop := match kd with
  | 0 => b = some false ∧ ty = .int ∧ fin = false
  | 1 => b = some false ∧ ty = .boolean ∧ fin = false
  | 2 => b = some true
  | _ => b = some true ∧ fin = true ∧ dec = own ∧ ((∃ n, ty = .object n) ∨ ∃ t, ty = .array t)
def gk_fok (own : String) (idx ci sl kd : Nat) : Prop := ∃ (C : String) (T : u_T) (N : Nat) (ty : FieldType), vwCl[ci]? = some (C, T, N) ∧ sl < N ∧ (gk_bs ci).length = N ∧ Cond.fieldLink own idx (T sl).1 (T sl).2.1 (T sl).2.2.1 ∈ gk_TT ∧ parseFieldDescriptor (T sl).2.2.1 = some ty ∧ gk_kok own (T sl).1 (T sl).2.2.2 ((gk_bs ci)[sl]?) kd ty
theorem gk_fs_get {ad : Nat → Nat} {bs : List Bool} {rs : List (Option Nat)} {f : Nat → Int32} {i : Nat} {b : Bool} (h : bs[i]? = some b) : (gk_fs ad bs rs f)[i]? = some (bif b then va_rf ((rs.getD i none).map ad) else .int (f i)) := by
  rw [gk_fs, List.getElem?_mapIdx, h]; rfl
theorem gk_fs_len {ad : Nat → Nat} {bs : List Bool} {rs : List (Option Nat)} {f : Nat → Int32} : (gk_fs ad bs rs f).length = bs.length := by rw [gk_fs, List.length_mapIdx]
theorem gk_fs_seti {ad : Nat → Nat} {bs : List Bool} {rs : List (Option Nat)} {f : Nat → Int32} {i : Nat} {x : Int32} (h : bs[i]? = some false) : (gk_fs ad bs rs f).set i (.int x) = gk_fs ad bs rs (upd f i x) := by
  have hl : i < bs.length := (List.getElem?_eq_some_iff.mp h).1
  refine List.ext_getElem? fun q => ?_
  by_cases hq : q = i
  · subst hq
    rw [List.getElem?_set_self (by rw [gk_fs_len]; exact hl), gk_fs_get h]
    simp [upd]
  · rw [List.getElem?_set_ne (Ne.symm hq), gk_fs, gk_fs, List.getElem?_mapIdx, List.getElem?_mapIdx]
    simp [upd, hq]
theorem gk_fs_setr {ad : Nat → Nat} {bs : List Bool} {rs : List (Option Nat)} {f : Nat → Int32} {i : Nat} {a : Option Nat} (h : bs[i]? = some true) (hr : i < rs.length) : (gk_fs ad bs rs f).set i (va_rf (a.map ad)) = gk_fs ad bs (rs.set i a) f := by
  have hl : i < bs.length := (List.getElem?_eq_some_iff.mp h).1
  refine List.ext_getElem? fun q => ?_
  by_cases hq : q = i
  · subst hq
    rw [List.getElem?_set_self (by rw [gk_fs_len]; exact hl), gk_fs_get h]
    simp [List.getD_eq_getElem?_getD, List.getElem?_set_self hr]
  · rw [List.getElem?_set_ne (Ne.symm hq), gk_fs, gk_fs, List.getElem?_mapIdx, List.getElem?_mapIdx]
    simp [List.getD_eq_getElem?_getD, List.getElem?_set_ne (Ne.symm hq)]
theorem gk_ad_own {base : Nat} {ro : Nat → Nat} {k : Nat} (h : k < 1000000) : gk_ad base ro k = base + k := if_pos h
theorem gk_ad_ro {base : Nat} {ro : Nat → Nat} {k : Nat} : gk_ad base ro (1000000 + k) = ro k := by
  rw [gk_ad, if_neg (Nat.not_lt.mpr (Nat.le_add_right _ _)), Nat.add_sub_cancel_left]
theorem gk_lt {base : Nat} {ro : Nat → Nat} {cs : Nat → ClassId} {D : va_G} {Γ : gk_G} {h : gk_H} {H : Heap} (hr : gk_rel base ro cs D Γ h H) {k : Nat} {κ : gk_K} (hk : Γ[k]? = some κ) : k < 1000000 := Nat.lt_of_lt_of_le (List.getElem?_eq_some_iff.mp hk).1 hr.1
theorem gk_up_ne {α : Type} {f : Nat → α} {k q : Nat} {v : α} (h : q ≠ k) : va_up f k v q = f q := if_neg h
theorem gk_up_eq {α : Type} {f : Nat → α} {k : Nat} {v : α} : va_up f k v k = v := if_pos rfl
/-- a change of one cell's numbers -/
theorem gk_rel_set {base : Nat} {ro : Nat → Nat} {cs : Nat → ClassId} {D : va_G} {Γ : gk_G} {h h' : gk_H} {H H1 : Heap} {k : Nat} {κ κ' : gk_K} {e : va_E} (hr : gk_rel base ro cs D Γ h H) (hk : Γ[k]? = some κ) (hh : ∀ q, q ≠ k → h'.1 q = h.1 q ∧ h'.2.1 q = h.2.1 q ∧ h'.2.2 q = h.2.2 q) (he : e = gk_cell (gk_ad base ro) cs κ' (h'.1 k) (h'.2.1 k) (h'.2.2 k)) (hP : va_P D vwCl ((gk_ws base (gk_ad base ro) cs Γ h).set k (base + k, e)) H1) : gk_rel base ro cs D (Γ.set k κ') h' H1 := by
  refine ⟨by rw [List.length_set]; exact hr.1, ?_⟩
  rw [he, gk_ws_set hk rfl hh] at hP
  exact hP
theorem gk_rel_set0 {base : Nat} {ro : Nat → Nat} {cs : Nat → ClassId} {D : va_G} {Γ : gk_G} {h h' : gk_H} {H H1 : Heap} {k : Nat} {κ : gk_K} {e : va_E} (hr : gk_rel base ro cs D Γ h H) (hk : Γ[k]? = some κ) (hh : ∀ q, q ≠ k → h'.1 q = h.1 q ∧ h'.2.1 q = h.2.1 q ∧ h'.2.2 q = h.2.2 q) (he : e = gk_cell (gk_ad base ro) cs κ (h'.1 k) (h'.2.1 k) (h'.2.2 k)) (hP : va_P D vwCl ((gk_ws base (gk_ad base ro) cs Γ h).set k (base + k, e)) H1) : gk_rel base ro cs D Γ h' H1 := by
  have h9 := gk_rel_set hr hk hh he hP
  rwa [← gk_set_self hk] at h9
def gk_hf (h : gk_H) (k i : Nat) (x : Int32) : gk_H := (va_up h.1 k (upd (h.1 k) i x), h.2)
def gk_ha (h : gk_H) (k i : Nat) (x : Int32) : gk_H := (h.1, va_up h.2.1 k (upd (h.2.1 k) i x), h.2.2)
def gk_hl (h : gk_H) (k i : Nat) (x : Int64) : gk_H := (h.1, h.2.1, va_up h.2.2 k (vp_updL (h.2.2 k) i x))
section GKH
variable {M : Nat → gk_J} {E : gk_E} {d j : Nat} {cf : Bool} {mc ms : Nat} {Γe : gk_G} {Q : Option Value → gk_H → Prop} {pc : Nat} {L : gk_L} {st : List Value} {Γ : gk_G} {h : gk_H} {nc ns : Nat}
set_option maxHeartbeats 1000000 in
theorem gk_go_get {idx ci sl kd k : Nat} {b : Bool} {rs : List (Option Nat)} (hf : gk_fok (M j).1.cls idx ci sl kd) (hbs : (gk_bs ci)[sl]? = some b) (hk : Γ[k]? = some (0, ci, rs)) (hdg : decode (M j).2.1 pc = .ok (.getfield idx, 3))
    (kk : gk_Go M E d j cf mc ms Γe Q (pc + 3) L ((bif b then va_rf (rs.getD sl none) else .int (h.1 k sl)) :: st) Γ h nc ns) : gk_Go M E d j cf mc ms Γe Q pc L (.ref k :: st) Γ h nc ns := by
  intro p l e R s m args below meth c base ro cs D QF H locs ls X hret hrel hS hL hac
  obtain ⟨hx, hb, hml, hown, hts, hin, hR, hK, hRO, hbs0⟩ := id X
  obtain ⟨C, T, N, ty, h1, h2, h3, h4, h5, h6⟩ := hf
  obtain ⟨c1, ⟨ty0, c2⟩, c3⟩ := gk_clok h1
  have e1 : gk_v (gk_ad base ro) (.ref k) = .ref (base + k) := by show Value.ref (gk_ad base ro k) = _; rw [gk_ad_own (gk_lt hrel hk)]
  rw [List.map_cons, e1]
  refine va_get (D := D) (ci := ci) (C := C) (T := T) (N := N) (v := bif b then va_rf ((rs.getD sl none).map (gk_ad base ro)) else .int (h.1 k sl)) hx hb hts c1 hown hK hrel.2 k (fs := gk_fs (gk_ad base ro) (gk_bs ci) rs (h.1 k)) (gk_ws_get hk) h1 sl h2 (hts _ h4) (fun _ h9 => h9) (gk_fs_get hbs) hdg ?_
  have h9 := kk p l e R s m args below meth c base ro cs D QF H locs ls X hret hrel hS hL hac
  have e2 : gk_v (gk_ad base ro) (bif b then va_rf (rs.getD sl none) else .int (h.1 k sl)) = bif b then va_rf ((rs.getD sl none).map (gk_ad base ro)) else .int (h.1 k sl) := by
    cases b with
    | false => rfl
    | true => cases rs.getD sl none <;> rfl
  rw [List.map_cons, e2] at h9
  exact h9
set_option maxHeartbeats 1000000 in
theorem gk_go_puti {idx ci sl kd k : Nat} {x : Int32} {rs : List (Option Nat)} (hf : gk_fok (M j).1.cls idx ci sl kd) (hkd : kd = 0 ∨ (kd = 1 ∧ (x = 0 ∨ x = 1))) (hk : Γ[k]? = some (0, ci, rs)) (hdg : decode (M j).2.1 pc = .ok (.putfield idx, 3))
    (kk : gk_Go M E d j cf mc ms Γe Q (pc + 3) L st Γ (gk_hf h k sl x) nc ns) : gk_Go M E d j cf mc ms Γe Q pc L (.int x :: .ref k :: st) Γ h nc ns := by
  intro p l e R s m args below meth c base ro cs D QF H locs ls X hret hrel hS hL hac
  obtain ⟨hx, hb, hml, hown, hts, hin, hR, hK, hRO, hbs0⟩ := id X
  obtain ⟨C, T, N, ty, h1, h2, h3, h4, h5, h6⟩ := hf
  obtain ⟨c1, ⟨ty0, c2⟩, c3⟩ := gk_clok h1
  have e1 : gk_v (gk_ad base ro) (.ref k) = .ref (base + k) := by show Value.ref (gk_ad base ro k) = _; rw [gk_ad_own (gk_lt hrel hk)]
  rw [List.map_cons, List.map_cons, e1]
  have h7 : (gk_bs ci)[sl]? = some false ∧ (T sl).2.2.2 = false ∧ narrow ty (.int x) = .int x ∧ fits ty (.int x) = true := by
    rcases hkd with rfl | ⟨rfl, hx01⟩
    · obtain ⟨g1, rfl, g3⟩ := h6; exact ⟨g1, g3, rfl, rfl⟩
    · obtain ⟨g1, rfl, g3⟩ := h6
      rcases hx01 with rfl | rfl <;> exact ⟨g1, g3, by decide +kernel, by decide +kernel⟩
  refine va_put (D := D) (ci := ci) (C := C) (T := T) (N := N) (v := .int x) (A := gk_A base) (H0 := s.heap) hx hb hts c1 ty0 c2 c3 hown hK hrel.2 gk_ws_D hS k (fs := gk_fs (gk_ad base ro) (gk_bs ci) rs (h.1 k)) (gk_ws_get hk) h1 sl h2 (hts _ h4) (fun _ h9 => h9) h7.2.1 h5 h7.2.2.1 h7.2.2.2 (by rw [gk_fs_len, h3]; exact h2) hdg (fun H1 locs1 hP1 hD1 hS1 => ?_)
  refine kk p l e R s m args below meth c base ro cs D QF H1 locs1 ls X hret ?_ hS1 hL hac
  refine gk_rel_set0 hrel hk (fun q hq => ⟨gk_up_ne hq, rfl, rfl⟩) ?_ hP1
  show Sum.inr (ci, _) = Sum.inr (ci, gk_fs (gk_ad base ro) (gk_bs ci) rs (va_up h.1 k (upd (h.1 k) sl x) k))
  rw [gk_up_eq, gk_fs_seti h7.1]
set_option maxHeartbeats 1000000 in
theorem gk_go_putr {idx ci sl kd k : Nat} {a : Option Nat} {rs : List (Option Nat)} (hcf : cf = true) (hf : gk_fok (M j).1.cls idx ci sl kd) (hkd : kd = 5) (hk : Γ[k]? = some (0, ci, rs)) (hr : sl < rs.length) (hdg : decode (M j).2.1 pc = .ok (.putfield idx, 3))
    (kk : gk_Go M E d j cf mc ms Γe Q (pc + 3) L st (Γ.set k (0, ci, rs.set sl a)) h nc ns) : gk_Go M E d j cf mc ms Γe Q pc L (va_rf a :: .ref k :: st) Γ h nc ns := by
  intro p l e R s m args below meth c base ro cs D QF H locs ls X hret hrel hS hL hac
  obtain ⟨hx, hb, hml, hown, hts, hin, hR, hK, hRO, hbs0⟩ := id X
  obtain ⟨C, T, N, ty, h1, h2, h3, h4, h5, h6⟩ := hf
  obtain ⟨c1, ⟨ty0, c2⟩, c3⟩ := gk_clok h1
  subst hkd
  obtain ⟨g1, g2, g3, g4⟩ := h6
  have e1 : gk_v (gk_ad base ro) (.ref k) = .ref (base + k) := by show Value.ref (gk_ad base ro k) = _; rw [gk_ad_own (gk_lt hrel hk)]
  have e2 : gk_v (gk_ad base ro) (va_rf a) = va_rf (a.map (gk_ad base ro)) := by cases a <;> rfl
  rw [List.map_cons, List.map_cons, e1, e2]
  have h7 : narrow ty (va_rf (a.map (gk_ad base ro))) = va_rf (a.map (gk_ad base ro)) ∧ fits ty (va_rf (a.map (gk_ad base ro))) = true := by
    rcases g4 with ⟨n, rfl⟩ | ⟨t, rfl⟩ <;> cases a <;> exact ⟨rfl, rfl⟩
  refine va_putF (D := D) (ci := ci) (C := C) (T := T) (N := N) (v := va_rf (a.map (gk_ad base ro))) (A := gk_A base) (H0 := s.heap) hx hb hts c1 ty0 c2 c3 hown hK hrel.2 gk_ws_D hS k (fs := gk_fs (gk_ad base ro) (gk_bs ci) rs (h.1 k)) (gk_ws_get hk) h1 sl h2 (hts _ h4) (fun _ h9 => h9) g2 (hin hcf) g3 h5 h7.1 h7.2 (by rw [gk_fs_len, h3]; exact h2) hdg (fun H1 locs1 hP1 hD1 hS1 => ?_)
  refine kk p l e R s m args below meth c base ro cs D QF H1 locs1 ls X hret ?_ hS1 hL (by rw [List.length_set]; exact hac)
  refine gk_rel_set hrel hk (fun q hq => ⟨rfl, rfl, rfl⟩) ?_ hP1
  show Sum.inr (ci, _) = Sum.inr (ci, gk_fs (gk_ad base ro) (gk_bs ci) (rs.set sl a) (h.1 k))
  rw [gk_fs_setr g1 hr]
theorem gk_go_iald {k n : Nat} {i : Int32} {rs : List (Option Nat)} (hk : Γ[k]? = some (1, n, rs)) (hi : vp_in i n) (hdg : decode (M j).2.1 pc = .ok (.iaload, 1)) (kk : gk_Go M E d j cf mc ms Γe Q (pc + 1) L (.int (h.2.1 k i.toNatClampNeg) :: st) Γ h nc ns) : gk_Go M E d j cf mc ms Γe Q pc L (.int i :: .ref k :: st) Γ h nc ns := by
  intro p l e R s m args below meth c base ro cs D QF H locs ls X hret hrel hS hL hac
  obtain ⟨hx, hb, hml, hown, hts, hin, hR, hK, hRO, hbs0⟩ := id X
  have e1 : gk_v (gk_ad base ro) (.ref k) = .ref (base + k) := by show Value.ref (gk_ad base ro k) = _; rw [gk_ad_own (gk_lt hrel hk)]
  rw [List.map_cons, List.map_cons, e1]
  exact va_iald (D := D) (cA := cs 0) (n := n) (f := h.2.1 k) hx hb hK hrel.2 k 0 (gk_ws_get hk) rfl hi hdg (kk p l e R s m args below meth c base ro cs D QF H locs ls X hret hrel hS hL hac)
theorem gk_go_cald {k n : Nat} {i : Int32} {rs : List (Option Nat)} (hk : Γ[k]? = some (2, n, rs)) (hi : vp_in i n) (hdg : decode (M j).2.1 pc = .ok (.caload, 1)) (kk : gk_Go M E d j cf mc ms Γe Q (pc + 1) L (.int (h.2.1 k i.toNatClampNeg) :: st) Γ h nc ns) : gk_Go M E d j cf mc ms Γe Q pc L (.int i :: .ref k :: st) Γ h nc ns := by
  intro p l e R s m args below meth c base ro cs D QF H locs ls X hret hrel hS hL hac
  obtain ⟨hx, hb, hml, hown, hts, hin, hR, hK, hRO, hbs0⟩ := id X
  have e1 : gk_v (gk_ad base ro) (.ref k) = .ref (base + k) := by show Value.ref (gk_ad base ro k) = _; rw [gk_ad_own (gk_lt hrel hk)]
  rw [List.map_cons, List.map_cons, e1]
  exact va_cald (D := D) (cA := cs 1) (n := n) (f := h.2.1 k) hx hb hK hrel.2 k 1 (gk_ws_get hk) rfl hi hdg (kk p l e R s m args below meth c base ro cs D QF H locs ls X hret hrel hS hL hac)
theorem gk_go_lald {k n : Nat} {i : Int32} {rs : List (Option Nat)} (hk : Γ[k]? = some (3, n, rs)) (hi : vp_in i n) (hdg : decode (M j).2.1 pc = .ok (.laload, 1)) (kk : gk_Go M E d j cf mc ms Γe Q (pc + 1) L (.long (h.2.2 k i.toNatClampNeg) :: st) Γ h nc ns) : gk_Go M E d j cf mc ms Γe Q pc L (.int i :: .ref k :: st) Γ h nc ns := by
  intro p l e R s m args below meth c base ro cs D QF H locs ls X hret hrel hS hL hac
  obtain ⟨hx, hb, hml, hown, hts, hin, hR, hK, hRO, hbs0⟩ := id X
  have e1 : gk_v (gk_ad base ro) (.ref k) = .ref (base + k) := by show Value.ref (gk_ad base ro k) = _; rw [gk_ad_own (gk_lt hrel hk)]
  rw [List.map_cons, List.map_cons, e1]
  exact va_lald (D := D) (cA := cs 2) (n := n) (f := h.2.2 k) hx hb hK hrel.2 k 2 (gk_ws_get hk) rfl hi hdg (kk p l e R s m args below meth c base ro cs D QF H locs ls X hret hrel hS hL hac)
theorem gk_go_iast {k n : Nat} {i x : Int32} {rs : List (Option Nat)} (hk : Γ[k]? = some (1, n, rs)) (hi : vp_in i n) (hdg : decode (M j).2.1 pc = .ok (.iastore, 1)) (kk : gk_Go M E d j cf mc ms Γe Q (pc + 1) L st Γ (gk_ha h k i.toNatClampNeg x) nc ns) : gk_Go M E d j cf mc ms Γe Q pc L (.int x :: .int i :: .ref k :: st) Γ h nc ns := by
  intro p l e R s m args below meth c base ro cs D QF H locs ls X hret hrel hS hL hac
  obtain ⟨hx, hb, hml, hown, hts, hin, hR, hK, hRO, hbs0⟩ := id X
  have e1 : gk_v (gk_ad base ro) (.ref k) = .ref (base + k) := by show Value.ref (gk_ad base ro k) = _; rw [gk_ad_own (gk_lt hrel hk)]
  rw [List.map_cons, List.map_cons, List.map_cons, e1]
  refine va_iast (D := D) (cA := cs 0) (n := n) (f := h.2.1 k) (A := gk_A base) (H0 := s.heap) hx hb hK hrel.2 gk_ws_D hS k 0 (gk_ws_get hk) rfl hi hdg (fun H1 locs1 hP1 hD1 hS1 => ?_)
  refine kk p l e R s m args below meth c base ro cs D QF H1 locs1 ls X hret ?_ hS1 hL hac
  refine gk_rel_set0 hrel hk (fun q hq => ⟨rfl, gk_up_ne hq, rfl⟩) ?_ hP1
  show _ = Sum.inl (cs 0, n, Sum.inl (va_up h.2.1 k (upd (h.2.1 k) i.toNatClampNeg x) k))
  rw [gk_up_eq]
theorem gk_go_cast {k n : Nat} {i x : Int32} {rs : List (Option Nat)} (hk : Γ[k]? = some (2, n, rs)) (hi : vp_in i n) (hdg : decode (M j).2.1 pc = .ok (.castore, 1)) (kk : gk_Go M E d j cf mc ms Γe Q (pc + 1) L st Γ (gk_ha h k i.toNatClampNeg (vp_nar .char x)) nc ns) : gk_Go M E d j cf mc ms Γe Q pc L (.int x :: .int i :: .ref k :: st) Γ h nc ns := by
  intro p l e R s m args below meth c base ro cs D QF H locs ls X hret hrel hS hL hac
  obtain ⟨hx, hb, hml, hown, hts, hin, hR, hK, hRO, hbs0⟩ := id X
  have e1 : gk_v (gk_ad base ro) (.ref k) = .ref (base + k) := by show Value.ref (gk_ad base ro k) = _; rw [gk_ad_own (gk_lt hrel hk)]
  rw [List.map_cons, List.map_cons, List.map_cons, e1]
  refine va_cast (D := D) (cA := cs 1) (n := n) (f := h.2.1 k) (A := gk_A base) (H0 := s.heap) hx hb hK hrel.2 gk_ws_D hS k 1 (gk_ws_get hk) rfl hi hdg (fun H1 locs1 hP1 hD1 hS1 => ?_)
  refine kk p l e R s m args below meth c base ro cs D QF H1 locs1 ls X hret ?_ hS1 hL hac
  refine gk_rel_set0 hrel hk (fun q hq => ⟨rfl, gk_up_ne hq, rfl⟩) ?_ hP1
  show _ = Sum.inl (cs 1, n, Sum.inl (va_up h.2.1 k (upd (h.2.1 k) i.toNatClampNeg (vp_nar .char x)) k))
  rw [gk_up_eq]
theorem gk_go_last {k n : Nat} {i : Int32} {x : Int64} {rs : List (Option Nat)} (hk : Γ[k]? = some (3, n, rs)) (hi : vp_in i n) (hdg : decode (M j).2.1 pc = .ok (.lastore, 1)) (kk : gk_Go M E d j cf mc ms Γe Q (pc + 1) L st Γ (gk_hl h k i.toNatClampNeg x) nc ns) : gk_Go M E d j cf mc ms Γe Q pc L (.long x :: .int i :: .ref k :: st) Γ h nc ns := by
  intro p l e R s m args below meth c base ro cs D QF H locs ls X hret hrel hS hL hac
  obtain ⟨hx, hb, hml, hown, hts, hin, hR, hK, hRO, hbs0⟩ := id X
  have e1 : gk_v (gk_ad base ro) (.ref k) = .ref (base + k) := by show Value.ref (gk_ad base ro k) = _; rw [gk_ad_own (gk_lt hrel hk)]
  rw [List.map_cons, List.map_cons, List.map_cons, e1]
  refine va_last (D := D) (cA := cs 2) (n := n) (f := h.2.2 k) (A := gk_A base) (H0 := s.heap) hx hb hK hrel.2 gk_ws_D hS k 2 (gk_ws_get hk) rfl hi hdg (fun H1 locs1 hP1 hD1 hS1 => ?_)
  refine kk p l e R s m args below meth c base ro cs D QF H1 locs1 ls X hret ?_ hS1 hL hac
  refine gk_rel_set0 hrel hk (fun q hq => ⟨rfl, rfl, gk_up_ne hq⟩) ?_ hP1
  show _ = Sum.inl (cs 2, n, Sum.inr (Sum.inl (va_up h.2.2 k (vp_updL (h.2.2 k) i.toNatClampNeg x) k)))
  rw [gk_up_eq]
theorem gk_go_alen {k t n : Nat} {rs : List (Option Nat)} (hk : Γ[k]? = some (t, n, rs)) (ht : t = 1 ∨ t = 2 ∨ t = 3) (hdg : decode (M j).2.1 pc = .ok (.arraylength, 1)) (kk : gk_Go M E d j cf mc ms Γe Q (pc + 1) L (.int (OfNat.ofNat n) :: st) Γ h nc ns) : gk_Go M E d j cf mc ms Γe Q pc L (.ref k :: st) Γ h nc ns := by
  intro p l e R s m args below meth c base ro cs D QF H locs ls X hret hrel hS hL hac
  obtain ⟨hx, hb, hml, hown, hts, hin, hR, hK, hRO, hbs0⟩ := id X
  have e1 : gk_v (gk_ad base ro) (.ref k) = .ref (base + k) := by show Value.ref (gk_ad base ro k) = _; rw [gk_ad_own (gk_lt hrel hk)]
  rw [List.map_cons, e1]
  have h9 := kk p l e R s m args below meth c base ro cs D QF H locs ls X hret hrel hS hL hac
  rcases ht with rfl | rfl | rfl
  · exact va_alen (D := D) (cA := cs 0) (x := (n, .inl (h.2.1 k))) hx hb hK hrel.2 k 0 (gk_ws_get hk) rfl rfl hdg h9
  · exact va_alen (D := D) (cA := cs 1) (x := (n, .inl (h.2.1 k))) hx hb hK hrel.2 k 1 (gk_ws_get hk) rfl rfl hdg h9
  · exact va_alen (D := D) (cA := cs 2) (x := (n, .inr (.inl (h.2.2 k)))) hx hb hK hrel.2 k 2 (gk_ws_get hk) rfl rfl hdg h9
theorem gk_go_aald {k n : Nat} {i : Int32} {rs : List (Option Nat)} (hk : Γ[k]? = some (4, n, rs)) (hi : vp_in i n) (hdg : decode (M j).2.1 pc = .ok (.aaload, 1)) (kk : gk_Go M E d j cf mc ms Γe Q (pc + 1) L (va_rf (rs.getD i.toNatClampNeg none) :: st) Γ h nc ns) : gk_Go M E d j cf mc ms Γe Q pc L (.int i :: .ref k :: st) Γ h nc ns := by
  intro p l e R s m args below meth c base ro cs D QF H locs ls X hret hrel hS hL hac
  obtain ⟨hx, hb, hml, hown, hts, hin, hR, hK, hRO, hbs0⟩ := id X
  have e1 : gk_v (gk_ad base ro) (.ref k) = .ref (base + k) := by show Value.ref (gk_ad base ro k) = _; rw [gk_ad_own (gk_lt hrel hk)]
  rw [List.map_cons, List.map_cons, e1]
  have h9 := kk p l e R s m args below meth c base ro cs D QF H locs ls X hret hrel hS hL hac
  have e2 : gk_v (gk_ad base ro) (va_rf (rs.getD i.toNatClampNeg none)) = va_rf ((rs.getD i.toNatClampNeg none).map (gk_ad base ro)) := by cases rs.getD i.toNatClampNeg none <;> rfl
  rw [List.map_cons, e2] at h9
  exact va_aldq (D := D) (cA := cs 3) (C := "DryPlaces$World") (n := n) (f := fun i => (rs.getD i none).map (gk_ad base ro)) hx hb hK hrel.2 k 3 (gk_ws_get hk) rfl hi hdg h9
end GKH
