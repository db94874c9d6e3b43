/-! makings -/
set_option maxRecDepth 100000 in
theorem gk_defs {ci : Nat} {C : String} {T : u_T} {N : Nat} (hc : vwCl[ci]? = some (C, T, N)) : (gk_bs ci).length = N ∧ ∀ j, j < N → (parseFieldDescriptor (T j).2.2.1).map defaultValue = ((gk_bs ci)[j]?).map (fun b => bif b then Value.null else .int 0) := by
  match ci, hc with
  | 0, hc => cases hc; exact ⟨rfl, by decide +kernel⟩
  | 1, hc => cases hc; exact ⟨rfl, by decide +kernel⟩
  | 2, hc => cases hc; exact ⟨rfl, by decide +kernel⟩
  | 3, hc => cases hc; exact ⟨rfl, by decide +kernel⟩
  | 4, hc => cases hc; exact ⟨rfl, by decide +kernel⟩
  | 5, hc => cases hc; exact ⟨rfl, by decide +kernel⟩
  | 6, hc => cases hc; exact ⟨rfl, by decide +kernel⟩
  | 7, hc => cases hc; exact ⟨rfl, by decide +kernel⟩
  | 8, hc => cases hc; exact ⟨rfl, by decide +kernel⟩
  | 9, hc => cases hc; exact ⟨rfl, by decide +kernel⟩
  | 10, hc => cases hc; exact ⟨rfl, by decide +kernel⟩
  | k + 11, hc => simp [vwCl] at hc
theorem gk_ws_push {base : Nat} {ad : Nat → Nat} {cs : Nat → ClassId} {Γ : gk_G} {h h' : gk_H} {κ : gk_K} (hh : ∀ q, q ≠ Γ.length → h'.1 q = h.1 q ∧ h'.2.1 q = h.2.1 q ∧ h'.2.2 q = h.2.2 q) : gk_ws base ad cs Γ h ++ [(base + Γ.length, gk_cell ad cs κ (h'.1 Γ.length) (h'.2.1 Γ.length) (h'.2.2 Γ.length))] = gk_ws base ad cs (Γ ++ [κ]) h' := by
  rw [gk_ws, gk_ws, List.mapIdx_append]
  congr 1
  · refine List.ext_getElem? fun i => ?_
    rw [List.getElem?_mapIdx, List.getElem?_mapIdx]
    cases hi : Γ[i]? with
    | none => rfl
    | some κ' =>
      have hl : i < Γ.length := (List.getElem?_eq_some_iff.mp hi).1
      obtain ⟨e1, e2, e3⟩ := hh i (by omega)
      simp only [Option.map_some, e1, e2, e3]
  · simp
def gk_h0 (h : gk_H) (k : Nat) : gk_H := (va_up h.1 k (fun _ => 0), va_up h.2.1 k (fun _ => 0), va_up h.2.2 k (fun _ => 0))
/-- the new cell lies behind the last one -/
theorem gk_behind {base : Nat} {ro : Nat → Nat} {cs : Nat → ClassId} {D : va_G} {Γ : gk_G} {h : gk_H} {H1 : Heap} {q : Nat} {x : va_E} (hP : va_P D vwCl (gk_ws base (gk_ad base ro) cs Γ h ++ [(q, x)]) H1) (hD : va_D (gk_A base) (gk_ws base (gk_ad base ro) cs Γ h ++ [(q, x)])) (hz : H1.size ≤ base + Γ.length + 1) : q = base + Γ.length := by
  have hl : (gk_ws base (gk_ad base ro) cs Γ h).length = Γ.length := by rw [gk_ws, List.length_mapIdx]
  have hg : (gk_ws base (gk_ad base ro) cs Γ h ++ [(q, x)])[Γ.length]? = some (q, x) := by
    rw [List.getElem?_append_right (by omega), hl, Nat.sub_self]; rfl
  have h1 : q < H1.size := (hP _ _ hg).lt
  have h2 : base ≤ q := hD.2 _ _ hg
  rcases Nat.lt_or_ge q (base + Γ.length) with h3 | h3
  · have hk : q - base < Γ.length := by omega
    have hk2 : Γ[q - base]? = some Γ[q - base] := List.getElem?_eq_getElem hk
    have hg2 : (gk_ws base (gk_ad base ro) cs Γ h ++ [(q, x)])[q - base]? = some (base + (q - base), gk_cell (gk_ad base ro) cs Γ[q - base] (h.1 (q - base)) (h.2.1 (q - base)) (h.2.2 (q - base))) := by
      rw [List.getElem?_append_left (by omega)]; exact gk_ws_get hk2
    have := hD.1 _ _ _ _ hg2 hg (show base + (q - base) = q by omega)
    omega
  · omega
section GKN
variable {M : Nat → gk_J} {E : gk_E} {d j : Nat} {cf : Bool} {mc ms : Nat} {Γe : gk_G} {Q : Option Value → gk_H → Prop} {pc : Nat} {L : gk_L} {st : List Value} {Γ : gk_G} {h : gk_H} {nc ns : Nat}
set_option maxHeartbeats 1000000 in
theorem gk_go_new {idx ci N : Nat} {C : String} {T : u_T} (hc : vwCl[ci]? = some (C, T, N)) (hw : ∀ w ∈ ([.classLink (M j).1.cls idx C, .instantiable C N, .initialized C] : List Cond), w ∈ gk_TT) (h1 : nc + 1 ≤ mc) (h2 : ns + N ≤ ms) (h3 : Γ.length < 1000000) (hdg : decode (M j).2.1 pc = .ok (.new idx, 3))
    (kk : gk_Go M E d j cf mc ms Γe Q (pc + 3) L (.ref Γ.length :: st) (Γ ++ [(0, ci, List.replicate N none)]) (gk_h0 h Γ.length) (nc + 1) (ns + N)) : gk_Go M E d j cf mc ms Γe Q pc L st Γ h nc ns := by
  intro p l e R s m args below meth c base ro cs D QF H locs ls X hret hrel hS hL hac
  obtain ⟨hx, hb, hml, hown, hts, hin, hR, hK, hRO, hbs0⟩ := id X
  obtain ⟨c1, ⟨ty0, c2⟩, c3⟩ := gk_clok hc
  obtain ⟨d1, d2⟩ := gk_defs hc
  refine va_new (D := D) (ci := ci) (A := gk_A base) (H0 := s.heap) (fs := gk_fs (gk_ad base ro) (gk_bs ci) (List.replicate N none) (fun _ => 0)) hx hb hts c1 ty0 c2 hown (hts _ (hw _ (by simp))) (hts _ (hw _ (by simp))) (hts _ (hw _ (by simp))) hK hrel.2 gk_ws_D hS (fun q hq => Nat.le_trans hbs0 hq) hc (fun q hq => ?_) (by omega) (by omega) hdg (fun q H1 hP1 hD1 hS1 => gk_size fun hsz => ?_)
  · have e1 := d2 q hq
    rw [c2 q hq] at e1
    have hb9 : (gk_bs ci)[q]? = some (gk_bs ci)[q] := List.getElem?_eq_getElem (by omega)
    rw [hb9] at e1
    rw [vp_V, List.getD_eq_getElem?_getD, gk_fs_get hb9]
    have e2 : (List.replicate N (none : Option Nat)).getD q none = none := by
      rw [List.getD_eq_getElem?_getD]; cases h9 : (List.replicate N (none : Option Nat))[q]? with
      | none => rfl
      | some z => rw [List.eq_of_mem_replicate (List.mem_of_getElem? h9)]; rfl
    rw [e2]
    simp only [Option.map_some, Option.some.injEq] at e1
    rw [e1]; rfl
  · have hq := gk_behind hP1 hD1 (by omega)
    subst hq
    have h9 := kk p l e R s m args below meth c base ro cs D QF H1 locs ls X hret ⟨by rw [List.length_append]; exact h3, ?_⟩ hS1 hL (by rw [List.length_append]; show _ = base + (Γ.length + 1); omega)
    · have e1 : gk_v (gk_ad base ro) (.ref Γ.length) = .ref (base + Γ.length) := by show Value.ref (gk_ad base ro _) = _; rw [gk_ad_own h3]
      rw [List.map_cons, e1] at h9
      exact h9
    · rw [← gk_ws_push (h := h) (fun q hq => ⟨gk_up_ne hq, gk_up_ne hq, gk_up_ne hq⟩)]
      have e2 : gk_cell (gk_ad base ro) cs (0, ci, List.replicate N none) ((gk_h0 h Γ.length).1 Γ.length) ((gk_h0 h Γ.length).2.1 Γ.length) ((gk_h0 h Γ.length).2.2 Γ.length) = .inr (ci, gk_fs (gk_ad base ro) (gk_bs ci) (List.replicate N none) (fun _ => 0)) := by
        show Sum.inr (ci, gk_fs (gk_ad base ro) (gk_bs ci) (List.replicate N none) (va_up h.1 Γ.length (fun _ => 0) Γ.length)) = _
        rw [gk_up_eq]
      rw [e2]; exact hP1
theorem gk_cA {s : State} {D : va_G} {cs : Nat → ClassId} {t : Nat} {ty : FieldType} {cA : ClassId} (hK : va_K D vwCl (gk_tys cs) s) (ht : (gk_tys cs)[t]? = some (cs t, ty)) (hp : refKind ty = false) (h : va_RA s cA ty) : cA = cs t := by
  have h1 := (hK.2 t _ ht).2
  cases ty <;> first | (cases hp; done) | exact Option.some.inj (h.symm.trans h1)
/-- int[], char[], long[] by their tags 1, 2, 3 -/
def gk_at (t : Nat) : ArrayType × FieldType := match t with
  | 1 => (.int, .int)
  | 2 => (.char, .char)
  | _ => (.long, .long)
set_option maxHeartbeats 1000000 in
theorem gk_go_newa {t : Nat} {n : Int32} (ht : t = 1 ∨ t = 2 ∨ t = 3) (hw : Cond.arrayClass (gk_at t).2 ∈ gk_TT) (hn : ¬ n < 0) (hby : n.toNatClampNeg * 8 ≤ 536870912) (h1 : nc + 1 ≤ mc) (h2 : ns + n.toNatClampNeg ≤ ms) (h3 : Γ.length < 1000000) (hdg : decode (M j).2.1 pc = .ok (.newarray (gk_at t).1, 2))
    (kk : gk_Go M E d j cf mc ms Γe Q (pc + 2) L (.ref Γ.length :: st) (Γ ++ [(t, n.toNatClampNeg, [])]) (gk_h0 h Γ.length) (nc + 1) (ns + n.toNatClampNeg)) : gk_Go M E d j cf mc ms Γe Q pc L (.int n :: st) Γ h nc ns := by
  intro p l e R s m args below meth c base ro cs D QF H locs ls X hret hrel hS hL hac
  obtain ⟨hx, hb, hml, hown, hts, hin, hR, hK, hRO, hbs0⟩ := id X
  have fin : ∀ (q : Nat) (H1 : Heap) (x : va_E), x = gk_cell (gk_ad base ro) cs (t, n.toNatClampNeg, []) ((gk_h0 h Γ.length).1 Γ.length) ((gk_h0 h Γ.length).2.1 Γ.length) ((gk_h0 h Γ.length).2.2 Γ.length) → va_P D vwCl (gk_ws base (gk_ad base ro) cs Γ h ++ [(q, x)]) H1 → va_D (gk_A base) (gk_ws base (gk_ad base ro) cs Γ h ++ [(q, x)]) → va_S (gk_A base) s.heap H1 locs → W p l e R s m args below meth c H1 locs (nc + 1) (ns + n.toNatClampNeg) QF (F0 m (pc + 2) ls (.ref q :: st.map (gk_v (gk_ad base ro)))) := by
    intro q H1 x hx9 hP1 hD1 hS1
    refine gk_size fun hsz => ?_
    have hq := gk_behind hP1 hD1 (by omega)
    subst hq
    have h9 := kk p l e R s m args below meth c base ro cs D QF H1 locs ls X hret ⟨by rw [List.length_append]; exact h3, ?_⟩ hS1 hL (by rw [List.length_append]; show _ = base + (Γ.length + 1); omega)
    · have e1 : gk_v (gk_ad base ro) (.ref Γ.length) = .ref (base + Γ.length) := by show Value.ref (gk_ad base ro _) = _; rw [gk_ad_own h3]
      rw [List.map_cons, e1] at h9
      exact h9
    · rw [← gk_ws_push (h := h) (fun q hq => ⟨gk_up_ne hq, gk_up_ne hq, gk_up_ne hq⟩), ← hx9]
      exact hP1
  have tl : ∀ (cA : ClassId) (ty : FieldType), va_K D vwCl (gk_tys cs ++ [(cA, ty)]) s → va_RA s cA ty := fun cA ty h => (h.2 4 (cA, ty) rfl).2
  rw [List.map_cons]
  rcases ht with rfl | rfl | rfl
  · refine va_newa (D := D) (A := gk_A base) (H0 := s.heap) (atype := .int) (ty := .int) (a0 := (n.toNatClampNeg, .inl (fun _ => 0))) hx hb (hts _ hw) rfl hK hrel.2 gk_ws_D hS (fun q hq => Nat.le_trans hbs0 hq) (fun cA => rfl) hn rfl ?_ (by omega) (by omega) hdg (fun q cA H1 hK1 hP1 hD1 hS1 => ?_)
    · show n.toNatClampNeg * 4 ≤ _; omega
    · have := gk_cA (t := 0) hK rfl rfl (tl _ _ hK1); subst this
      exact fin q H1 _ (by show _ = Sum.inl (cs 0, n.toNatClampNeg, Sum.inl (va_up h.2.1 Γ.length (fun _ => 0) Γ.length)); rw [gk_up_eq]) hP1 hD1 hS1
  · refine va_newa (D := D) (A := gk_A base) (H0 := s.heap) (atype := .char) (ty := .char) (a0 := (n.toNatClampNeg, .inl (fun _ => 0))) hx hb (hts _ hw) rfl hK hrel.2 gk_ws_D hS (fun q hq => Nat.le_trans hbs0 hq) (fun cA => rfl) hn rfl ?_ (by omega) (by omega) hdg (fun q cA H1 hK1 hP1 hD1 hS1 => ?_)
    · show n.toNatClampNeg * 2 ≤ _; omega
    · have := gk_cA (t := 1) hK rfl rfl (tl _ _ hK1); subst this
      exact fin q H1 _ (by show _ = Sum.inl (cs 1, n.toNatClampNeg, Sum.inl (va_up h.2.1 Γ.length (fun _ => 0) Γ.length)); rw [gk_up_eq]) hP1 hD1 hS1
  · refine va_newa (D := D) (A := gk_A base) (H0 := s.heap) (atype := .long) (ty := .long) (a0 := (n.toNatClampNeg, .inr (.inl (fun _ => 0)))) hx hb (hts _ hw) rfl hK hrel.2 gk_ws_D hS (fun q hq => Nat.le_trans hbs0 hq) (fun cA => rfl) hn rfl ?_ (by omega) (by omega) hdg (fun q cA H1 hK1 hP1 hD1 hS1 => ?_)
    · show n.toNatClampNeg * 8 ≤ _; omega
    · have := gk_cA (t := 2) hK rfl rfl (tl _ _ hK1); subst this
      exact fin q H1 _ (by show _ = Sum.inl (cs 2, n.toNatClampNeg, Sum.inr (Sum.inl (va_up h.2.2 Γ.length (fun _ => 0) Γ.length))); rw [gk_up_eq]) hP1 hD1 hS1
set_option maxHeartbeats 1000000 in
theorem gk_go_newq {idx : Nat} {n : Int32} (hw : Cond.classLink (M j).1.cls idx "DryPlaces$World" ∈ gk_TT) (hn : ¬ n < 0) (hby : n.toNatClampNeg * 8 ≤ 536870912) (h1 : nc + 1 ≤ mc) (h2 : ns + n.toNatClampNeg ≤ ms) (h3 : Γ.length < 1000000) (hdg : decode (M j).2.1 pc = .ok (.anewarray idx, 3))
    (kk : gk_Go M E d j cf mc ms Γe Q (pc + 3) L (.ref Γ.length :: st) (Γ ++ [(4, n.toNatClampNeg, List.replicate n.toNatClampNeg none)]) (gk_h0 h Γ.length) (nc + 1) (ns + n.toNatClampNeg)) : gk_Go M E d j cf mc ms Γe Q pc L (.int n :: st) Γ h nc ns := by
  intro p l e R s m args below meth c base ro cs D QF H locs ls X hret hrel hS hL hac
  obtain ⟨hx, hb, hml, hown, hts, hin, hR, hK, hRO, hbs0⟩ := id X
  rw [List.map_cons]
  refine va_newq (D := D) (A := gk_A base) (H0 := s.heap) (C := "DryPlaces$World") hx hb hown (hts _ hw) hRO.2.2.2.2.2 hK hrel.2 gk_ws_D hS (fun q hq => Nat.le_trans hbs0 hq) hn rfl (by omega) (by omega) (by omega) hdg (fun q cA H1 hK1 hP1 hD1 hS1 => gk_size fun hsz => ?_)
  have hra : va_RA s cA (.object "DryPlaces$World") := (hK1.2 4 (cA, .object "DryPlaces$World") rfl).2
  have hrb : va_RA s (cs 3) (.object "DryPlaces$World") := (hK.2 3 (cs 3, .object "DryPlaces$World") rfl).2
  have hcA : cA = cs 3 := by
    obtain ⟨_, _, _, _, _, g1⟩ := hra
    obtain ⟨_, _, _, _, _, g2⟩ := hrb
    exact Option.some.inj (g1.symm.trans g2)
  subst hcA
  have hq := gk_behind hP1 hD1 (by omega)
  subst hq
  have h9 := kk p l e R s m args below meth c base ro cs D QF H1 locs ls X hret ⟨by rw [List.length_append]; exact h3, ?_⟩ hS1 hL (by rw [List.length_append]; show _ = base + (Γ.length + 1); omega)
  · have e1 : gk_v (gk_ad base ro) (.ref Γ.length) = .ref (base + Γ.length) := by show Value.ref (gk_ad base ro _) = _; rw [gk_ad_own h3]
    rw [List.map_cons, e1] at h9
    exact h9
  · rw [← gk_ws_push (h := h) (fun q hq => ⟨gk_up_ne hq, gk_up_ne hq, gk_up_ne hq⟩)]
    have e2 : gk_cell (gk_ad base ro) cs (4, n.toNatClampNeg, List.replicate n.toNatClampNeg none) ((gk_h0 h Γ.length).1 Γ.length) ((gk_h0 h Γ.length).2.1 Γ.length) ((gk_h0 h Γ.length).2.2 Γ.length) = .inl (cs 3, n.toNatClampNeg, .inr (.inr (.inr (.inr (fun _ => none))))) := by
      show Sum.inl (cs 3, n.toNatClampNeg, Sum.inr (Sum.inr (Sum.inr (Sum.inr (fun i => ((List.replicate n.toNatClampNeg (none : Option Nat)).getD i none).map (gk_ad base ro)))))) = _
      have : (fun i => ((List.replicate n.toNatClampNeg (none : Option Nat)).getD i none).map (gk_ad base ro)) = fun _ => none := by
        funext q
        rw [List.getD_eq_getElem?_getD]; cases h9 : (List.replicate n.toNatClampNeg (none : Option Nat))[q]? with
        | none => rfl
        | some z => rw [List.eq_of_mem_replicate (List.mem_of_getElem? h9)]; rfl
      rw [this]
    rw [e2]; exact hP1
set_option maxHeartbeats 1000000 in
theorem gk_go_aast {k n a : Nat} {i : Int32} {rs rs' : List (Option Nat)} (hk : Γ[k]? = some (4, n, rs)) (ha : Γ[a]? = some (0, 8, rs')) (hi : vp_in i n) (hrs : i.toNatClampNeg < rs.length) (hdg : decode (M j).2.1 pc = .ok (.aastore, 1)) (kk : gk_Go M E d j cf mc ms Γe Q (pc + 1) L st (Γ.set k (4, n, rs.set i.toNatClampNeg (some a))) h nc ns) : gk_Go M E d j cf mc ms Γe Q pc L (.ref a :: .int i :: .ref k :: st) Γ h nc ns := by
  intro p l e R s m args below meth c base ro cs D QF H locs ls X hret hrel hS hL hac
  obtain ⟨hx, hb, hml, hown, hts, hin, hR, hK, hRO, hbs0⟩ := id X
  have e1 : gk_v (gk_ad base ro) (.ref k) = .ref (base + k) := by show Value.ref (gk_ad base ro k) = _; rw [gk_ad_own (gk_lt hrel hk)]
  have e0 : gk_v (gk_ad base ro) (.ref a) = .ref (base + a) := by show Value.ref (gk_ad base ro a) = _; rw [gk_ad_own (gk_lt hrel ha)]
  simp only [List.map_cons, e1, e0]
  refine va_astq (D := D) (A := gk_A base) (H0 := s.heap) (cA := cs 3) (r := (RX9, TX9, 13)) (n := n) (f := fun i => (rs.getD i none).map (gk_ad base ro)) hx hb hK hrel.2 gk_ws_D hS k 3 a 8 (gk_ws_get hk) rfl (gk_ws_get ha) rfl hi hdg (fun H1 locs1 hP1 hD1 hS1 => ?_)
  refine kk p l e R s m args below meth c base ro cs D QF H1 locs1 ls X hret ?_ hS1 hL (by rw [List.length_set]; exact hac)
  refine gk_rel_set hrel hk (fun q hq => ⟨rfl, rfl, rfl⟩) ?_ hP1
  show _ = Sum.inl (cs 3, n, Sum.inr (Sum.inr (Sum.inr (Sum.inr (fun q => ((rs.set i.toNatClampNeg (some a)).getD q none).map (gk_ad base ro))))))
  have : (fun q => ((rs.set i.toNatClampNeg (some a)).getD q none).map (gk_ad base ro)) = va_up (fun i => (rs.getD i none).map (gk_ad base ro)) i.toNatClampNeg (some (base + a)) := by
    funext q
    by_cases hq : q = i.toNatClampNeg
    · subst hq
      rw [gk_up_eq, List.getD_eq_getElem?_getD, List.getElem?_set_self hrs]
      show some (gk_ad base ro a) = _
      rw [gk_ad_own (gk_lt hrel ha)]
    · rw [gk_up_ne hq, List.getD_eq_getElem?_getD, List.getElem?_set_ne (Ne.symm hq), ← List.getD_eq_getElem?_getD]
  rw [this]
end GKN
