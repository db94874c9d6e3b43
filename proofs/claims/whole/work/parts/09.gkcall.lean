/-! branches, calls, ends -/
section GKB
variable {p : Program} {l : Launch} {e : Env} {R : Room} {s : State} {m : MethodId} {args : Array Value} {below : List Frame} {meth : Method} {c : Code} {H : Heap} {locs : List Loc} {cells slots : Nat} {Qw : State → Prop}
/-- a heap is as large as the cells that were made -/
theorem gk_size {g : JFrame} (k : H.size ≤ s.heap.size + cells → W p l e R s m args below meth c H locs cells slots Qw g) : W p l e R s m args below meth c H locs cells slots Qw g := by
  intro T hT X
  refine k ?_ T hT X
  rw [← hT]
  exact X.same.2.2.1
variable {pc : Nat} {ls : Array Slot} {rest st0 : List Value} {a : Array Value} {mc' ms' base : Nat} {ro : Nat → Nat} {cs : Nat → ClassId} {D : va_G} {Γ1 : gk_G} {Q' : Option Value → gk_H → Prop}
theorem gk_run_use (hr : va_Run p l e R s m args below meth c H locs cells slots mc' ms' (F0 m pc ls st0) rest (gk_Qc base ro cs D Γ1 Q' a) (gk_A base)) (hbs : base ≤ s.heap.size) (hS : va_S (gk_A base) s.heap H locs)
    (kk : ∀ (v : Option Value) (h1 : gk_H) (H1 : Heap) (locs1 : List Loc), Q' v h1 → gk_rel base ro cs D Γ1 h1 H1 → va_S (gk_A base) s.heap H1 locs1 → W p l e R s m args below meth c H1 locs1 (cells + mc') (slots + ms') Qw (F0 m (pc + 3) ls ((v.map (gk_v (gk_ad base ro))).toList ++ rest))) : W p l e R s m args below meth c H locs cells slots Qw (F0 m pc ls st0) := by
  intro T hT X
  obtain ⟨v, st₀, t, T', L, h0, X', hL, e1, e2, ⟨⟨v', h1, hv, hq, hrl⟩, hz, hk⟩, st⟩ := hr T hT X
  have hv' : v = v'.map (gk_v (gk_ad base ro)) := by
    have := hv; injection this
  subst hv'
  rw [h0] at hz hk
  obtain ⟨t2, a1, b1⟩ := kk v' h1 T'.heap (locs ++ L) hq (by rw [e1]; exact hrl)
    ⟨Nat.le_trans hS.1 (by rw [e1]; exact hz), fun q h1 h2 => by rw [e1, hk q (Nat.lt_of_lt_of_le h1 hS.1) h2]; exact hS.2.1 q h1 h2, fun q hq => by
      rcases List.mem_append.mp hq with h | h
      · exact hS.2.2 q h
      · exact hL q h⟩ T' rfl X'
  exact ⟨t2, st t2 a1, b1⟩
end GKB
theorem gk_low {base : Nat} {ro : Nat → Nat} {cs : Nat → ClassId} {D : va_G} {Γ : gk_G} {h : gk_H} {H : Heap} (hr : gk_rel base ro cs D Γ h H) (hb : base ≤ H.size) : base + Γ.length ≤ H.size := by
  cases hl : Γ.length with
  | zero => exact hb
  | succ n =>
    have hk : Γ[n]? = some Γ[n] := List.getElem?_eq_getElem (by omega)
    have h1 := (hr.2 n _ (gk_ws_get hk)).lt
    show base + (n + 1) ≤ H.size
    have h2 : base + n < H.size := h1
    omega
theorem gk_blind {E : gk_E} {base : Nat} {ro : Nat → Nat} {cs : Nat → ClassId} {D : va_G} {av : List Value} {Γ : gk_G} {h : gk_H} : FrameBlind (gk_Pc E base ro cs D av Γ h) := by
  intro a U g mk hp
  obtain ⟨h1, h2, h3, h4, h5⟩ := hp
  exact ⟨h1, h2, h3, va_K.moved (u := U) (U := U.calling g mk a) (Vm.Alike.refl U.vm) h4, gk_RO.same (s := U) (U := U.calling g mk a) rfl h5⟩
theorem gk_goodIn {ws0 : List Cond} {J : gk_J} (h0 : ∀ w ∈ ws0, w ∈ gk_TT) (hc : Cond.code J.1 J.2.1 J.2.2.1 J.2.2.2 ∈ gk_TT) : GoodIn gk_TT (ws0 ++ gk_wd J) := by
  intro w hw
  rcases List.mem_append.mp hw with h | h
  · exact ⟨h0 w h, gk_TT_good (h0 w h)⟩
  · rcases List.mem_cons.mp h with h | h
    · rw [h]; exact ⟨hc, gk_TT_good hc⟩
    · exact ⟨h, gk_TT_good h⟩
/-- what a call's entry says: the callee's words are the tables', its arguments, its locals -/
def gk_jok (J : gk_J) (n : Nat) : Prop := Cond.code J.1 J.2.1 J.2.2.1 J.2.2.2 ∈ gk_TT ∧ Cond.initialized J.1.cls ∈ gk_TT ∧ (J.1.cls ≠ "java/lang/invoke/MethodHandle" ∧ J.1.cls ≠ "java/lang/invoke/VarHandle" ∧ (parseMethodDescriptor J.1.desc).map (fun d => d.parameters.length) = some n) ∧ J.2.2.1 ≤ 41
def gk_cok (own : String) (idx kd : Nat) (J : gk_J) (ci n : Nat) : Prop := gk_jok J n ∧ match kd with
  | 0 => (∃ (T : u_T) (N : Nat), vwCl[ci]? = some (J.1.cls, T, N)) ∧ ∀ w ∈ ([.methodLink own idx J.1, .instanceMethod J.1, .selects J.1.cls J.1 J.1] : List Cond), w ∈ gk_TT
  | 1 => ∀ w ∈ ([.methodLink own idx J.1, .static J.1] : List Cond), w ∈ gk_TT
  | 2 => J.2.2.2 = none ∧ J.1.name = "<init>" ∧ ∀ w ∈ ([.methodLink own idx J.1, .instanceMethod J.1] : List Cond), w ∈ gk_TT
  | 5 => Cond.static J.1 ∈ gk_TT ∧ Cond.methodLinkNest own idx J.1 "DryPlaces" ∈ gk_nest
  | 6 => J.2.2.2 = none ∧ J.1.name = "<init>" ∧ Cond.instanceMethod J.1 ∈ gk_TT ∧ Cond.methodLinkNest own idx J.1 "DryPlaces" ∈ gk_nest
  | 7 => J.1.cls = "java/lang/String" ∧ ∀ w ∈ ([.methodLink own idx J.1, .instanceMethod J.1, .selects J.1.cls J.1 J.1] : List Cond), w ∈ gk_TT
  | _ => False
section GKC
variable {M : Nat → gk_J} {E : gk_E} {d j : Nat} {cf : Bool} {mc ms : Nat} {Γe : gk_G} {Q : Option Value → gk_H → Prop} {pc : Nat} {L : gk_L} {st : List Value} {Γ : gk_G} {h : gk_H} {nc ns : Nat}
theorem gk_map_st {ad : Nat → Nat} {av st : List Value} {k : Nat} : (av.reverse ++ .ref k :: st).map (gk_v ad) = (av.map (gk_v ad)).reverse ++ .ref (ad k) :: st.map (gk_v ad) := by
  rw [List.map_append, List.map_reverse]; rfl
theorem gk_cat_sum {ad : Nat → Nat} {st : List Value} : ((st.map (gk_v ad)).map fun v => v.category).sum = (st.map fun v => v.category).sum := by
  rw [List.map_map]; congr 1; refine List.map_congr_left fun v _ => gk_cat ad v
theorem gk_opt_st {ad : Nat → Nat} {v : Option Value} {st : List Value} : (v.toList ++ st).map (gk_v ad) = (v.map (gk_v ad)).toList ++ st.map (gk_v ad) := by
  cases v <;> rfl
set_option maxHeartbeats 2000000 in
/-- a call of an own object's method (kd 0), of a text's (kd 7) -/
theorem gk_go_callV {idx kd j' ci n d' mc' ms' k : Nat} {av : List Value} {Γ1 : gk_G} {Q' : Option Value → gk_H → Prop} (hok : gk_cok (M j).1.cls idx kd (M j') ci n) (hkd : (kd = 0 ∧ ∃ rs, Γ[k]? = some (0, ci, rs)) ∨ (kd = 7 ∧ (k = 1000001 ∨ k = 1000002))) (hn : av.length = n) (hd : d' + 1 ≤ d) (hcat : (st.map fun v => v.category).sum ≤ 8)
    (hcon : gk_Con M E d' j' (.ref k :: av) Γ Γ1 h mc' ms' Q') (hlen : Γ1.length = Γ.length + mc') (hroom : nc + mc' ≤ mc ∧ ns + ms' ≤ ms) (hdg : decode (M j).2.1 pc = .ok (.invokevirtual idx, 3))
    (kk : ∀ (v : Option Value) (h1 : gk_H), Q' v h1 → gk_Go M E d j cf mc ms Γe Q (pc + 3) L (v.toList ++ st) Γ1 h1 (nc + mc') (ns + ms')) : gk_Go M E d j cf mc ms Γe Q pc L (av.reverse ++ .ref k :: st) Γ h nc ns := by
  intro p l e R s m args below meth c base ro cs D QF H locs ls X hret hrel hS hL hac
  obtain ⟨hx, hb, hml, hown, hts, hin, hR, hK, hRO, hbs0⟩ := id X
  obtain ⟨⟨j1, j2, j3, j4⟩, hkk⟩ := hok
  have hw : ∀ w ∈ ([.methodLink (M j).1.cls idx (M j').1, .instanceMethod (M j').1, .selects (M j').1.cls (M j').1 (M j').1] : List Cond), w ∈ gk_TT := by
    rcases hkd with ⟨rfl, -⟩ | ⟨rfl, -⟩
    · exact hkk.2
    · exact hkk.2
  have hrecv : ∃ cell : Cell, H[gk_ad base ro k]? = some cell ∧ cell.vm.isStatics = false ∧ s.vm.findClass (M j').1.cls = some cell.cls := by
    rcases hkd with ⟨rfl, rs, hk⟩ | ⟨rfl, hk⟩
    · obtain ⟨⟨T, N, hc⟩, -⟩ := hkk
      rw [gk_ad_own (gk_lt hrel hk)]
      exact va_recv (q := ((M j').1.cls, T, N)) hK hrel.2 hc (gk_ws_get hk)
    · rw [hkk.1]
      rcases hk with rfl | rfl
      · exact vk_recv (i := 0) hRO.2.1 (by decide) hS
      · exact vk_recv (i := 1) hRO.2.1 (by decide) hS
  refine gk_size fun hsz => ?_
  have hlow := gk_low hrel (Nat.le_trans hbs0 hS.1)
  rw [gk_map_st]
  have hG : GoodIn gk_TT (wsV (M j).1.cls idx (M j').1.cls (M j').1 (gk_wd (M j'))) := gk_goodIn (fun w hw9 => by
    simp only [List.mem_cons, List.not_mem_nil, or_false] at hw9 hw
    rcases hw9 with h9 | h9 | h9 | h9
    · exact hw w (Or.inl h9)
    · exact hw w (Or.inr (Or.inl h9))
    · exact hw w (Or.inr (Or.inr h9))
    · rw [h9]; exact j2) j1
  refine gk_run_use (va_runV (As := av.map (gk_v (gk_ad base ro))) (rest := st.map (gk_v (gk_ad base ro))) (b := gk_ad base ro k) ⟨hx, hb, hml, hown, hts⟩ (hcon l base ro cs D) (cwV n hts hG rfl rfl rfl ⟨rfl, j3⟩ ⟨by show d' + 1 ≤ _; omega, by show 8 + ((M j').2.2.1 + 11) + 60 * d' ≤ _; omega⟩) ⟨gk_blind, hrecv, fun U hU hW => ⟨rfl, by rw [hU]; omega, by rw [hU]; exact hrel, va_K.moved hW.alike hK, by rw [hU]; exact (hRO.kept hS.2.1).warm hW⟩⟩ rfl (by rw [List.length_map]; exact hn) hL.1 rfl (lv_room (by rw [gk_cat_sum]; exact hcat)) hdg ⟨by omega, by omega⟩) hbs0 hS (fun v h1 H1 locs1 hq hrl hS1 => ?_)
  have h9 := kk v h1 hq p l e R s m args below meth c base ro cs D QF H1 locs1 ls X hret hrl hS1 hL (by omega)
  rw [gk_opt_st] at h9
  exact h9
set_option maxHeartbeats 2000000 in
theorem gk_go_callS {idx kd j' ci n d' mc' ms' : Nat} {av : List Value} {Γ1 : gk_G} {Q' : Option Value → gk_H → Prop} (hok : gk_cok (M j).1.cls idx kd (M j') ci n) (hkd : kd = 1 ∨ kd = 5) (hn : av.length = n) (hd : d' + 1 ≤ d) (hcat : (st.map fun v => v.category).sum ≤ 8)
    (hcon : gk_Con M E d' j' av Γ Γ1 h mc' ms' Q') (hlen : Γ1.length = Γ.length + mc') (hroom : nc + mc' ≤ mc ∧ ns + ms' ≤ ms) (hdg : decode (M j).2.1 pc = .ok (.invokestatic idx, 3))
    (kk : ∀ (v : Option Value) (h1 : gk_H), Q' v h1 → gk_Go M E d j cf mc ms Γe Q (pc + 3) L (v.toList ++ st) Γ1 h1 (nc + mc') (ns + ms')) : gk_Go M E d j cf mc ms Γe Q pc L (av.reverse ++ st) Γ h nc ns := by
  intro p l e R s m args below meth c base ro cs D QF H locs ls X hret hrel hS hL hac
  obtain ⟨hx, hb, hml, hown, hts, hin, hR, hK, hRO, hbs0⟩ := id X
  obtain ⟨⟨j1, j2, j3, j4⟩, hkk⟩ := hok
  refine gk_size fun hsz => ?_
  have hlow := gk_low hrel (Nat.le_trans hbs0 hS.1)
  rw [List.map_append, List.map_reverse]
  have hpre : PreS s H (gk_Pc E base ro cs D av Γ h) (av.map (gk_v (gk_ad base ro))) := ⟨gk_blind, fun U hU hW => ⟨rfl, by rw [hU]; omega, by rw [hU]; exact hrel, va_K.moved hW.alike hK, by rw [hU]; exact (hRO.kept hS.2.1).warm hW⟩⟩
  have hRR : (gk_rm d' mc' ms').frames + 1 ≤ R.frames ∧ 8 + ((M j').2.2.1 + 11) + (gk_rm d' mc' ms').locals ≤ R.locals := ⟨by show d' + 1 ≤ _; omega, by show 8 + ((M j').2.2.1 + 11) + 60 * d' ≤ _; omega⟩
  have hrun : va_Run p l e R s m args below meth c H locs nc ns mc' ms' (F0 m pc ls ((av.map (gk_v (gk_ad base ro))).reverse ++ st.map (gk_v (gk_ad base ro)))) (st.map (gk_v (gk_ad base ro))) (gk_Qc base ro cs D Γ1 Q' (av.map (gk_v (gk_ad base ro))).toArray) (gk_A base) := by
    rcases hkd with rfl | rfl
    · have hG : GoodIn gk_TT (va_wsS (M j).1.cls idx (M j').1 (gk_wd (M j'))) := gk_goodIn (fun w hw9 => by
        simp only [List.mem_cons, List.not_mem_nil, or_false] at hw9
        rcases hw9 with h9 | h9 | h9
        · exact hkk w (by rw [h9]; simp)
        · exact hkk w (by rw [h9]; simp)
        · rw [h9]; exact j2) j1
      exact va_runS (As := av.map (gk_v (gk_ad base ro))) (rest := st.map (gk_v (gk_ad base ro))) ⟨hx, hb, hml, hown, hts⟩ (hcon l base ro cs D) (va_cwS n hts hG rfl rfl rfl j3 hRR) hpre rfl (by rw [List.length_map]; exact hn) hL.1 rfl (lv_room (by rw [gk_cat_sum]; exact hcat)) hdg ⟨by omega, by omega⟩
    · obtain ⟨g1, g2⟩ := hkk
      exact va_runSN (As := av.map (gk_v (gk_ad base ro))) (rest := st.map (gk_v (gk_ad base ro))) ⟨hx, hb, hml, hown, hts⟩ (hcon l base ro cs D) ⟨va_cnB n hts (gk_goodIn (ws0 := []) (fun w h9 => by cases h9) j1) rfl rfl rfl (hRO.2.2.2.2.1 _ g2) (hts _ j2) j3 hRR, hts _ g1, trivial⟩ hpre rfl (by rw [List.length_map]; exact hn) hL.1 rfl (lv_room (by rw [gk_cat_sum]; exact hcat)) hdg ⟨by omega, by omega⟩
  refine gk_run_use hrun hbs0 hS (fun v h1 H1 locs1 hq hrl hS1 => ?_)
  have h9 := kk v h1 hq p l e R s m args below meth c base ro cs D QF H1 locs1 ls X hret hrl hS1 hL (by omega)
  rw [gk_opt_st] at h9
  exact h9
set_option maxHeartbeats 2000000 in
theorem gk_go_callI {idx kd j' ci n d' mc' ms' k : Nat} {av : List Value} {Γ1 : gk_G} {Q' : Option Value → gk_H → Prop} (hok : gk_cok (M j).1.cls idx kd (M j') ci n) (hkd : kd = 2 ∨ kd = 6) (hn : av.length = n) (hd : d' + 1 ≤ d) (hcat : (st.map fun v => v.category).sum ≤ 8)
    (hcon : gk_Con M E d' j' (.ref k :: av) Γ Γ1 h mc' ms' Q') (hlen : Γ1.length = Γ.length + mc') (hroom : nc + mc' ≤ mc ∧ ns + ms' ≤ ms) (hdg : decode (M j).2.1 pc = .ok (.invokespecial idx, 3))
    (kk : ∀ (v : Option Value) (h1 : gk_H), Q' v h1 → gk_Go M E d j cf mc ms Γe Q (pc + 3) L (v.toList ++ st) Γ1 h1 (nc + mc') (ns + ms')) : gk_Go M E d j cf mc ms Γe Q pc L (av.reverse ++ .ref k :: st) Γ h nc ns := by
  intro p l e R s m args below meth c base ro cs D QF H locs ls X hret hrel hS hL hac
  obtain ⟨hx, hb, hml, hown, hts, hin, hR, hK, hRO, hbs0⟩ := id X
  obtain ⟨⟨j1, j2, j3, j4⟩, hkk⟩ := hok
  refine gk_size fun hsz => ?_
  have hlow := gk_low hrel (Nat.le_trans hbs0 hS.1)
  rw [gk_map_st]
  have hpre : PreS s H (gk_Pc E base ro cs D (.ref k :: av) Γ h) (.ref (gk_ad base ro k) :: av.map (gk_v (gk_ad base ro))) := ⟨gk_blind, fun U hU hW => ⟨rfl, by rw [hU]; omega, by rw [hU]; exact hrel, va_K.moved hW.alike hK, by rw [hU]; exact (hRO.kept hS.2.1).warm hW⟩⟩
  have hRR : (gk_rm d' mc' ms').frames + 1 ≤ R.frames ∧ 8 + ((M j').2.2.1 + 11) + (gk_rm d' mc' ms').locals ≤ R.locals := ⟨by show d' + 1 ≤ _; omega, by show 8 + ((M j').2.2.1 + 11) + 60 * d' ≤ _; omega⟩
  have hG : GoodIn gk_TT (gk_wd (M j')) := gk_goodIn (ws0 := []) (fun w h9 => by cases h9) j1
  have hrun : va_Run p l e R s m args below meth c H locs nc ns mc' ms' (F0 m pc ls ((av.map (gk_v (gk_ad base ro))).reverse ++ .ref (gk_ad base ro k) :: st.map (gk_v (gk_ad base ro)))) (st.map (gk_v (gk_ad base ro))) (gk_Qc base ro cs D Γ1 Q' (Value.ref (gk_ad base ro k) :: av.map (gk_v (gk_ad base ro))).toArray) (gk_A base) := by
    rcases hkd with rfl | rfl
    · obtain ⟨g1, g2, g3⟩ := hkk
      exact va_runI (As := av.map (gk_v (gk_ad base ro))) (rest := st.map (gk_v (gk_ad base ro))) (b := gk_ad base ro k) ⟨hx, hb, hml, hown, hts⟩ (hcon l base ro cs D) (cwI n hts hG (by rw [gk_wd, g1]) rfl rfl (hts _ j2) (hts _ (g3 _ (by simp))) (hts _ (g3 _ (by simp))) g2 j3 hRR) hpre rfl (by rw [List.length_map]; exact hn) hL.1 rfl (lv_room (by rw [gk_cat_sum]; exact hcat)) hdg ⟨by omega, by omega⟩
    · obtain ⟨g1, g2, g3, g4⟩ := hkk
      exact va_runIN (As := av.map (gk_v (gk_ad base ro))) (rest := st.map (gk_v (gk_ad base ro))) (b := gk_ad base ro k) ⟨hx, hb, hml, hown, hts⟩ (hcon l base ro cs D) ⟨va_cnB n hts hG (by rw [gk_wd, g1]) rfl rfl (hRO.2.2.2.2.1 _ g4) (hts _ j2) j3 hRR, g2, hts _ g3⟩ hpre rfl (by rw [List.length_map]; exact hn) hL.1 rfl (lv_room (by rw [gk_cat_sum]; exact hcat)) hdg ⟨by omega, by omega⟩
  refine gk_run_use hrun hbs0 hS (fun v h1 H1 locs1 hq hrl hS1 => ?_)
  have h9 := kk v h1 hq p l e R s m args below meth c base ro cs D QF H1 locs1 ls X hret hrl hS1 hL (by omega)
  rw [gk_opt_st] at h9
  exact h9
end GKC
