theorem gk_nest_is : ∀ w ∈ gk_nest, ∃ (a : String) (i : Nat) (x : MethodName) (h : String), w = .methodLinkNest a i x h := by
  intro w hw
  simp only [gk_nest, List.mem_cons, List.not_mem_nil, or_false] at hw
  rcases hw with rfl | rfl | rfl | rfl | rfl | rfl | rfl | rfl | rfl | rfl | rfl <;> exact ⟨_, _, _, _, rfl⟩
theorem gk_RO.warm {E : gk_E} {base : Nat} {ro : Nat → Nat} {s U : State} {H : Heap} (hW : s.WarmedH U.vm) (h : gk_RO E base ro s H) : gk_RO E base ro U H := by
  obtain ⟨⟨h1, h1b⟩, h2, h3, h4, h5, h6⟩ := h
  refine ⟨⟨h1.moved hW.alike, h1b⟩, h2.moved hW.alike, ⟨h3.1.warm hW, h3.2.warm hW⟩, ⟨h4.1.moved hW.alike, h4.2.moved hW.alike⟩, fun w hw => ?_, h6.moved hW.alike⟩
  obtain ⟨a, i, x, hh, rfl⟩ := gk_nest_is w hw
  exact (h5 _ hw).warmM hW
theorem gk_RO.same {E : gk_E} {base : Nat} {ro : Nat → Nat} {s U : State} {H : Heap} (hv : U.vm = s.vm) (h : gk_RO E base ro s H) : gk_RO E base ro U H := by
  obtain ⟨⟨h1, h1b⟩, h2, h3, h4, h5, h6⟩ := h
  have hA : s.vm.Alike U.vm := by rw [hv]; exact Vm.Alike.refl _
  refine ⟨⟨h1.moved hA, h1b⟩, h2.moved hA, ⟨h3.1.same hv, h3.2.same hv⟩, ⟨h4.1.moved hA, h4.2.moved hA⟩, fun w hw => ?_, h6.moved hA⟩
  obtain ⟨a, i, x, hh, rfl⟩ := gk_nest_is w hw
  exact (h5 _ hw).same rfl hv.symm
theorem gk_sl_len (ad : Nat → Nat) : ∀ (av : List Value), av.all gk_one1 = true → (lg_sl (av.map (gk_v ad))).length = (gk_sl av).length := by
  intro av
  induction av with
  | nil => intro _; rfl
  | cons v vs ih =>
    intro h
    simp only [List.all_cons, Bool.and_eq_true] at h
    have i1 := ih h.2
    cases v <;> simp_all [lg_sl, gk_sl, gk_v, Value.category, gk_one1] <;> omega
theorem gk_sl_args (ad : Nat → Nat) : ∀ (av : List Value) (k i : Nat) (v : Value), av.all gk_one1 = true → (gk_sl av)[i]? = some (some v) → (k + i, gk_v ad v) ∈ lv_args k (av.map (gk_v ad)) := by
  intro av
  induction av with
  | nil => intro k i v _ h; cases h
  | cons w vs ih =>
    intro k i v ha h
    simp only [List.all_cons, Bool.and_eq_true] at ha
    have two : ∀ x, w = .long x → (k + i, gk_v ad v) ∈ lv_args k ((w :: vs).map (gk_v ad)) := by
      intro x hx
      subst hx
      match i, h with
      | 0, h => cases h; exact List.mem_cons_self
      | 1, h => cases h
      | i + 2, h =>
        have h9 := ih (k + 2) i v ha.2 h
        rw [show k + 2 + i = k + (i + 2) by omega] at h9
        exact List.mem_cons_of_mem _ h9
    have one : gk_sl (w :: vs) = some w :: gk_sl vs → w.category ≠ 2 → (k + i, gk_v ad v) ∈ lv_args k ((w :: vs).map (gk_v ad)) := by
      intro e hc
      rw [e] at h
      match i, h with
      | 0, h => cases h; exact List.mem_cons_self
      | i + 1, h =>
        have h9 := ih (k + 1) i v ha.2 h
        rw [show k + 1 + i = k + (i + 1) by omega] at h9
        simp only [List.map_cons, lv_args, gk_cat, if_neg hc]
        exact List.mem_cons_of_mem _ h9
    cases w with
    | long x => exact two x rfl
    | double x => exact absurd ha.1 (by simp [gk_one1])
    | int x => exact one rfl (by simp [Value.category])
    | float x => exact one rfl (by simp [Value.category])
    | null => exact one rfl (by simp [Value.category])
    | ref x => exact one rfl (by simp [Value.category])
    | retAddr x => exact one rfl (by simp [Value.category])
theorem gk_L0_len {av : List Value} {n : Nat} (h : (gk_sl av).length ≤ n) : (gk_L0 av n).length = n := by
  rw [gk_L0, List.length_append, List.length_replicate]; omega
set_option maxHeartbeats 4000000 in
/-- a contract out of the judgement at the entry -/
theorem gk_con {M : Nat → gk_J} {E : gk_E} {d j : Nat} {av : List Value} {Γ Γe : gk_G} {h : gk_H} {mc ms : Nat} {Q : Option Value → gk_H → Prop} {cf : Bool} (hy : plainName (M j).1.cls = true) (hcf : cf = true → (M j).1.name = "<init>") (hlen : (gk_sl av).length ≤ (M j).2.2.1) (hav : av.all gk_one1 = true)
    (hgo : gk_Go M E d j cf mc ms Γe Q 0 (gk_L0 av (M j).2.2.1) [] Γ h 0 0) : gk_Con M E d j av Γ Γe h mc ms Q := by
  intro l base ro cs D
  refine Met.ofW (cc := (M j).2.1) (maxL := (M j).2.2.1) (ret := (M j).2.2.2) hy rfl ?_
  intro p e s m args below meth c s₁ B hml hv
  obtain ⟨rfl, hsz, hrel, hK, hRO⟩ := hv
  have hts := atoms_spec (ws := gk_wd (M j)) B.pre
  have hown : s.vm.findClass (M j).1.cls = some m.cls := findClass_of_methodNamed B.named
  have hnm : meth.name = (M j).1.name := (name_of_methodNamed B.named B.method).1
  have hx := B.exec
  have hb := B.bytes
  have hr := B.returns
  have hlocks := B.notSynchronized
  have hl := lv_entry (av.map (gk_v (gk_ad base ro))) (n := (M j).2.2.1) (by rw [gk_sl_len _ _ hav]; exact hlen)
  rw [lg_entry_eq]
  refine hgo p l e _ s m _ below meth c base ro cs D _ s.heap [] _ ⟨hx, hb, hml, hown, fun w hw => hts w (List.mem_cons_of_mem _ hw), fun h => hnm.trans (hcf h), ⟨Nat.le_refl _, Nat.le_refl _, Nat.le_refl _, Nat.le_refl _⟩, hK, hRO, by rw [hsz]; exact Nat.le_add_right _ _⟩ ?_ hrel va_S.rf ?_ (by rw [hsz]; rfl)
  · intro pc ls H locs v h hq hrl hS hok hdg
    generalize (M j).2.2.2 = r at hr hok hdg
    match r, v, hok with
    | none, none, _ => exact W.vret hx hb hr (fun t ht hW => ⟨⟨none, h, rfl, hq, by rw [ht]; exact hrl⟩, hS.F ht⟩) hS.2.2 hdg
    | some .int, some (.int x), _ => exact W.iret hx hb hr (fun t ht hW => ⟨⟨some (.int x), h, rfl, hq, by rw [ht]; exact hrl⟩, hS.F ht⟩) hS.2.2 hdg
    | some .long, some (.long x), _ => exact W.lret hx hb hr (fun t ht hW => ⟨⟨some (.long x), h, rfl, hq, by rw [ht]; exact hrl⟩, hS.F ht⟩) hS.2.2 hdg
    | some .boolean, some (.int x), hn => exact W.zret hx hb hr hn (fun t ht hW => ⟨⟨some (.int x), h, rfl, hq, by rw [ht]; exact hrl⟩, hS.F ht⟩) hS.2.2 hdg
    | some .byte, some (.int x), hn => exact W.zret hx hb hr hn (fun t ht hW => ⟨⟨some (.int x), h, rfl, hq, by rw [ht]; exact hrl⟩, hS.F ht⟩) hS.2.2 hdg
    | some .char, some (.int x), hn => exact W.zret hx hb hr hn (fun t ht hW => ⟨⟨some (.int x), h, rfl, hq, by rw [ht]; exact hrl⟩, hS.F ht⟩) hS.2.2 hdg
    | some .short, some (.int x), hn => exact W.zret hx hb hr hn (fun t ht hW => ⟨⟨some (.int x), h, rfl, hq, by rw [ht]; exact hrl⟩, hS.F ht⟩) hS.2.2 hdg
    | some .float, some (.int x), hn => exact W.zret hx hb hr hn (fun t ht hW => ⟨⟨some (.int x), h, rfl, hq, by rw [ht]; exact hrl⟩, hS.F ht⟩) hS.2.2 hdg
    | some .double, some (.int x), hn => exact W.zret hx hb hr hn (fun t ht hW => ⟨⟨some (.int x), h, rfl, hq, by rw [ht]; exact hrl⟩, hS.F ht⟩) hS.2.2 hdg
    | some (.object _), some (.int x), hn => exact W.zret hx hb hr hn (fun t ht hW => ⟨⟨some (.int x), h, rfl, hq, by rw [ht]; exact hrl⟩, hS.F ht⟩) hS.2.2 hdg
    | some (.array _), some (.int x), hn => exact W.zret hx hb hr hn (fun t ht hW => ⟨⟨some (.int x), h, rfl, hq, by rw [ht]; exact hrl⟩, hS.F ht⟩) hS.2.2 hdg
  · refine ⟨hl.1, gk_L0_len hlen, hl.2.1, fun i v hi => ?_⟩
    have hi2 : (gk_sl av)[i]? = some (some v) := by
      rw [gk_L0] at hi
      by_cases hlt : i < (gk_sl av).length
      · rwa [List.getElem?_append_left hlt] at hi
      · rw [List.getElem?_append_right (by omega)] at hi
        have := List.eq_of_mem_replicate (List.mem_of_getElem? hi)
        cases this
    have h9 := gk_sl_args (gk_ad base ro) av 0 i v hav hi2
    rw [Nat.zero_add] at h9
    exact hl.2.2 _ h9
