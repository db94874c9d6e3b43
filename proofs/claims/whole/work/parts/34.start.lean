def gk_rof (b a0 a1 v0 v1 t : Nat) (k : Nat) : Nat := match k with
  | 0 => b
  | 1 => a0
  | 2 => a1
  | 3 => v0
  | 4 => v1
  | _ => t
set_option maxHeartbeats 4000000 in
set_option maxRecDepth 100000 in
/-- THE LAW's walk out of the judgement at its entry -/
theorem gk_start {p : Program} {e : Env} {s : State} {m : MethodId} {below : List Frame} {meth : Method} {c : Code} (l : Launch) {b L : Nat} {xs : Nat → Int32} (C0 : lw_At p s m meth c b L xs) {d mc ms : Nat} (hd : d ≤ 1400) (hmc : mc ≤ 600000) (hms : ms ≤ 7302250) {Γe : gk_G} {h0 : gk_H}
    (hgo : ∀ sf : Bool, gk_Go gk_M ((L, sf), xs) d jlw_law false mc ms Γe (fun v _ => v = some (.int 1)) 0 [some (.ref 1000000), none, none, none] [] [] h0 0 0) : W p l e room_1 s m #[Value.ref b] below meth c s.heap [] 0 0 (lw_Z below #[Value.ref b] s) (entryFrame m ([Value.ref b] : List Value).toArray 4) := by
  obtain ⟨hx, hb, hr, hml, hown, hts, hX, hbl, hlocks, hgv⟩ := C0
  have hs := flat_of_before _ hgv
  have hA : ∀ a : Nat, a < s.heap.size → ¬ gk_A s.heap.size a := fun a h => Nat.not_le.mpr h
  obtain ⟨adK, adV, hSt, hev⟩ := vk_Sof (A := gk_A s.heap.size) (N := 2) (tm := gk_tm) (len := gk_len) (byt := gk_byt) (args := #[Value.ref b]) (s := s) (by decide) (fun i hi => hs _ (gk_fl1 i hi).1) (fun i hi => hs _ (gk_fl1 i hi).2.1) (fun i hi => hs _ (gk_fl1 i hi).2.2.1) (fun i hi => hs _ (gk_fl1 i hi).2.2.2) (fun i hi j hj => hs _ (gk_fl2 i hi j hj)) (fun i j hi hj hne => (gk_fl3 i hi j hj hne).imp (fun h => hs _ h) (fun h => hs _ h)) hA
  have hC := va_Zof (A := gk_A s.heap.size) (hts _ gk_tb1.2.2.1) (hts _ gk_tb1.2.2.2.1) (va_eqi (hs _ gk_fl4.1)) hA
  obtain ⟨v, hv, hvr⟩ := Cond.isRef_spec (hs _ gk_fl4.2)
  have hF := va_Zof (A := gk_A s.heap.size) (hts _ gk_tb1.2.2.2.2.1) (hts _ gk_tb1.2.2.2.2.2.1) hv hA
  obtain ⟨sf, t, hsf⟩ : ∃ (sf : Bool) (t : Nat), v = bif sf then .ref t else .null := by
    cases v with
    | null => exact ⟨false, 0, rfl⟩
    | ref t => exact ⟨true, t, rfl⟩
    | int _ => cases hvr
    | long _ => cases hvr
    | float _ => cases hvr
    | double _ => cases hvr
    | retAddr _ => cases hvr
  subst hsf
  have hKn : ∀ k : Nat, ∃ z : ClassId × (Nat → Nat), ∀ q : vw_C, vwCl[k]? = some q → u_Kn s q.1 q.2.1 q.2.2 z.1 z.2 := by
    intro k
    cases hq : vwCl[k]? with
    | none => exact ⟨(0, fun _ => 0), fun q h => by cases h⟩
    | some q =>
      have hk : k < 11 := (List.getElem?_eq_some_iff.mp hq).1
      obtain ⟨C, T, N⟩ := q
      obtain ⟨cC, iS, h1⟩ := u_known (C := C) (T := T) (N := N) (n := N) hts (fun w h => gk_TT_in ((gk_clok hq).1 w h)) (hts _ (gk_tb3 k hk _ hq))
      exact ⟨(cC, iS), fun q h => by cases h; exact h1⟩
  obtain ⟨z, hz⟩ := Classical.axiomOfChoice hKn
  obtain ⟨c0, a0, r0⟩ := gk_arr (s := s) (ty := .int) rfl (hts _ (gk_TT_in gk_arrs.1))
  obtain ⟨c1, a1, r1⟩ := gk_arr (s := s) (ty := .char) rfl (hts _ (gk_TT_in gk_arrs.2.1))
  obtain ⟨c2, a2, r2⟩ := gk_arr (s := s) (ty := .long) rfl (hts _ (gk_TT_in gk_arrs.2.2))
  obtain ⟨c3, a3, r3⟩ := gk_arrO (hts _ gk_tb1.2.2.2.2.2.2)
  have hK : va_K (fun k => (z k).1, fun k => (z k).2) vwCl (gk_tys (fun k => match k with | 0 => c0 | 1 => c1 | 2 => c2 | _ => c3)) s := by
    refine ⟨fun k q hq => hz k q hq, fun k q hq => ?_⟩
    match k, hq with
    | 0, hq => cases hq; exact ⟨a0, r0⟩
    | 1, hq => cases hq; exact ⟨a1, r1⟩
    | 2, hq => cases hq; exact ⟨a2, r2⟩
    | 3, hq => cases hq; exact ⟨a3, r3⟩
    | k + 4, hq => simp [gk_tys] at hq
  have hRO : gk_RO ((L, sf), xs) s.heap.size (gk_rof b (adK 0) (adK 1) (adV 0) (adV 1) t) s s.heap := by
    refine ⟨⟨hX, hbl⟩, ⟨fun i hi => ?_, fun i j hi hj e => ?_⟩, ⟨vk_R.of (hts _ gk_tb1.1) (hev 0 (by decide)), vk_R.of (hts _ gk_tb1.2.1) (hev 1 (by decide))⟩, ⟨hC, hF⟩, fun w hw => ?_, va_AO.of (hts _ gk_tb1.2.2.2.2.2.2)⟩
    · match i, hi with
      | 0, hi => exact hSt.1 0 hi
      | 1, hi => exact hSt.1 1 hi
    · match i, j, hi, hj, e with
      | 0, 0, _, _, _ => rfl
      | 1, 1, _, _, _ => rfl
      | 0, 1, hi, hj, e => exact absurd (hSt.2 0 1 hi hj e) (by decide)
      | 1, 0, hi, hj, e => exact absurd (hSt.2 1 0 hi hj e) (by decide)
    · obtain ⟨x1, x2, x3, x4, rfl⟩ := gk_nest_is w hw
      exact va_Nw.of rfl (hts _ (gk_tb2 _ hw))
  have hl := lv_entry [Value.ref b] (n := 4) (Nat.le_of_ble_eq_true rfl)
  rw [lg_entry_eq]
  refine hgo sf p l e room_1 s m #[Value.ref b] below meth c s.heap.size (gk_rof b (adK 0) (adK 1) (adV 0) (adV 1) t) _ _ (lw_Z below #[Value.ref b] s) s.heap [] _ ⟨hx, hb, hml, hown, fun w hw => hts w (gk_TT_in hw), fun h => (by cases h), ⟨?_, ?_, ?_, ?_⟩, hK, hRO, Nat.le_refl _⟩ ?_ ⟨Nat.zero_le _, fun k q h => by simp [gk_ws] at h⟩ va_S.rf ⟨hl.1, rfl, hl.2.1, fun i v hi => ?_⟩ rfl
  · show d ≤ 2048; omega
  · show 60 * d ≤ 84000; omega
  · show mc ≤ 600000; exact hmc
  · show ms ≤ 7302250; exact hms
  · intro pc ls H locs v h hq hrl hS1 hok hdg
    subst hq
    refine va_forget (fun q hq => hS1.2.2 q hq) (W.widen (k := 600000) (n := 7302250) hmc hms ?_)
    exact lw_ret hx hb hr hlocks hdg
  · match i, hi with
    | 0, hi =>
      cases hi
      exact hl.2.2 (0, Value.ref b) (by simp [lv_args])
    | 1, hi => cases hi
    | 2, hi => cases hi
    | 3, hi => cases hi
    | i + 4, hi => simp at hi
