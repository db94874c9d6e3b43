/-! what is read alone, switches, ends, makings -/
def gk_sw (x : Int32) (td : Nat) (K : Nat → Prop) : List (Int32 × Nat) → Prop
  | [] => K td
  | (v, t) :: r => (x = v → K t) ∧ (¬ x = v → gk_sw x td K r)
theorem gk_sw_miss {x : Int32} {td : Nat} {K : Nat → Prop} : ∀ {sw : List (Int32 × Nat)}, gk_sw x td K sw → (∀ q ∈ sw, ¬ x = q.1) → K td := by
  intro sw
  induction sw with
  | nil => intro h _; exact h
  | cons q r ih =>
    intro h hn
    exact ih (h.2 (hn q List.mem_cons_self)) (fun q' hq' => hn q' (List.mem_cons_of_mem _ hq'))
theorem gk_sw_hit {x : Int32} {td : Nat} {K : Nat → Prop} : ∀ {sw : List (Int32 × Nat)} {i : Nat} {t : Nat}, gk_sw x td K sw → sw[i]? = some (x, t) → (∀ (i' : Nat) (q : Int32 × Nat), i' < i → sw[i']? = some q → ¬ x = q.1) → K t := by
  intro sw
  induction sw with
  | nil => intro i t _ h; cases h
  | cons q r ih =>
    intro i t h hi hn
    cases i with
    | zero => cases hi; exact h.1 rfl
    | succ i =>
      refine ih (i := i) (h.2 (hn 0 q (by omega) rfl)) hi (fun i' q' h1 h2 => hn (i' + 1) q' (by omega) h2)
def gk_tokb (pc : Nat) (dflt lo hi : Int) (offs : Array Int) (sw : List (Int32 × Nat)) (td : Nat) : Bool :=
  decide (hi - lo + 1 = (offs.size : Int)) && decide ((pc : Int) + dflt = td) && decide (sw.length = offs.size) && (List.range offs.size).all (fun i => match offs[i]?, sw[i]? with
    | some off, some q => decide (q.1.toInt = lo + i) && decide ((pc : Int) + off = q.2)
    | _, _ => false)
def gk_lokb (pc : Nat) (dflt : Int) (ps : Array (Int × Int)) (sw : List (Int32 × Nat)) (td : Nat) : Bool :=
  decide ((pc : Int) + dflt = td) && (ps.toList.zip (ps.toList.drop 1)).all (fun (a, next) => a.1 < next.1) && decide (sw.length = ps.toList.length) && (ps.toList.zip sw).all (fun q => decide (q.2.1.toInt = q.1.1) && decide ((pc : Int) + q.1.2 = q.2.2))
theorem gk_lo_off {pc : Nat} {dflt : Int} {td : Nat} {x : Int32} {K : Nat → Prop} (hd : (pc : Int) + dflt = td) : ∀ (ps : List (Int × Int)) (sw : List (Int32 × Nat)), sw.length = ps.length → (ps.zip sw).all (fun q => decide (q.2.1.toInt = q.1.1) && decide ((pc : Int) + q.1.2 = q.2.2)) = true → gk_sw x td K sw → ∃ tgt : Nat, (pc : Int) + Op.lookupswitch.offset ps dflt x.toInt = tgt ∧ K tgt := by
  intro ps
  induction ps with
  | nil =>
    intro sw hl _ h
    cases sw with
    | nil => exact ⟨td, hd, h⟩
    | cons q r => cases hl
  | cons a ps ih =>
    intro sw hl hz h
    cases sw with
    | nil => cases hl
    | cons q r =>
      simp only [List.zip_cons_cons, List.all_cons, Bool.and_eq_true, decide_eq_true_eq] at hz
      obtain ⟨⟨z1, z2⟩, z3⟩ := hz
      rw [Op.lookupswitch.offset_cons]
      by_cases hx : x = q.1
      · rw [if_pos (by rw [hx, z1])]
        exact ⟨q.2, z2, h.1 hx⟩
      · rw [if_neg (fun e => hx (Int32.toInt_inj.mp (by rw [z1]; exact e.symm)))]
        exact ih r (by simpa using hl) z3 (h.2 hx)
section GKM
variable {M : Nat → gk_J} {E : gk_E} {d j : Nat} {cf : Bool} {mc ms : Nat} {Γe : gk_G} {Q : Option Value → gk_H → Prop} {pc : Nat} {L : gk_L} {st : List Value} {Γ : gk_G} {h : gk_H} {nc ns : Nat}
theorem gk_go_table {dflt lo hi : Int} {offs : Array Int} {len td : Nat} {sw : List (Int32 × Nat)} {x : Int32} (hdg : decode (M j).2.1 pc = .ok (.tableswitch dflt lo hi offs, len)) (ok : gk_tokb pc dflt lo hi offs sw td = true) (kk : gk_sw x td (fun t => gk_Go M E d j cf mc ms Γe Q t L st Γ h nc ns) sw) : gk_Go M E d j cf mc ms Γe Q pc L (.int x :: st) Γ h nc ns := by
  intro p l e R s m args below meth c base ro cs D QF H locs ls X hret hrel hS hL hac
  simp only [gk_tokb, Bool.and_eq_true, decide_eq_true_eq, List.all_eq_true, List.mem_range] at ok
  obtain ⟨⟨⟨o1, o2⟩, o3⟩, o4⟩ := ok
  have at' : ∀ i, i < offs.size → ∃ (off : Int) (q : Int32 × Nat), offs[i]? = some off ∧ sw[i]? = some q ∧ q.1.toInt = lo + i ∧ (pc : Int) + off = q.2 := by
    intro i hi
    have := o4 i hi
    cases h1 : offs[i]? with
    | none => rw [h1] at this; simp at this
    | some off =>
      cases h2 : sw[i]? with
      | none => rw [h1, h2] at this; simp at this
      | some q =>
        rw [h1, h2] at this
        simp only [Bool.and_eq_true, decide_eq_true_eq] at this
        exact ⟨off, q, rfl, rfl, this.1, this.2⟩
  by_cases hin : lo ≤ x.toInt ∧ x.toInt ≤ hi
  · have hi2 : (x.toInt - lo).toNat < offs.size := by omega
    obtain ⟨off, q, a1, a2, a3, a4⟩ := at' _ hi2
    have hq : q.1 = x := Int32.toInt_inj.mp (by rw [a3]; omega)
    have hgo : gk_Go M E d j cf mc ms Γe Q q.2 L st Γ h nc ns := by
      refine gk_sw_hit (i := (x.toInt - lo).toNat) (t := q.2) kk (by rw [a2, ← hq]) (fun i' q' h1 h2 => ?_)
      obtain ⟨off', q'', b1, b2, b3, b4⟩ := at' i' (by omega)
      rw [h2] at b2; cases b2
      intro e
      have : x.toInt = lo + i' := by rw [e, b3]
      omega
    exact lv_tableIn X.1 X.2.1 hdg (by omega) (by omega) a1 a4 (hgo p l e R s m args below meth c base ro cs D QF H locs ls X hret hrel hS hL hac)
  · have hgo : gk_Go M E d j cf mc ms Γe Q td L st Γ h nc ns := by
      refine gk_sw_miss (K := fun t => gk_Go M E d j cf mc ms Γe Q t L st Γ h nc ns) kk (fun q hq => ?_)
      obtain ⟨i, hi⟩ := List.getElem?_of_mem hq
      have hl : i < offs.size := by rw [← o3]; exact (List.getElem?_eq_some_iff.mp hi).1
      obtain ⟨off', q'', b1, b2, b3, b4⟩ := at' i hl
      rw [hi] at b2; cases b2
      intro e
      have : x.toInt = lo + i := by rw [e, b3]
      omega
    exact lv_tableOut X.1 X.2.1 hdg (by omega) o2 (hgo p l e R s m args below meth c base ro cs D QF H locs ls X hret hrel hS hL hac)
theorem gk_go_lookup {dflt : Int} {ps : Array (Int × Int)} {len td : Nat} {sw : List (Int32 × Nat)} {x : Int32} (hdg : decode (M j).2.1 pc = .ok (.lookupswitch dflt ps, len)) (ok : gk_lokb pc dflt ps sw td = true) (kk : gk_sw x td (fun t => gk_Go M E d j cf mc ms Γe Q t L st Γ h nc ns) sw) : gk_Go M E d j cf mc ms Γe Q pc L (.int x :: st) Γ h nc ns := by
  intro p l e R s m args below meth c base ro cs D QF H locs ls X hret hrel hS hL hac
  simp only [gk_lokb, Bool.and_eq_true] at ok
  obtain ⟨⟨⟨o1, o2⟩, o3⟩, o4⟩ := ok
  obtain ⟨tgt, t1, t2⟩ := gk_lo_off (of_decide_eq_true o1) ps.toList sw (of_decide_eq_true o3) o4 kk
  exact lv_lookup X.1 X.2.1 hdg o2 rfl t1 (t2 p l e R s m args below meth c base ro cs D QF H locs ls X hret hrel hS hL hac)
theorem gk_go_ret {v : Option Value} (hq : Q v h) (hok : gk_rok (M j).2.2.2 v) (hΓ : Γ = Γe) (h1 : nc ≤ mc) (h2 : ns ≤ ms) (hst : st = v.toList) (hdg : decode (M j).2.1 pc = .ok (gk_ri (M j).2.2.2, 1)) : gk_Go M E d j cf mc ms Γe Q pc L st Γ h nc ns := by
  intro p l e R s m args below meth c base ro cs D QF H locs ls X hret hrel hS hL hac
  subst hst; subst hΓ
  exact W.widen h1 h2 (hret pc ls H locs v h hq hrel hS hok hdg)
theorem gk_go_goto {off : Int} {tgt : Nat} (hdg : decode (M j).2.1 pc = .ok (.goto off, 3)) (ht : (pc : Int) + off = (tgt : Int)) (kk : gk_Go M E d j cf mc ms Γe Q tgt L st Γ h nc ns) : gk_Go M E d j cf mc ms Γe Q pc L st Γ h nc ns := by
  intro p l e R s m args below meth c base ro cs D QF H locs ls X hret hrel hS hL hac
  exact lv_goto X.1 X.2.1 hdg ht (kk p l e R s m args below meth c base ro cs D QF H locs ls X hret hrel hS hL hac)
theorem gk_go_ifnull {v : Option Nat} {off : Int} {tgt : Nat} (hdg : decode (M j).2.1 pc = .ok (.ifnull off, 3)) (ht : (pc : Int) + off = (tgt : Int)) (kk : gk_Go M E d j cf mc ms Γe Q (match v with | none => tgt | some _ => pc + 3) L st Γ h nc ns) : gk_Go M E d j cf mc ms Γe Q pc L (va_rf v :: st) Γ h nc ns := by
  intro p l e R s m args below meth c base ro cs D QF H locs ls X hret hrel hS hL hac
  have h9 := kk p l e R s m args below meth c base ro cs D QF H locs ls X hret hrel hS hL hac
  cases v with
  | none => exact lv_ifnullN X.1 X.2.1 hdg ht h9
  | some a => exact lv_ifnull X.1 X.2.1 hdg h9
theorem gk_go_ifnonnull {v : Option Nat} {off : Int} {tgt : Nat} (hdg : decode (M j).2.1 pc = .ok (.ifnonnull off, 3)) (ht : (pc : Int) + off = (tgt : Int)) (kk : gk_Go M E d j cf mc ms Γe Q (match v with | none => pc + 3 | some _ => tgt) L st Γ h nc ns) : gk_Go M E d j cf mc ms Γe Q pc L (va_rf v :: st) Γ h nc ns := by
  intro p l e R s m args below meth c base ro cs D QF H locs ls X hret hrel hS hL hac
  have h9 := kk p l e R s m args below meth c base ro cs D QF H locs ls X hret hrel hS hL hac
  cases v with
  | none => exact lv_ifnonnullN X.1 X.2.1 hdg h9
  | some a => exact lv_ifnonnull X.1 X.2.1 hdg ht h9
theorem gk_go_ldc {idx : Nat} {x : Int32} (hw : Cond.constant (M j).1.cls idx x ∈ gk_TT) (hdg : decode (M j).2.1 pc = .ok (.ldc idx, 2)) (kk : gk_Go M E d j cf mc ms Γe Q (pc + 2) L (.int x :: st) Γ h nc ns) : gk_Go M E d j cf mc ms Γe Q pc L st Γ h nc ns := by
  intro p l e R s m args below meth c base ro cs D QF H locs ls X hret hrel hS hL hac
  obtain ⟨hx, hb, hml, hown, hts, -⟩ := id X
  exact lv_ldc hx hb hown (hts _ hw) hdg (kk p l e R s m args below meth c base ro cs D QF H locs ls X hret hrel hS hL hac)
theorem gk_go_ldcw {idx : Nat} {x : Int32} (hw : Cond.constant (M j).1.cls idx x ∈ gk_TT) (hdg : decode (M j).2.1 pc = .ok (.ldc_w idx, 3)) (kk : gk_Go M E d j cf mc ms Γe Q (pc + 3) L (.int x :: st) Γ h nc ns) : gk_Go M E d j cf mc ms Γe Q pc L st Γ h nc ns := by
  intro p l e R s m args below meth c base ro cs D QF H locs ls X hret hrel hS hL hac
  obtain ⟨hx, hb, hml, hown, hts, -⟩ := id X
  exact lv_ldcw hx hb hown (hts _ hw) hdg (kk p l e R s m args below meth c base ro cs D QF H locs ls X hret hrel hS hL hac)
theorem gk_go_ldc2 {idx : Nat} {x : Int64} (hw : Cond.constantLong (M j).1.cls idx x ∈ gk_TT) (hdg : decode (M j).2.1 pc = .ok (.ldc2_w idx, 3)) (kk : gk_Go M E d j cf mc ms Γe Q (pc + 3) L (.long x :: st) Γ h nc ns) : gk_Go M E d j cf mc ms Γe Q pc L st Γ h nc ns := by
  intro p l e R s m args below meth c base ro cs D QF H locs ls X hret hrel hS hL hac
  obtain ⟨hx, hb, hml, hown, hts, -⟩ := id X
  exact lv_ldc2 hx hb hown (hts _ hw) hdg (kk p l e R s m args below meth c base ro cs D QF H locs ls X hret hrel hS hL hac)
/-- a text of Tape's -/
theorem gk_go_ldcs {idx i : Nat} (hi : (idx = 57 ∧ i = 0) ∨ (idx = 49 ∧ i = 1)) (hown0 : (M j).1.cls = "DryPlaces$Tape") (hdg : decode (M j).2.1 pc = .ok (.ldc idx, 2)) (kk : gk_Go M E d j cf mc ms Γe Q (pc + 2) L (.ref (1000000 + (1 + i)) :: st) Γ h nc ns) : gk_Go M E d j cf mc ms Γe Q pc L st Γ h nc ns := by
  intro p l e R s m args below meth c base ro cs D QF H locs ls X hret hrel hS hL hac
  obtain ⟨hx, hb, hml, hown, hts, hin, hR, hK, hRO, hbs0⟩ := id X
  have h9 := kk p l e R s m args below meth c base ro cs D QF H locs ls X hret hrel hS hL hac
  have e1 : gk_v (gk_ad base ro) (.ref (1000000 + (1 + i))) = .ref (ro (1 + i)) := by show Value.ref (gk_ad base ro _) = _; rw [gk_ad_ro]
  rw [List.map_cons, e1] at h9
  rw [hown0] at hown
  rcases hi with ⟨rfl, rfl⟩ | ⟨rfl, rfl⟩
  · exact va_ldcS hx hb hown hRO.2.2.1.1 hdg h9
  · exact va_ldcS hx hb hown hRO.2.2.1.2 hdg h9
/-- a text's fields -/
theorem gk_go_gets {idx i kd : Nat} (hi : i < 2) (hkd : (kd = 3 ∧ Cond.fieldLink (M j).1.cls idx "java/lang/String" "value" "[B" ∈ gk_TT) ∨ (kd = 4 ∧ Cond.fieldLink (M j).1.cls idx "java/lang/String" "coder" "B" ∈ gk_TT)) (hdg : decode (M j).2.1 pc = .ok (.getfield idx, 3)) (kk : gk_Go M E d j cf mc ms Γe Q (pc + 3) L ((bif kd == 3 then .ref (1000000 + (3 + i)) else .int 0) :: st) Γ h nc ns) : gk_Go M E d j cf mc ms Γe Q pc L (.ref (1000000 + (1 + i)) :: st) Γ h nc ns := by
  intro p l e R s m args below meth c base ro cs D QF H locs ls X hret hrel hS hL hac
  obtain ⟨hx, hb, hml, hown, hts, hin, hR, hK, hRO, hbs0⟩ := id X
  have h9 := kk p l e R s m args below meth c base ro cs D QF H locs ls X hret hrel hS hL hac
  have e1 : gk_v (gk_ad base ro) (.ref (1000000 + (1 + i))) = .ref (ro (1 + i)) := by show Value.ref (gk_ad base ro _) = _; rw [gk_ad_ro]
  have hs := hRO.2.1.1 i hi
  rw [List.map_cons, e1]
  rcases hkd with ⟨rfl, hw⟩ | ⟨rfl, hw⟩
  · have e2 : gk_v (gk_ad base ro) (bif (3 : Nat) == 3 then .ref (1000000 + (3 + i)) else .int 0) = .ref (ro (3 + i)) := by show Value.ref (gk_ad base ro _) = _; rw [gk_ad_ro]
    rw [List.map_cons, e2] at h9
    exact vk_getf hx hb hs.2.2.1 hS hown (hts _ hw) (fun _ h => h) hdg h9
  · exact vk_getf hx hb hs.2.1 hS hown (hts _ hw) (fun _ h => h) hdg h9
theorem gk_go_bald {i : Nat} {x : Int32} (hi : i < 2) (hin0 : vp_in x (gk_len.getD i 0)) (hdg : decode (M j).2.1 pc = .ok (.baload, 1)) (kk : gk_Go M E d j cf mc ms Γe Q (pc + 1) L (.int ((gk_byt.getD i []).getD x.toNatClampNeg 0) :: st) Γ h nc ns) : gk_Go M E d j cf mc ms Γe Q pc L (.int x :: .ref (1000000 + (3 + i)) :: st) Γ h nc ns := by
  intro p l e R s m args below meth c base ro cs D QF H locs ls X hret hrel hS hL hac
  obtain ⟨hx, hb, hml, hown, hts, hin, hR, hK, hRO, hbs0⟩ := id X
  have h9 := kk p l e R s m args below meth c base ro cs D QF H locs ls X hret hrel hS hL hac
  have e1 : gk_v (gk_ad base ro) (.ref (1000000 + (3 + i))) = .ref (ro (3 + i)) := by show Value.ref (gk_ad base ro _) = _; rw [gk_ad_ro]
  rw [List.map_cons, List.map_cons, e1]
  exact va_tb hx hb (hRO.2.1.1 i hi).2.2.2 hS hin0 rfl hdg h9
theorem gk_go_blen {i : Nat} (hi : i < 2) (hdg : decode (M j).2.1 pc = .ok (.arraylength, 1)) (kk : gk_Go M E d j cf mc ms Γe Q (pc + 1) L (.int (OfNat.ofNat (gk_len.getD i 0)) :: st) Γ h nc ns) : gk_Go M E d j cf mc ms Γe Q pc L (.ref (1000000 + (3 + i)) :: st) Γ h nc ns := by
  intro p l e R s m args below meth c base ro cs D QF H locs ls X hret hrel hS hL hac
  obtain ⟨hx, hb, hml, hown, hts, hin, hR, hK, hRO, hbs0⟩ := id X
  have h9 := kk p l e R s m args below meth c base ro cs D QF H locs ls X hret hrel hS hL hac
  have e1 : gk_v (gk_ad base ro) (.ref (1000000 + (3 + i))) = .ref (ro (3 + i)) := by show Value.ref (gk_ad base ro _) = _; rw [gk_ad_ro]
  rw [List.map_cons, e1]
  exact va_tlen hx hb (hRO.2.1.1 i hi).2.2.2 hS rfl hdg h9
theorem gk_go_static {idx : Nat} (hw : Cond.fieldLink (M j).1.cls idx "java/lang/String" "COMPACT_STRINGS" "Z" ∈ gk_TT) (hdg : decode (M j).2.1 pc = .ok (.getstatic idx, 3)) (kk : gk_Go M E d j cf mc ms Γe Q (pc + 3) L (.int 1 :: st) Γ h nc ns) : gk_Go M E d j cf mc ms Γe Q pc L st Γ h nc ns := by
  intro p l e R s m args below meth c base ro cs D QF H locs ls X hret hrel hS hL hac
  obtain ⟨hx, hb, hml, hown, hts, hin, hR, hK, hRO, hbs0⟩ := id X
  exact va_gets hx hb hRO.2.2.2.1.1 hS hown (hts _ hw) (fun _ h => h) hdg (kk p l e R s m args below meth c base ro cs D QF H locs ls X hret hrel hS hL hac)
theorem gk_go_static2 {idx : Nat} (hw : Cond.fieldLink (M j).1.cls idx "jdk/internal/util/Preconditions" "SIOOBE_FORMATTER" "Ljava/util/function/BiFunction;" ∈ gk_TT) (hdg : decode (M j).2.1 pc = .ok (.getstatic idx, 3)) (kk : gk_Go M E d j cf mc ms Γe Q (pc + 3) L ((bif E.1.2 then .ref (1000000 + 5) else .null) :: st) Γ h nc ns) : gk_Go M E d j cf mc ms Γe Q pc L st Γ h nc ns := by
  intro p l e R s m args below meth c base ro cs D QF H locs ls X hret hrel hS hL hac
  obtain ⟨hx, hb, hml, hown, hts, hin, hR, hK, hRO, hbs0⟩ := id X
  have h9 := kk p l e R s m args below meth c base ro cs D QF H locs ls X hret hrel hS hL hac
  have e1 : gk_v (gk_ad base ro) (bif E.1.2 then .ref (1000000 + 5) else .null) = bif E.1.2 then .ref (ro 5) else .null := by
    cases E.1.2 with
    | false => rfl
    | true => show Value.ref (gk_ad base ro _) = _; rw [gk_ad_ro]; rfl
  rw [List.map_cons, e1] at h9
  exact va_gets hx hb hRO.2.2.2.1.2 hS hown (hts _ hw) (fun _ h => h) hdg h9
/-- the script -/
theorem gk_go_sld {x : Int32} (hin0 : vp_in x E.1.1) (hdg : decode (M j).2.1 pc = .ok (.iaload, 1)) (kk : gk_Go M E d j cf mc ms Γe Q (pc + 1) L (.int (E.2 x.toNatClampNeg) :: st) Γ h nc ns) : gk_Go M E d j cf mc ms Γe Q pc L (.int x :: .ref (1000000 + 0) :: st) Γ h nc ns := by
  intro p l e R s m args below meth c base ro cs D QF H locs ls X hret hrel hS hL hac
  obtain ⟨hx, hb, hml, hown, hts, hin, hR, hK, hRO, hbs0⟩ := id X
  have h9 := kk p l e R s m args below meth c base ro cs D QF H locs ls X hret hrel hS hL hac
  have e1 : gk_v (gk_ad base ro) (.ref (1000000 + 0)) = .ref (ro 0) := by show Value.ref (gk_ad base ro _) = _; rw [gk_ad_ro]
  rw [List.map_cons, List.map_cons, e1]
  exact va_sld hx hb hRO.1.1 (Nat.lt_of_lt_of_le hRO.1.2 hbs0) (Nat.not_le.mpr hRO.1.2) hS hin0 hdg h9
theorem gk_go_slen (hdg : decode (M j).2.1 pc = .ok (.arraylength, 1)) (kk : gk_Go M E d j cf mc ms Γe Q (pc + 1) L (.int (Int32.ofNat E.1.1) :: st) Γ h nc ns) : gk_Go M E d j cf mc ms Γe Q pc L (.ref (1000000 + 0) :: st) Γ h nc ns := by
  intro p l e R s m args below meth c base ro cs D QF H locs ls X hret hrel hS hL hac
  obtain ⟨hx, hb, hml, hown, hts, hin, hR, hK, hRO, hbs0⟩ := id X
  have h9 := kk p l e R s m args below meth c base ro cs D QF H locs ls X hret hrel hS hL hac
  have e1 : gk_v (gk_ad base ro) (.ref (1000000 + 0)) = .ref (ro 0) := by show Value.ref (gk_ad base ro _) = _; rw [gk_ad_ro]
  rw [List.map_cons, e1]
  exact va_slen hx hb hRO.1.1 (Nat.lt_of_lt_of_le hRO.1.2 hbs0) (Nat.not_le.mpr hRO.1.2) hS hdg h9
/-- Math.max, min, abs -/
theorem gk_go_max {idx : Nat} {x y : Int32} (hw : ∀ w ∈ ([.methodLink (M j).1.cls idx Lib.Math.max.name, .static Lib.Math.max.name, .initialized "java/lang/Math", .code Lib.Math.max.name Lib.Math.max.code 2 (some .int)] : List Cond), w ∈ gk_TT) (hd : 1 ≤ d) (h1 : nc ≤ mc) (h2 : ns ≤ ms) (hcat : (st.map fun v => v.category).sum ≤ 8) (hdg : decode (M j).2.1 pc = .ok (.invokestatic idx, 3)) (kk : gk_Go M E d j cf mc ms Γe Q (pc + 3) L (.int (if x < y then y else x) :: st) Γ h nc ns) : gk_Go M E d j cf mc ms Γe Q pc L (.int y :: .int x :: st) Γ h nc ns := by
  intro p l e R s m args below meth c base ro cs D QF H locs ls X hret hrel hS hL hac
  obtain ⟨hx, hb, hml, hown, hts, hin, hR, hK, hRO, hbs0⟩ := id X
  exact va_mmax hx hb (by rw [hml]; exact hL.1.symm) hown (hts _ (hw _ (by simp))) (hts _ (hw _ (by simp))) (hts _ (hw _ (by simp))) (hts _ (hw _ (by simp))) (by omega) (by rw [gk_cat_sum]; omega) (by omega) (by omega) hdg (kk p l e R s m args below meth c base ro cs D QF H locs ls X hret hrel hS hL hac)
theorem gk_go_min {idx : Nat} {x y : Int32} (hw : ∀ w ∈ ([.methodLink (M j).1.cls idx Lib.Math.min.name, .static Lib.Math.min.name, .initialized "java/lang/Math", .code Lib.Math.min.name Lib.Math.min.code 2 (some .int)] : List Cond), w ∈ gk_TT) (hd : 1 ≤ d) (h1 : nc ≤ mc) (h2 : ns ≤ ms) (hcat : (st.map fun v => v.category).sum ≤ 8) (hdg : decode (M j).2.1 pc = .ok (.invokestatic idx, 3)) (kk : gk_Go M E d j cf mc ms Γe Q (pc + 3) L (.int (if y < x then y else x) :: st) Γ h nc ns) : gk_Go M E d j cf mc ms Γe Q pc L (.int y :: .int x :: st) Γ h nc ns := by
  intro p l e R s m args below meth c base ro cs D QF H locs ls X hret hrel hS hL hac
  obtain ⟨hx, hb, hml, hown, hts, hin, hR, hK, hRO, hbs0⟩ := id X
  exact va_mmin hx hb (by rw [hml]; exact hL.1.symm) hown (hts _ (hw _ (by simp))) (hts _ (hw _ (by simp))) (hts _ (hw _ (by simp))) (hts _ (hw _ (by simp))) (by omega) (by rw [gk_cat_sum]; omega) (by omega) (by omega) hdg (kk p l e R s m args below meth c base ro cs D QF H locs ls X hret hrel hS hL hac)
theorem gk_go_abs {idx : Nat} {x : Int32} (hw : ∀ w ∈ ([.methodLink (M j).1.cls idx Lib.Math.abs.name, .static Lib.Math.abs.name, .initialized "java/lang/Math", .code Lib.Math.abs.name Lib.Math.abs.code 1 (some .int)] : List Cond), w ∈ gk_TT) (hd : 1 ≤ d) (h1 : nc ≤ mc) (h2 : ns ≤ ms) (hcat : (st.map fun v => v.category).sum ≤ 8) (hdg : decode (M j).2.1 pc = .ok (.invokestatic idx, 3)) (kk : gk_Go M E d j cf mc ms Γe Q (pc + 3) L (.int (if 0 ≤ x then x else 0 - x) :: st) Γ h nc ns) : gk_Go M E d j cf mc ms Γe Q pc L (.int x :: st) Γ h nc ns := by
  intro p l e R s m args below meth c base ro cs D QF H locs ls X hret hrel hS hL hac
  obtain ⟨hx, hb, hml, hown, hts, hin, hR, hK, hRO, hbs0⟩ := id X
  exact va_mabs hx hb (by rw [hml]; exact hL.1.symm) hown (hts _ (hw _ (by simp))) (hts _ (hw _ (by simp))) (hts _ (hw _ (by simp))) (hts _ (hw _ (by simp))) (by omega) (by rw [gk_cat_sum]; omega) (by omega) (by omega) hdg (kk p l e R s m args below meth c base ro cs D QF H locs ls X hret hrel hS hL hac)
/-- Object's own constructor -/
theorem gk_go_obj {idx k : Nat} (hw : ∀ w ∈ ([.methodLink (M j).1.cls idx Lib.objectInit, .instanceMethod Lib.objectInit, .code Lib.objectInit ⟨#[0xb1]⟩ 1 none] : List Cond), w ∈ gk_TT) (hd : 1 ≤ d) (hcat : (st.map fun v => v.category).sum ≤ 8) (hdg : decode (M j).2.1 pc = .ok (.invokespecial idx, 3)) (kk : gk_Go M E d j cf mc ms Γe Q (pc + 3) L st Γ h nc ns) : gk_Go M E d j cf mc ms Γe Q pc L (.ref k :: st) Γ h nc ns := by
  intro p l e R s m args below meth c base ro cs D QF H locs ls X hret hrel hS hL hac
  obtain ⟨hx, hb, hml, hown, hts, hin, hR, hK, hRO, hbs0⟩ := id X
  refine W.objInit hx hb hown (hts _ (hw _ (by simp))) (hts _ (hw _ (by simp))) (hts _ (hw _ (by simp))) rfl (by rw [hml]; exact hL.1) rfl hdg (by omega) ?_ (kk p l e R s m args below meth c base ro cs D QF H locs ls X hret hrel hS hL hac)
  have := lv_room (m := m) (pc := pc) (ls := ls) (rest := st.map (gk_v (gk_ad base ro))) (st := st.map (gk_v (gk_ad base ro))) (by rw [gk_cat_sum]; exact hcat)
  have h2 : 2 * (F0 m pc ls ((Value.ref k :: st).map (gk_v (gk_ad base ro)))).monitorRoom + ((st.map (gk_v (gk_ad base ro))).map fun v => v.category).sum ≤ 8 := this
  omega
def gk_hc (h : gk_H) (k k0 sp dp n : Nat) : gk_H := (h.1, va_up h.2.1 k (va_cpy (h.2.1 k0) (h.2.1 k) sp dp n), h.2.2)
def gk_hcl (h : gk_H) (k k0 sp dp n : Nat) : gk_H := (h.1, h.2.1, va_up h.2.2 k (va_cpy (h.2.2 k0) (h.2.2 k) sp dp n))
/-- System.arraycopy of ints -/
theorem gk_go_copyi {idx k0 k n0 n1 : Nat} {sp dp n : Int32} {rs0 rs1 : List (Option Nat)} (hw : ∀ w ∈ ([.methodLink (M j).1.cls idx arraycopyName, .native arraycopyName, .static arraycopyName, .initialized "java/lang/System"] : List Cond), w ∈ gk_TT) (hd : 1 ≤ d) (hcat : (st.map fun v => v.category).sum ≤ 8) (h0 : Γ[k0]? = some (1, n0, rs0)) (hk : Γ[k]? = some (1, n1, rs1)) (a1 : ¬ sp < 0) (a2 : ¬ dp < 0) (a3 : ¬ n < 0) (a4 : sp.toNatClampNeg + n.toNatClampNeg ≤ n0) (a5 : dp.toNatClampNeg + n.toNatClampNeg ≤ n1) (hdg : decode (M j).2.1 pc = .ok (.invokestatic idx, 3))
    (kk : gk_Go M E d j cf mc ms Γe Q (pc + 3) L st Γ (gk_hc h k k0 sp.toNatClampNeg dp.toNatClampNeg n.toNatClampNeg) nc ns) : gk_Go M E d j cf mc ms Γe Q pc L (.int n :: .int dp :: .ref k :: .int sp :: .ref k0 :: st) Γ h nc ns := by
  intro p l e R s m args below meth c base ro cs D QF H locs ls X hret hrel hS hL hac
  obtain ⟨hx, hb, hml, hown, hts, hin, hR, hK, hRO, hbs0⟩ := id X
  have e1 : gk_v (gk_ad base ro) (.ref k) = .ref (base + k) := by show Value.ref (gk_ad base ro k) = _; rw [gk_ad_own (gk_lt hrel hk)]
  have e0 : gk_v (gk_ad base ro) (.ref k0) = .ref (base + k0) := by show Value.ref (gk_ad base ro k0) = _; rw [gk_ad_own (gk_lt hrel h0)]
  simp only [List.map_cons, e1, e0]
  refine va_copyi (D := D) (A := gk_A base) (H0 := s.heap) (c0 := cs 0) (c1 := cs 0) (n0 := n0) (n1 := n1) (f := h.2.1 k0) (g := h.2.1 k) (ty := .int) hx hb (by rw [hml]; exact hL.1.symm) hown (hts _ (hw _ (by simp))) (hts _ (hw _ (by simp))) (hts _ (hw _ (by simp))) (hts _ (hw _ (by simp))) hK hrel.2 gk_ws_D hS k0 k 0 0 (gk_ws_get h0) (gk_ws_get hk) rfl rfl rfl a1 a2 a3 a4 a5 (fun _ _ => rfl) (by omega) ?_ hdg (fun H1 locs1 hP1 hD1 hS1 => ?_)
  · rw [gk_cat_sum]
    have : nativeFrameWords "java/lang/System" "arraycopy" 5 + 11 ≤ 52 := by decide +kernel
    omega
  · refine kk p l e R s m args below meth c base ro cs D QF H1 locs1 ls X hret ?_ hS1 hL hac
    refine gk_rel_set0 hrel hk (fun q hq => ⟨rfl, gk_up_ne hq, rfl⟩) ?_ hP1
    show _ = Sum.inl (cs 0, n1, Sum.inl (va_up h.2.1 k _ k))
    rw [gk_up_eq]
theorem gk_go_copyl {idx k0 k n0 n1 : Nat} {sp dp n : Int32} {rs0 rs1 : List (Option Nat)} (hw : ∀ w ∈ ([.methodLink (M j).1.cls idx arraycopyName, .native arraycopyName, .static arraycopyName, .initialized "java/lang/System"] : List Cond), w ∈ gk_TT) (hd : 1 ≤ d) (hcat : (st.map fun v => v.category).sum ≤ 8) (h0 : Γ[k0]? = some (3, n0, rs0)) (hk : Γ[k]? = some (3, n1, rs1)) (a1 : ¬ sp < 0) (a2 : ¬ dp < 0) (a3 : ¬ n < 0) (a4 : sp.toNatClampNeg + n.toNatClampNeg ≤ n0) (a5 : dp.toNatClampNeg + n.toNatClampNeg ≤ n1) (hdg : decode (M j).2.1 pc = .ok (.invokestatic idx, 3))
    (kk : gk_Go M E d j cf mc ms Γe Q (pc + 3) L st Γ (gk_hcl h k k0 sp.toNatClampNeg dp.toNatClampNeg n.toNatClampNeg) nc ns) : gk_Go M E d j cf mc ms Γe Q pc L (.int n :: .int dp :: .ref k :: .int sp :: .ref k0 :: st) Γ h nc ns := by
  intro p l e R s m args below meth c base ro cs D QF H locs ls X hret hrel hS hL hac
  obtain ⟨hx, hb, hml, hown, hts, hin, hR, hK, hRO, hbs0⟩ := id X
  have e1 : gk_v (gk_ad base ro) (.ref k) = .ref (base + k) := by show Value.ref (gk_ad base ro k) = _; rw [gk_ad_own (gk_lt hrel hk)]
  have e0 : gk_v (gk_ad base ro) (.ref k0) = .ref (base + k0) := by show Value.ref (gk_ad base ro k0) = _; rw [gk_ad_own (gk_lt hrel h0)]
  simp only [List.map_cons, e1, e0]
  refine va_copyl (D := D) (A := gk_A base) (H0 := s.heap) (c0 := cs 2) (c1 := cs 2) (n0 := n0) (n1 := n1) (f := h.2.2 k0) (g := h.2.2 k) (ty := .long) hx hb (by rw [hml]; exact hL.1.symm) hown (hts _ (hw _ (by simp))) (hts _ (hw _ (by simp))) (hts _ (hw _ (by simp))) (hts _ (hw _ (by simp))) hK hrel.2 gk_ws_D hS k0 k 2 2 (gk_ws_get h0) (gk_ws_get hk) rfl rfl rfl a1 a2 a3 a4 a5 (fun _ _ => rfl) (by omega) ?_ hdg (fun H1 locs1 hP1 hD1 hS1 => ?_)
  · rw [gk_cat_sum]
    have : nativeFrameWords "java/lang/System" "arraycopy" 5 + 11 ≤ 52 := by decide +kernel
    omega
  · refine kk p l e R s m args below meth c base ro cs D QF H1 locs1 ls X hret ?_ hS1 hL hac
    refine gk_rel_set0 hrel hk (fun q hq => ⟨rfl, rfl, gk_up_ne hq⟩) ?_ hP1
    show _ = Sum.inl (cs 2, n1, Sum.inr (Sum.inl (va_up h.2.2 k _ k)))
    rw [gk_up_eq]
end GKM
