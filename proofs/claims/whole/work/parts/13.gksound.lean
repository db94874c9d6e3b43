/-! the function is sound -/
def gk_tgok (pc : Nat) (i : Instr) (tgt : Nat) : Bool := match i with
  | .goto o => decide ((pc : Int) + o = tgt)
  | .ifCond _ o => decide ((pc : Int) + o = tgt)
  | .if_icmp _ o => decide ((pc : Int) + o = tgt)
  | .ifnull o => decide ((pc : Int) + o = tgt)
  | .ifnonnull o => decide ((pc : Int) + o = tgt)
  | _ => true
def gk_eok (bytes : ByteArray) (q : Nat × Instr × Nat × Nat) : Bool := match q.2.1 with
  | .tableswitch a b c e => decide (decode bytes q.1 = .ok (.tableswitch a b c e, q.2.2.1 - q.1))
  | .lookupswitch a b => decide (decode bytes q.1 = .ok (.lookupswitch a b, q.2.2.1 - q.1))
  | i => decide (decode bytes q.1 = .ok (i, gk_ln i)) && (Nat.beq q.2.2.1 (q.1 + gk_ln i) && gk_tgok q.1 i q.2.2.2)
def gk_fok1 (own : String) (e : Nat × Nat × Nat × Nat) : Prop := match e.2.2.2 with
  | 3 => Cond.fieldLink own e.1 "java/lang/String" "value" "[B" ∈ gk_TT
  | 4 => Cond.fieldLink own e.1 "java/lang/String" "coder" "B" ∈ gk_TT
  | kd => gk_fok own e.1 e.2.1 e.2.2.1 kd
def gk_cok1 (M : Nat → gk_J) (own : String) (e : Nat × Nat × Nat × Nat × Nat × Nat × Nat × Nat) : Prop := match e.2.1 with
  | 3 => ∀ w ∈ ([.methodLink own e.1 Lib.objectInit, .instanceMethod Lib.objectInit, .code Lib.objectInit ⟨#[0xb1]⟩ 1 none] : List Cond), w ∈ gk_TT
  | 4 => ∀ w ∈ ([.methodLink own e.1 arraycopyName, .native arraycopyName, .static arraycopyName, .initialized "java/lang/System"] : List Cond), w ∈ gk_TT
  | 8 => ∀ w ∈ ([.methodLink own e.1 Lib.Math.max.name, .static Lib.Math.max.name, .initialized "java/lang/Math", .code Lib.Math.max.name Lib.Math.max.code 2 (some .int)] : List Cond), w ∈ gk_TT
  | 9 => ∀ w ∈ ([.methodLink own e.1 Lib.Math.min.name, .static Lib.Math.min.name, .initialized "java/lang/Math", .code Lib.Math.min.name Lib.Math.min.code 2 (some .int)] : List Cond), w ∈ gk_TT
  | 10 => ∀ w ∈ ([.methodLink own e.1 Lib.Math.abs.name, .static Lib.Math.abs.name, .initialized "java/lang/Math", .code Lib.Math.abs.name Lib.Math.abs.code 1 (some .int)] : List Cond), w ∈ gk_TT
  | kd => gk_cok own e.1 kd (M e.2.2.1) e.2.2.2.1 e.2.2.2.2.1
def gk_nok (own : String) (e : Nat × Nat) : Prop := ∃ (C : String) (T : u_T) (N : Nat), vwCl[e.2]? = some (C, T, N) ∧ ∀ w ∈ ([.classLink own e.1 C, .instantiable C N, .initialized C] : List Cond), w ∈ gk_TT
/-- a class's pool says what is so -/
def gk_pok (M : Nat → gk_J) (own : String) (P : gk_P) : Prop := (∀ e ∈ P.1, gk_fok1 own e) ∧ (∀ e ∈ P.2.1, gk_cok1 M own e) ∧ (∀ e ∈ P.2.2.1, Cond.constant own e.1 e.2 ∈ gk_TT) ∧ (∀ e ∈ P.2.2.2.1, Cond.constantLong own e.1 e.2 ∈ gk_TT) ∧ ∀ e ∈ P.2.2.2.2, gk_nok own e
def gk_xok (own : String) (P : gk_P) (O : gk_O) (q : Nat × Instr × Nat × Nat) : Prop := match q.2.1 with
  | .tableswitch a b c e => ∀ z, gk_lk O.2.1 q.1 = some z → gk_tokb q.1 a b c e z.1 z.2 = true
  | .lookupswitch a b => ∀ z, gk_lk O.2.1 q.1 = some z → gk_lokb q.1 a b z.1 z.2 = true
  | .getstatic idx => match q.2.2.2 with
    | 0 => Cond.fieldLink own idx "java/lang/String" "COMPACT_STRINGS" "Z" ∈ gk_TT
    | _ => Cond.fieldLink own idx "jdk/internal/util/Preconditions" "SIOOBE_FORMATTER" "Ljava/util/function/BiFunction;" ∈ gk_TT
  | .ldc idx => gk_lk P.2.2.1 idx = none → own = "DryPlaces$Tape"
  | _ => True
/-- a method's tables say what is so -/
def gk_ok (M : Nat → gk_J) (j : Nat) (tb : gk_T) (P : gk_P) (O : gk_O) : Prop := (∀ q ∈ tb, gk_eok (M j).2.1 q = true) ∧ gk_pok M (M j).1.cls P ∧ (∀ q ∈ tb, gk_xok (M j).1.cls P O q) ∧ (M j).2.2.2 = gk_rt O.1
set_option maxRecDepth 100000 in
theorem gk_arrs : Cond.arrayClass .int ∈ gk_TT ∧ Cond.arrayClass .char ∈ gk_TT ∧ Cond.arrayClass .long ∈ gk_TT := ⟨gk_TT_of (by decide +kernel) rfl, gk_TT_of (by decide +kernel) rfl, gk_TT_of (by decide +kernel) rfl⟩
section GKS
variable {M : Nat → gk_J} {E : gk_E} {d j : Nat} {cf : Bool} {mc ms : Nat} {Γe : gk_G} {Q : Option Value → gk_H → Prop} {P : gk_P} {O : gk_O} {K : Nat → gk_L → List Value → gk_G → gk_H → Nat → Nat → Prop}
/-- what a state keeps where nothing is made -/
def gk_inv (cf : Bool) (mc ms : Nat) (Γe Γ : gk_G) (nc ns : Nat) : Prop := (cf = false → Γ = Γe) ∧ nc ≤ mc ∧ ns ≤ ms
def gk_KG (M : Nat → gk_J) (E : gk_E) (d j : Nat) (cf : Bool) (mc ms : Nat) (Γe : gk_G) (Q : Option Value → gk_H → Prop) (K : Nat → gk_L → List Value → gk_G → gk_H → Nat → Nat → Prop) : Prop := ∀ pc L st Γ h nc ns, gk_inv cf mc ms Γe Γ nc ns → K pc L st Γ h nc ns → gk_Go M E d j cf mc ms Γe Q pc L st Γ h nc ns
variable {pc nxt tgt : Nat} {L : gk_L} {st : List Value} {Γ : gk_G} {h : gk_H} {nc ns : Nat}
theorem gk_two (a k : Nat) (h1 : a < k) (h2 : k < a + 3) : k = a + 1 ∨ k = a + 2 := by omega
theorem gk_bif {b : Bool} {A : Prop} (h : bif b then A else False) : b = true ∧ A := by cases b with | true => exact ⟨rfl, h⟩ | false => exact absurd h id
set_option maxHeartbeats 1000000 in
theorem gk_ld_sound (hK : gk_KG M E d j cf mc ms Γe Q K) (hi : gk_inv cf mc ms Γe Γ nc ns) {i n kd : Nat} {ins : Instr} (hw : gk_ld K nxt n kd L st Γ h nc ns) (hn : nxt = pc + i) (hdg : decode (M j).2.1 pc = .ok (ins, i)) (hins : (kd = 0 ∧ ((ins = .iload n ∧ i = 2) ∨ ∃ f : Fin 4, ins = .iload_n f ∧ f.val = n ∧ i = 1)) ∨ (kd = 1 ∧ ((ins = .lload n ∧ i = 2) ∨ ∃ f : Fin 4, ins = .lload_n f ∧ f.val = n ∧ i = 1)) ∨ (kd = 2 ∧ ((ins = .aload n ∧ i = 2) ∨ ∃ f : Fin 4, ins = .aload_n f ∧ f.val = n ∧ i = 1)) ∨ (kd = 3 ∧ ins = .aload n ∧ i = 2)) : gk_Go M E d j cf mc ms Γe Q pc L st Γ h nc ns := by
  subst hn
  unfold gk_ld at hw
  split at hw
  · rename_i x hl
    obtain ⟨h1, h2⟩ := gk_bif hw
    have h3 : kd = 0 := by simpa using h1
    subst h3
    rcases hins with ⟨-, ⟨rfl, rfl⟩ | ⟨f, rfl, rfl, rfl⟩⟩ | ⟨h9, -⟩ | ⟨h9, -⟩ | ⟨h9, -⟩
    · exact gk_go_iload hl hdg (hK _ _ _ _ _ _ _ hi h2)
    · exact gk_go_iload_n hl hdg (hK _ _ _ _ _ _ _ hi h2)
    all_goals cases h9
  · rename_i x hl
    obtain ⟨h1, h2⟩ := gk_bif hw
    have h3 : kd = 1 := by simpa using h1
    subst h3
    rcases hins with ⟨h9, -⟩ | ⟨-, ⟨rfl, rfl⟩ | ⟨f, rfl, rfl, rfl⟩⟩ | ⟨h9, -⟩ | ⟨h9, -⟩
    · cases h9
    · exact gk_go_lload hl hdg (hK _ _ _ _ _ _ _ hi h2)
    · exact gk_go_lload_n hl hdg (hK _ _ _ _ _ _ _ hi h2)
    all_goals cases h9
  · rename_i x hl
    obtain ⟨h1, h2⟩ := gk_bif hw
    have h3 : kd = 2 := by simpa using h1
    subst h3
    rcases hins with ⟨h9, -⟩ | ⟨h9, -⟩ | ⟨-, ⟨rfl, rfl⟩ | ⟨f, rfl, rfl, rfl⟩⟩ | ⟨h9, -⟩
    · cases h9
    · cases h9
    · exact gk_go_aload hl hdg (hK _ _ _ _ _ _ _ hi h2)
    · exact gk_go_aload_n hl hdg (hK _ _ _ _ _ _ _ hi h2)
    · cases h9
  · rename_i hl
    obtain ⟨h1, h2⟩ := gk_bif hw
    have h3 : kd = 3 := by simpa using h1
    subst h3
    rcases hins with ⟨h9, -⟩ | ⟨h9, -⟩ | ⟨h9, -⟩ | ⟨-, rfl, rfl⟩
    · cases h9
    · cases h9
    · cases h9
    · exact gk_go_aloadN hl hdg (hK _ _ _ _ _ _ _ hi h2)
  · exact absurd hw id
set_option maxHeartbeats 1000000 in
theorem gk_sto_sound {nm : Bool} (hK : gk_KG M E d j cf mc ms Γe Q K) (hi : gk_inv cf mc ms Γe Γ nc ns) {i n kd : Nat} {ins : Instr} (hw : gk_sto nm K nxt n kd L st Γ h nc ns) (hn : nxt = pc + i) (hdg : decode (M j).2.1 pc = .ok (ins, i)) (hins : (kd = 0 ∧ ((ins = .istore n ∧ i = 2) ∨ ∃ f : Fin 4, ins = .istore_n f ∧ f.val = n ∧ i = 1)) ∨ (kd = 1 ∧ ((ins = .lstore n ∧ i = 2) ∨ ∃ f : Fin 4, ins = .lstore_n f ∧ f.val = n ∧ i = 1)) ∨ (kd = 2 ∧ ((ins = .astore n ∧ i = 2) ∨ ∃ f : Fin 4, ins = .astore_n f ∧ f.val = n ∧ i = 1))) : gk_Go M E d j cf mc ms Γe Q pc L st Γ h nc ns := by
  subst hn
  unfold gk_sto at hw
  split at hw
  · obtain ⟨h1, h2⟩ := gk_bif hw
    simp only [Bool.and_eq_true, beq_iff_eq, Nat.blt_eq] at h1
    obtain ⟨rfl, h4⟩ := h1
    have h2 := gk_nm_use h2
    rcases hins with ⟨-, ⟨rfl, rfl⟩ | ⟨f, rfl, rfl, rfl⟩⟩ | ⟨h9, -⟩ | ⟨h9, -⟩
    · exact gk_go_istore h4 hdg (hK _ _ _ _ _ _ _ hi h2)
    · exact gk_go_istore_n h4 hdg (hK _ _ _ _ _ _ _ hi h2)
    all_goals cases h9
  · obtain ⟨h1, h2⟩ := gk_bif hw
    simp only [Bool.and_eq_true, beq_iff_eq, Nat.blt_eq] at h1
    obtain ⟨rfl, h4⟩ := h1
    have h2 := gk_nm_use h2
    rcases hins with ⟨h9, -⟩ | ⟨-, ⟨rfl, rfl⟩ | ⟨f, rfl, rfl, rfl⟩⟩ | ⟨h9, -⟩
    · cases h9
    · exact gk_go_lstore h4 hdg (hK _ _ _ _ _ _ _ hi h2)
    · exact gk_go_lstore_n h4 hdg (hK _ _ _ _ _ _ _ hi h2)
    · cases h9
  · obtain ⟨h1, h2⟩ := gk_bif hw
    simp only [Bool.and_eq_true, beq_iff_eq, Nat.blt_eq] at h1
    obtain ⟨rfl, h4⟩ := h1
    rcases hins with ⟨h9, -⟩ | ⟨h9, -⟩ | ⟨-, ⟨rfl, rfl⟩ | ⟨f, rfl, rfl, rfl⟩⟩
    · cases h9
    · cases h9
    · exact gk_go_astore h4 hdg (hK _ _ _ _ _ _ _ hi h2)
    · exact gk_go_astore_n h4 hdg (hK _ _ _ _ _ _ _ hi h2)
  · exact absurd hw id
def gk_rdi (kd : Nat) : Instr := match kd with
  | 1 => .iaload
  | 2 => .caload
  | 3 => .laload
  | 4 => .aaload
  | _ => .baload
set_option maxHeartbeats 2000000 in
theorem gk_rd_sound (hK : gk_KG M E d j cf mc ms Γe Q K) (hi : gk_inv cf mc ms Γe Γ nc ns) {kd : Nat} (hw : gk_rd E K kd nxt L st Γ h nc ns) (hn : nxt = pc + 1) (hdg : decode (M j).2.1 pc = .ok (gk_rdi kd, 1)) : gk_Go M E d j cf mc ms Γe Q pc L st Γ h nc ns := by
  subst hn
  unfold gk_rd at hw
  split at hw
  · rename_i i k r
    cases hk0 : Nat.beq k 1000000 with
    | true =>
      rw [hk0] at hw
      obtain ⟨h1, h2, h3⟩ := gk_bif hw
      have h4 : kd = 1 := by simpa using h1
      subst h4
      have := Nat.eq_of_beq_eq_true hk0
      subst this
      exact gk_go_sld h2 hdg (hK _ _ _ _ _ _ _ hi h3)
    | false =>
      rw [hk0] at hw
      cases hk1 : Nat.blt 1000002 k with
      | true =>
        rw [hk1] at hw
        obtain ⟨h1, h2, h3⟩ := gk_bif hw
        simp only [Bool.and_eq_true, beq_iff_eq, Nat.blt_eq] at h1 hk1
        obtain ⟨rfl, h4⟩ := h1
        rcases gk_two 1000002 k hk1 (by first | exact h4 | exact h1) with rfl | rfl
        · exact gk_go_bald (i := 0) (by decide) h2 hdg (hK _ _ _ _ _ _ _ hi h3)
        · exact gk_go_bald (i := 1) (by decide) h2 hdg (hK _ _ _ _ _ _ _ hi h3)
      | false =>
        rw [hk1] at hw
        simp only [cond_false] at hw
        split at hw
        · rename_i n rs hg
          obtain ⟨h1, h2, h3⟩ := gk_bif hw
          have h4 : kd = 1 := by simpa using h1
          subst h4
          exact gk_go_iald hg h2 hdg (hK _ _ _ _ _ _ _ hi h3)
        · rename_i n rs hg
          obtain ⟨h1, h2, h3⟩ := gk_bif hw
          have h4 : kd = 2 := by simpa using h1
          subst h4
          exact gk_go_cald hg h2 hdg (hK _ _ _ _ _ _ _ hi h3)
        · rename_i n rs hg
          obtain ⟨h1, h2, h3⟩ := gk_bif hw
          have h4 : kd = 3 := by simpa using h1
          subst h4
          exact gk_go_lald hg h2 hdg (hK _ _ _ _ _ _ _ hi h3)
        · rename_i n rs hg
          obtain ⟨h1, h2, h3⟩ := gk_bif hw
          simp only [Bool.and_eq_true, beq_iff_eq] at h1
          obtain ⟨rfl, h5⟩ := h1
          have h5 := Nat.eq_of_beq_eq_true h5
          refine gk_go_aald hg h2 hdg (hK _ _ _ _ _ _ _ hi ?_)
          have h6 := gk_al_at h3 (Nat.zero_le _) (by rw [Nat.zero_add, h5]; exact Nat.not_le.mp (fun q => h2 (Or.inr q)))
          exact h6
        · exact absurd hw id
  · exact absurd hw id
def gk_wri (kd : Nat) : Instr := match kd with
  | 1 => .iastore
  | 2 => .castore
  | 3 => .lastore
  | _ => .aastore
set_option maxHeartbeats 2000000 in
theorem gk_wr_sound (hK : gk_KG M E d j cf mc ms Γe Q K) (hi : gk_inv cf mc ms Γe Γ nc ns) {kd : Nat} (hw : gk_wr cf K kd nxt L st Γ h nc ns) (hn : nxt = pc + 1) (hdg : decode (M j).2.1 pc = .ok (gk_wri kd, 1)) : gk_Go M E d j cf mc ms Γe Q pc L st Γ h nc ns := by
  subst hn
  unfold gk_wr at hw
  split at hw
  · split at hw
    · rename_i hg
      obtain ⟨h1, h2, h3⟩ := gk_bif hw
      have h4 : kd = 1 := by simpa using h1
      subst h4
      exact gk_go_iast hg h2 hdg (hK _ _ _ _ _ _ _ hi h3)
    · rename_i hg
      obtain ⟨h1, h2, h3⟩ := gk_bif hw
      have h4 : kd = 2 := by simpa using h1
      subst h4
      exact gk_go_cast hg h2 hdg (hK _ _ _ _ _ _ _ hi h3)
    · exact absurd hw id
  · split at hw
    · rename_i hg
      obtain ⟨h1, h2, h3⟩ := gk_bif hw
      have h4 : kd = 3 := by simpa using h1
      subst h4
      exact gk_go_last hg h2 hdg (hK _ _ _ _ _ _ _ hi h3)
    · exact absurd hw id
  · split at hw
    · rename_i hg ha
      obtain ⟨h1, h2, h3⟩ := gk_bif hw
      simp only [Bool.and_eq_true, beq_iff_eq, Nat.blt_eq] at h1
      obtain ⟨⟨rfl, h4⟩, h5⟩ := h1
      exact gk_go_aast hg ha h2 h5 hdg (hK _ _ _ _ _ _ _ ⟨fun h9 => (by rw [h4] at h9; cases h9), hi.2⟩ h3)
    · exact absurd hw id
  · exact absurd hw id
set_option maxHeartbeats 2000000 in
theorem gk_len1_sound (hK : gk_KG M E d j cf mc ms Γe Q K) (hi : gk_inv cf mc ms Γe Γ nc ns) (hw : gk_len1 E K nxt L st Γ h nc ns) (hn : nxt = pc + 1) (hdg : decode (M j).2.1 pc = .ok (.arraylength, 1)) : gk_Go M E d j cf mc ms Γe Q pc L st Γ h nc ns := by
  subst hn
  unfold gk_len1 at hw
  split at hw
  · rename_i k r
    cases hk0 : Nat.beq k 1000000 with
    | true =>
      rw [hk0] at hw
      have := Nat.eq_of_beq_eq_true hk0
      subst this
      exact gk_go_slen hdg (hK _ _ _ _ _ _ _ hi hw)
    | false =>
      rw [hk0] at hw
      cases hk1 : Nat.blt 1000002 k with
      | true =>
        rw [hk1] at hw
        obtain ⟨h1, h3⟩ := gk_bif hw
        simp only [Nat.blt_eq] at h1 hk1
        rcases gk_two 1000002 k hk1 (by first | exact h4 | exact h1) with rfl | rfl
        · exact gk_go_blen (i := 0) (by decide) hdg (hK _ _ _ _ _ _ _ hi h3)
        · exact gk_go_blen (i := 1) (by decide) hdg (hK _ _ _ _ _ _ _ hi h3)
      | false =>
        rw [hk1] at hw
        simp only [cond_false] at hw
        split at hw
        · rename_i hg; exact gk_go_alen hg (Or.inl rfl) hdg (hK _ _ _ _ _ _ _ hi hw)
        · rename_i hg; exact gk_go_alen hg (Or.inr (Or.inl rfl)) hdg (hK _ _ _ _ _ _ _ hi hw)
        · rename_i hg; exact gk_go_alen hg (Or.inr (Or.inr rfl)) hdg (hK _ _ _ _ _ _ _ hi hw)
        · exact absurd hw id
  · exact absurd hw id
set_option maxHeartbeats 2000000 in
theorem gk_gf_sound (hK : gk_KG M E d j cf mc ms Γe Q K) (hi : gk_inv cf mc ms Γe Γ nc ns) {idx : Nat} {e : Nat × Nat × Nat} (hf : gk_fok1 (M j).1.cls (idx, e)) (hw : gk_gf K e nxt L st Γ h nc ns) (hn : nxt = pc + 3) (hdg : decode (M j).2.1 pc = .ok (.getfield idx, 3)) : gk_Go M E d j cf mc ms Γe Q pc L st Γ h nc ns := by
  subst hn
  unfold gk_gf at hw
  obtain ⟨ci, sl, kd⟩ := e
  split at hw
  · rename_i k r
    cases hk0 : Nat.blt 1000000 k with
    | true =>
      rw [hk0] at hw
      obtain ⟨h1, h2⟩ := gk_bif hw
      simp only [Nat.blt_eq] at h1 hk0
      have e1 := gk_two 1000000 k hk0 h1
      cases hk3 : Nat.beq kd 3 with
      | true =>
        rw [hk3] at h2
        have := Nat.eq_of_beq_eq_true hk3
        subst this
        rcases e1 with rfl | rfl
        · exact gk_go_gets (kd := 3) (i := 0) (by decide) (Or.inl ⟨rfl, hf⟩) hdg (hK _ _ _ _ _ _ _ hi h2)
        · exact gk_go_gets (kd := 3) (i := 1) (by decide) (Or.inl ⟨rfl, hf⟩) hdg (hK _ _ _ _ _ _ _ hi h2)
      | false =>
        rw [hk3] at h2
        obtain ⟨h4, h5⟩ := gk_bif h2
        have := Nat.eq_of_beq_eq_true h4
        subst this
        rcases e1 with rfl | rfl
        · exact gk_go_gets (kd := 4) (i := 0) (by decide) (Or.inr ⟨rfl, hf⟩) hdg (hK _ _ _ _ _ _ _ hi h5)
        · exact gk_go_gets (kd := 4) (i := 1) (by decide) (Or.inr ⟨rfl, hf⟩) hdg (hK _ _ _ _ _ _ _ hi h5)
    | false =>
      rw [hk0] at hw
      simp only [cond_false] at hw
      split at hw
      · rename_i ci' rs hg
        obtain ⟨h1, h2⟩ := gk_bif hw
        have := Nat.eq_of_beq_eq_true h1
        subst this
        cases hk3 : (Nat.beq kd 0 || Nat.beq kd 1) with
        | true =>
          rw [hk3] at h2
          simp only [Bool.or_eq_true] at hk3
          have hf2 : gk_fok (M j).1.cls idx ci' sl kd := by
            rcases hk3 with h9 | h9 <;> (have := Nat.eq_of_beq_eq_true h9; subst this; exact hf)
          have hb : (gk_bs ci')[sl]? = some false := by
            obtain ⟨C, T, N, ty, g1, g2, g3, g4, g5, g6⟩ := hf2
            rcases hk3 with h9 | h9 <;> (have := Nat.eq_of_beq_eq_true h9; subst this; exact g6.1)
          exact gk_go_get hf2 hb hg hdg (hK _ _ _ _ _ _ _ hi h2)
        | false =>
          rw [hk3] at h2
          obtain ⟨h4, h5⟩ := gk_bif h2
          simp only [Bool.or_eq_true] at h4
          have hf2 : gk_fok (M j).1.cls idx ci' sl kd := by
            rcases h4 with h9 | h9 <;> (have := Nat.eq_of_beq_eq_true h9; subst this; exact hf)
          have hb : (gk_bs ci')[sl]? = some true := by
            obtain ⟨C, T, N, ty, g1, g2, g3, g4, g5, g6⟩ := hf2
            rcases h4 with h9 | h9
            · have := Nat.eq_of_beq_eq_true h9; subst this; exact g6
            · have := Nat.eq_of_beq_eq_true h9; subst this; exact g6.1
          exact gk_go_get hf2 hb hg hdg (hK _ _ _ _ _ _ _ hi h5)
      · exact absurd hw id
  · exact absurd hw id
set_option maxHeartbeats 2000000 in
theorem gk_pf_sound (hK : gk_KG M E d j cf mc ms Γe Q K) (hi : gk_inv cf mc ms Γe Γ nc ns) {idx : Nat} {e : Nat × Nat × Nat} (hf : gk_fok1 (M j).1.cls (idx, e)) (hw : gk_pf cf K e nxt L st Γ h nc ns) (hn : nxt = pc + 3) (hdg : decode (M j).2.1 pc = .ok (.putfield idx, 3)) : gk_Go M E d j cf mc ms Γe Q pc L st Γ h nc ns := by
  subst hn
  unfold gk_pf at hw
  obtain ⟨ci, sl, kd⟩ := e
  split at hw
  · split at hw
    · rename_i ci' rs hg
      obtain ⟨h1, h2⟩ := gk_bif hw
      have := Nat.eq_of_beq_eq_true h1
      subst this
      cases hk3 : Nat.beq kd 0 with
      | true =>
        rw [hk3] at h2
        have := Nat.eq_of_beq_eq_true hk3
        subst this
        exact gk_go_puti (kd := 0) hf (Or.inl rfl) hg hdg (hK _ _ _ _ _ _ _ hi h2)
      | false =>
        rw [hk3] at h2
        obtain ⟨h4, h5, h6⟩ := gk_bif h2
        have := Nat.eq_of_beq_eq_true h4
        subst this
        exact gk_go_puti (kd := 1) hf (Or.inr ⟨rfl, h5⟩) hg hdg (hK _ _ _ _ _ _ _ hi h6)
    · exact absurd hw id
  · split at hw
    · rename_i a k r x ci' rs hg
      obtain ⟨h1, h2⟩ := gk_bif hw
      simp only [Bool.and_eq_true, Nat.blt_eq] at h1
      obtain ⟨g1, g2, g3, g4⟩ := h1
      have := Nat.eq_of_beq_eq_true g1
      subst this
      have := Nat.eq_of_beq_eq_true g2
      subst this
      exact gk_go_putr (a := some a) g3 hf rfl hg g4 hdg (hK _ _ _ _ _ _ _ ⟨fun h9 => (by rw [g3] at h9; cases h9), hi.2⟩ h2)
    · exact absurd hw id
  · split at hw
    · rename_i k r x ci' rs hg
      obtain ⟨h1, h2⟩ := gk_bif hw
      simp only [Bool.and_eq_true, Nat.blt_eq] at h1
      obtain ⟨g1, g2, g3, g4⟩ := h1
      have := Nat.eq_of_beq_eq_true g1
      subst this
      have := Nat.eq_of_beq_eq_true g2
      subst this
      exact gk_go_putr (a := none) g3 hf rfl hg g4 hdg (hK _ _ _ _ _ _ _ ⟨fun h9 => (by rw [g3] at h9; cases h9), hi.2⟩ h2)
    · exact absurd hw id
  · exact absurd hw id
end GKS
