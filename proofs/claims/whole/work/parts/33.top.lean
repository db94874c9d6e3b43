/-! THE LAW's start: what the judgement needs of the machine at the law's entry -/
abbrev gk_fl : List Cond := flatC (Jvm.Cond.and given_1 narrow_1)
def gk_tm (i : Nat) : Term := bif i == 0 then .string "DryPlaces$Tape" 57 else .string "DryPlaces$Tape" 49
set_option maxRecDepth 100000 in
theorem gk_fl1 : ∀ i, i < 2 → Cond.exactly (gk_tm i) "java/lang/String" ∈ gk_fl ∧ Cond.eq (.field (gk_tm i) "java/lang/String" "coder" "B") (.int 0) ∈ gk_fl ∧ Cond.arrayOf (.field (gk_tm i) "java/lang/String" "value" "[B") .byte ∈ gk_fl ∧ Cond.eq (.length (.field (gk_tm i) "java/lang/String" "value" "[B")) (.int (Int32.ofNat (gk_len.getD i 0))) ∈ gk_fl := by decide +kernel
set_option maxRecDepth 100000 in
theorem gk_fl2 : ∀ i, i < 2 → ∀ j, j < gk_len.getD i 0 → Cond.eq (.elem (.field (gk_tm i) "java/lang/String" "value" "[B") (.int (Int32.ofNat j))) (.int ((gk_byt.getD i []).getD j 0)) ∈ gk_fl := by decide +kernel
set_option maxRecDepth 100000 in
theorem gk_fl3 : ∀ i, i < 2 → ∀ j, j < 2 → i ≠ j → Cond.not (Cond.eq (gk_tm i) (gk_tm j)) ∈ gk_fl ∨ Cond.not (Cond.eq (gk_tm j) (gk_tm i)) ∈ gk_fl := by decide +kernel
set_option maxRecDepth 100000 in
theorem gk_fl4 : Cond.eq (.static "java/lang/String" "COMPACT_STRINGS" "Z") (.int 1) ∈ gk_fl ∧ Cond.isRef (.static "jdk/internal/util/Preconditions" "SIOOBE_FORMATTER" "Ljava/util/function/BiFunction;") ∈ gk_fl := by decide +kernel
set_option maxRecDepth 100000 in
theorem gk_tb1 : Cond.stringRef "DryPlaces$Tape" 57 gk_tx0 ∈ lw_tbl ∧ Cond.stringRef "DryPlaces$Tape" 49 gk_tx1 ∈ lw_tbl ∧ Cond.laysStatic "java/lang/String" "COMPACT_STRINGS" "Z" ∈ lw_tbl ∧ Cond.initialized "java/lang/String" ∈ lw_tbl ∧ Cond.laysStatic "jdk/internal/util/Preconditions" "SIOOBE_FORMATTER" "Ljava/util/function/BiFunction;" ∈ lw_tbl ∧ Cond.initialized "jdk/internal/util/Preconditions" ∈ lw_tbl ∧ Cond.arrayOver (.object "DryPlaces$World") ∈ lw_tbl := by decide +kernel
set_option maxRecDepth 100000 in
theorem gk_tb2 : ∀ w ∈ gk_nest, w ∈ lw_tbl := by decide +kernel
set_option maxRecDepth 100000 in
theorem gk_tb3 : ∀ k, k < 11 → ∀ q, vwCl[k]? = some q → Cond.instantiable q.1 q.2.2 ∈ lw_tbl := by
  intro k hk q hq
  match k, hq with
  | 0, hq => cases hq; decide +kernel
  | 1, hq => cases hq; decide +kernel
  | 2, hq => cases hq; decide +kernel
  | 3, hq => cases hq; decide +kernel
  | 4, hq => cases hq; decide +kernel
  | 5, hq => cases hq; decide +kernel
  | 6, hq => cases hq; decide +kernel
  | 7, hq => cases hq; decide +kernel
  | 8, hq => cases hq; decide +kernel
  | 9, hq => cases hq; decide +kernel
  | 10, hq => cases hq; decide +kernel
  | k + 11, hq => simp [vwCl] at hq
theorem gk_arr {s : State} {args : Array Value} {ty : FieldType} (hp : refKind ty = false) (h : (Cond.arrayClass ty).before args s = true) : ∃ cA : ClassId, ArrOfT s cA ty ∧ va_RA s cA ty := by
  obtain ⟨cA, kA, comp, h1, h2, h3⟩ := Cond.arrayClass_spec h
  refine ⟨cA, fun n z => ⟨fun k h => (by cases h), kA, h2, comp, h3⟩, ?_⟩
  cases ty <;> first | (cases hp; done) | exact h1
theorem gk_arrO {s : State} {args : Array Value} (h : (Cond.arrayOver (.object "DryPlaces$World")).before args s = true) : ∃ cA : ClassId, ArrOfT s cA (.object "DryPlaces$World") ∧ va_RA s cA (.object "DryPlaces$World") := by
  obtain ⟨comp, cA, kA, h1, h2, h3, h4, h5⟩ := Cond.arrayOver_spec h
  exact ⟨cA, fun n z => ⟨fun k h => (by cases h), kA, h3, comp, h4⟩, kA, comp, h3, h4, h1, h5⟩
