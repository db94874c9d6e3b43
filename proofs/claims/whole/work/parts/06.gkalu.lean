/-! constants as numerals -/
def gk_lit (n : Int) : Int32 := match n with
  | .ofNat k => OfNat.ofNat k
  | .negSucc k => -(OfNat.ofNat (k + 1))
theorem gk_lit_eq (n : Int) : Int32.ofInt n = gk_lit n := by
  cases n with
  | ofNat k => exact Int32.ofInt_eq_ofNat
  | negSucc k =>
    show Int32.ofInt (Int.negSucc k) = -(Int32.ofNat (k + 1))
    rw [Int32.neg_ofNat]; rfl
def gk_i8 (n : Int) : Bool := decide (-128 ≤ n) && decide (n ≤ 127)
def gk_i16 (n : Int) : Bool := decide (-32768 ≤ n) && decide (n ≤ 32767)
theorem gk_lit8 {n : Int} (h : gk_i8 n = true) : (Int8.ofInt n).toInt32 = gk_lit n := by
  simp only [gk_i8, Bool.and_eq_true, decide_eq_true_eq] at h
  rw [Int8.toInt32_ofInt (by exact h.1) (by exact h.2)]
  exact gk_lit_eq n
theorem gk_lit16 {n : Int} (h : gk_i16 n = true) : (Int16.ofInt n).toInt32 = gk_lit n := by
  simp only [gk_i16, Bool.and_eq_true, decide_eq_true_eq] at h
  rw [Int16.toInt32_ofInt (by exact h.1) (by exact h.2)]
  exact gk_lit_eq n
def gk_l01 (n : Fin 2) : Int64 := bif n.val == 0 then 0 else 1
theorem gk_l01_eq (n : Fin 2) : Int64.ofNat (n : Nat) = gk_l01 n := by
  match n with
  | ⟨0, _⟩ => rfl
  | ⟨1, _⟩ => rfl
/-- what stays on the stack: no side conditions -/
def gk_alu (i : Instr) (st : List Value) : Option (List Value) := match i with
  | .iconst n => some (.int (gk_lit n) :: st)
  | .bipush n => bif gk_i8 n then some (.int (gk_lit n) :: st) else none
  | .sipush n => bif gk_i16 n then some (.int (gk_lit n) :: st) else none
  | .lconst n => some (.long (gk_l01 n) :: st)
  | .aconst_null => some (.null :: st)
  | .iadd => match st with | .int y :: .int x :: r => some (.int (x + y) :: r) | _ => none
  | .isub => match st with | .int y :: .int x :: r => some (.int (x - y) :: r) | _ => none
  | .imul => match st with | .int y :: .int x :: r => some (.int (x * y) :: r) | _ => none
  | .iand => match st with | .int y :: .int x :: r => some (.int (x &&& y) :: r) | _ => none
  | .ior => match st with | .int y :: .int x :: r => some (.int (x ||| y) :: r) | _ => none
  | .ixor => match st with | .int y :: .int x :: r => some (.int (x ^^^ y) :: r) | _ => none
  | .ineg => match st with | .int x :: r => some (.int (-x) :: r) | _ => none
  | .ishl => match st with | .int y :: .int x :: r => some (.int (x <<< (y &&& 31)) :: r) | _ => none
  | .ishr => match st with | .int y :: .int x :: r => some (.int (x >>> (y &&& 31)) :: r) | _ => none
  | .iushr => match st with | .int y :: .int x :: r => some (.int (x.toUInt32 >>> (y.toUInt32 &&& Int32.toUInt32 31)).toInt32 :: r) | _ => none
  | .ladd => match st with | .long y :: .long x :: r => some (.long (x + y) :: r) | _ => none
  | .lsub => match st with | .long y :: .long x :: r => some (.long (x - y) :: r) | _ => none
  | .lmul => match st with | .long y :: .long x :: r => some (.long (x * y) :: r) | _ => none
  | .land => match st with | .long y :: .long x :: r => some (.long (x &&& y) :: r) | _ => none
  | .lor => match st with | .long y :: .long x :: r => some (.long (x ||| y) :: r) | _ => none
  | .lxor => match st with | .long y :: .long x :: r => some (.long (x ^^^ y) :: r) | _ => none
  | .lneg => match st with | .long x :: r => some (.long (-x) :: r) | _ => none
  | .lshl => match st with | .int y :: .long x :: r => some (.long (x <<< (y.toInt64 &&& 63)) :: r) | _ => none
  | .lushr => match st with | .int y :: .long x :: r => some (.long (x.toUInt64 >>> (y.toInt64.toUInt64 &&& Int64.toUInt64 63)).toInt64 :: r) | _ => none
  | .lcmp => match st with | .long y :: .long x :: r => some (.int (lg_cmp x y) :: r) | _ => none
  | .i2l => match st with | .int x :: r => some (.long x.toInt64 :: r) | _ => none
  | .l2i => match st with | .long x :: r => some (.int x.toInt32 :: r) | _ => none
  | .i2c => match st with | .int x :: r => some (.int (x.toUInt32 % 65536).toInt32 :: r) | _ => none
  | .i2b => match st with | .int x :: r => some (.int x.toInt8.toInt32 :: r) | _ => none
  | .dup => match st with | .int x :: r => some (.int x :: .int x :: r) | .ref x :: r => some (.ref x :: .ref x :: r) | _ => none
  | .dup2 => match st with | .int x :: .int y :: r => some (.int x :: .int y :: .int x :: .int y :: r) | .int x :: .ref y :: r => some (.int x :: .ref y :: .int x :: .ref y :: r) | .long x :: r => some (.long x :: .long x :: r) | _ => none
  | .pop => match st with | .int _ :: r => some r | .ref _ :: r => some r | .null :: r => some r | _ => none
  | _ => none
/-- an instruction's length -/
def gk_ln (i : Instr) : Nat := match i with
  | .bipush _ | .ldc _ | .iload _ | .lload _ | .aload _ | .istore _ | .lstore _ | .astore _ | .newarray _ => 2
  | .sipush _ | .ldc_w _ | .ldc2_w _ | .iinc _ _ | .ifCond _ _ | .if_icmp _ _ | .goto _ | .ifnull _ | .ifnonnull _ | .getfield _ | .putfield _ | .getstatic _ | .invokevirtual _ | .invokestatic _ | .invokespecial _ | .new _ | .anewarray _ => 3
  | _ => 1
section GKA
variable {p : Program} {l : Launch} {e : Env} {R : Room} {s : State} {m : MethodId} {args : Array Value} {below : List Frame} {meth : Method} {c : Code} {H : Heap} {locs : List Loc} {cells slots : Nat} {Q : State → Prop} {cc : ByteArray} {pc : Nat} {ls : Array Slot} {ad : Nat → Nat}
set_option maxHeartbeats 4000000 in
theorem gk_alu_row {i : Instr} {st st' : List Value} (hx : p.tables.exec = Jvm.exec) (hb : c.code = cc) (hdg : decode cc pc = .ok (i, gk_ln i)) (h : gk_alu i st = some st')
    (k : W p l e R s m args below meth c H locs cells slots Q (F0 m (pc + gk_ln i) ls (st'.map (gk_v ad)))) : W p l e R s m args below meth c H locs cells slots Q (F0 m pc ls (st.map (gk_v ad))) := by
  cases i <;> first | (simp only [gk_alu, reduceCtorEq] at h; done) | skip
  case iconst n => cases h; exact lv_iconst hx hb hdg (gk_lit_eq n) k
  case bipush n =>
    simp only [gk_alu] at h
    cases hg : gk_i8 n with
    | false => rw [hg] at h; cases h
    | true => rw [hg] at h; cases h; exact lv_bipush hx hb hdg (gk_lit8 hg) k
  case sipush n =>
    simp only [gk_alu] at h
    cases hg : gk_i16 n with
    | false => rw [hg] at h; cases h
    | true => rw [hg] at h; cases h; exact lv_sipush hx hb hdg (gk_lit16 hg) k
  case lconst n => cases h; exact lv_lconst hx hb hdg (gk_l01_eq n) k
  case aconst_null => cases h; exact lv_null hx hb hdg k
  case iadd => match st, h with | .int y :: .int x :: r, h => cases h; exact lv_iadd hx hb hdg k
  case isub => match st, h with | .int y :: .int x :: r, h => cases h; exact lv_isub hx hb hdg k
  case imul => match st, h with | .int y :: .int x :: r, h => cases h; exact lv_imul hx hb hdg k
  case iand => match st, h with | .int y :: .int x :: r, h => cases h; exact lv_iand hx hb hdg k
  case ior => match st, h with | .int y :: .int x :: r, h => cases h; exact lv_ior hx hb hdg k
  case ixor => match st, h with | .int y :: .int x :: r, h => cases h; exact lv_ixor hx hb hdg k
  case ineg => match st, h with | .int x :: r, h => cases h; exact lv_ineg hx hb hdg k
  case ishl => match st, h with | .int y :: .int x :: r, h => cases h; exact lv_ishl hx hb hdg k
  case ishr => match st, h with | .int y :: .int x :: r, h => cases h; exact lv_ishr hx hb hdg k
  case iushr => match st, h with | .int y :: .int x :: r, h => cases h; exact lv_iushr hx hb hdg rfl k
  case ladd => match st, h with | .long y :: .long x :: r, h => cases h; exact lv_ladd hx hb hdg k
  case lsub => match st, h with | .long y :: .long x :: r, h => cases h; exact lv_lsub hx hb hdg k
  case lmul => match st, h with | .long y :: .long x :: r, h => cases h; exact lv_lmul hx hb hdg k
  case land => match st, h with | .long y :: .long x :: r, h => cases h; exact lv_land hx hb hdg k
  case lor => match st, h with | .long y :: .long x :: r, h => cases h; exact lv_lor hx hb hdg k
  case lxor => match st, h with | .long y :: .long x :: r, h => cases h; exact lv_lxor hx hb hdg k
  case lneg => match st, h with | .long x :: r, h => cases h; exact lv_lneg hx hb hdg k
  case lshl => match st, h with | .int y :: .long x :: r, h => cases h; exact lv_lshl hx hb hdg rfl k
  case lushr => match st, h with | .int y :: .long x :: r, h => cases h; exact lv_lushr hx hb hdg rfl k
  case lcmp => match st, h with | .long y :: .long x :: r, h => cases h; exact W.lcmp hx hb hdg k
  case i2l => match st, h with | .int x :: r, h => cases h; exact lv_i2l hx hb hdg rfl k
  case l2i => match st, h with | .long x :: r, h => cases h; exact lv_l2i hx hb hdg rfl k
  case i2c => match st, h with | .int x :: r, h => cases h; exact lv_i2c hx hb hdg rfl k
  case i2b => match st, h with | .int x :: r, h => cases h; exact lv_i2b hx hb hdg rfl k
  case dup => match st, h with
    | .int x :: r, h => cases h; exact lv_dup hx hb hdg rfl k
    | .ref x :: r, h => cases h; exact lv_dup hx hb hdg rfl k
  case dup2 => match st, h with
    | .int x :: .int y :: r, h => cases h; exact lv_dup2_11 hx hb hdg rfl rfl k
    | .int x :: .ref y :: r, h => cases h; exact lv_dup2_11 hx hb hdg rfl rfl k
    | .long x :: r, h => cases h; exact lv_dup2_2 hx hb hdg rfl k
  case pop => match st, h with
    | .int x :: r, h => cases h; exact lv_pop hx hb (va := .int x) hdg rfl k
    | .ref x :: r, h => cases h; exact lv_pop hx hb (va := .ref (ad x)) hdg rfl k
    | .null :: r, h => cases h; exact lv_pop hx hb (va := .null) hdg rfl k
end GKA
