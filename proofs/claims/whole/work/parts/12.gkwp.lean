/-! the walk as a function: what must hold for a method's body to come to its end with Q -/
def gk_lk {α : Type} : List (Nat × α) → Nat → Option α
  | [], _ => none
  | q :: r, k => bif Nat.beq q.1 k then some q.2 else gk_lk r k
theorem gk_lk_mem {α : Type} : ∀ {t : List (Nat × α)} {k : Nat} {v : α}, gk_lk t k = some v → (k, v) ∈ t := by
  intro t
  induction t with
  | nil => intro k v h; cases h
  | cons q r ih =>
    intro k v h
    rw [gk_lk] at h
    cases hq : Nat.beq q.1 k with
    | true =>
      rw [hq] at h
      have := Nat.eq_of_beq_eq_true hq
      cases h
      rw [← this]
      exact List.mem_cons_self
    | false => rw [hq] at h; exact List.mem_cons_of_mem _ (ih h)
/-- a method's table: pc, instruction, next pc, target -/
abbrev gk_T : Type := List (Nat × Instr × Nat × Nat)
/-- a pool: fields (idx, ci, slot, kd), calls (idx, kd, j', ci, n, answer 0 none 1 int 2 long, cells, slots), ints, longs, classes -/
abbrev gk_P : Type := List (Nat × Nat × Nat × Nat) × List (Nat × Nat × Nat × Nat × Nat × Nat × Nat × Nat) × List (Nat × Int32) × List (Nat × Int64) × List (Nat × Nat)
/-- a method's own: answer's kind (0 none, 1 int, 2 long, 3 boolean, 4 char, 5 byte), switches, cells behind its makings' calls -/
abbrev gk_O : Type := Nat × List (Nat × List (Int32 × Nat) × Nat) × List (Nat × gk_G)
def gk_rt (rk : Nat) : Option FieldType := match rk with
  | 0 => none
  | 1 => some .int
  | 2 => some .long
  | 3 => some .boolean
  | 4 => some .char
  | _ => some .byte
/-- the callee's contract, one frame deeper -/
def gk_call (M : Nat → gk_J) (E : gk_E) (d j : Nat) (av : List Value) (Γ Γ1 : gk_G) (h : gk_H) (mc ms : Nat) (K : Option Value → gk_H → Prop) : Prop := ∃ d', d' + 1 = d ∧ gk_Con M E d' j av Γ Γ1 h mc ms K
def gk_tk : Nat → List Value → List Value → Option (List Value × List Value)
  | 0, acc, st => some (acc, st)
  | n + 1, acc, v :: st => gk_tk n (v :: acc) st
  | _ + 1, _, [] => none
theorem gk_tk_eq : ∀ {n : Nat} {acc st av rest : List Value}, gk_tk n acc st = some (av, rest) → ∃ bv, av = bv ++ acc ∧ bv.length = n ∧ st = bv.reverse ++ rest := by
  intro n
  induction n with
  | zero => intro acc st av rest h; cases h; exact ⟨[], rfl, rfl, rfl⟩
  | succ n ih =>
    intro acc st av rest h
    cases st with
    | nil => cases h
    | cons v st =>
      obtain ⟨bv, h1, h2, h3⟩ := ih (acc := v :: acc) h
      refine ⟨bv ++ [v], by rw [h1]; simp, by simp [h2], ?_⟩
      rw [h3]; simp
def gk_cs (st : List Value) : Nat := (st.map fun v => v.category).sum
def gk_al (i : Nat) (K : Option Nat → Prop) : Nat → List (Option Nat) → Prop
  | _, [] => True
  | q, a :: r => (i = q → K a) ∧ gk_al i K (q + 1) r
theorem gk_al_at {i : Nat} {K : Option Nat → Prop} : ∀ {rs : List (Option Nat)} {q : Nat}, gk_al i K q rs → q ≤ i → i < q + rs.length → K (rs.getD (i - q) none) := by
  intro rs
  induction rs with
  | nil => intro q _ h1 h2; simp at h2; omega
  | cons a r ih =>
    intro q h h1 h2
    by_cases e : i = q
    · subst e
      rw [Nat.sub_self]; exact h.1 rfl
    · have h3 := ih h.2 (by omega) (by simp at h2; omega)
      rw [show i - q = i - (q + 1) + 1 by omega]
      exact h3
/-- what is asked of an answer: none, an int, a long -/
def gk_qv (K : gk_H → Prop) : Option Value → gk_H → Prop := fun v h1 => match v with
  | none => K h1
  | some _ => False
def gk_qi (K : Int32 → gk_H → Prop) : Option Value → gk_H → Prop := fun v h1 => match v with
  | some (.int x) => K x h1
  | _ => False
def gk_ql (K : Int64 → gk_H → Prop) : Option Value → gk_H → Prop := fun v h1 => match v with
  | some (.long x) => K x h1
  | _ => False
/-- a number gets a name -/
def gk_nm {α : Type} (b : Bool) (x : α) (F : α → Prop) : Prop := bif b then (∀ y, y = x → F y) else F x
theorem gk_nm_use {α : Type} {b : Bool} {x : α} {F : α → Prop} (h : gk_nm b x F) : F x := by
  cases b with
  | true => exact h x rfl
  | false => exact h
section GKW
variable (nm : Bool) (M : Nat → gk_J) (E : gk_E) (d j : Nat) (cf : Bool) (mc ms : Nat) (Γe : gk_G) (Q : Option Value → gk_H → Prop) (P : gk_P) (O : gk_O) (K : Nat → gk_L → List Value → gk_G → gk_H → Nat → Nat → Prop)
def gk_ld (nxt i kd : Nat) (L : gk_L) (st : List Value) (Γ : gk_G) (h : gk_H) (nc ns : Nat) : Prop := match L[i]? with
  | some (some (.int x)) => bif kd == 0 then K nxt L (.int x :: st) Γ h nc ns else False
  | some (some (.long x)) => bif kd == 1 then K nxt L (.long x :: st) Γ h nc ns else False
  | some (some (.ref x)) => bif kd == 2 then K nxt L (.ref x :: st) Γ h nc ns else False
  | some (some .null) => bif kd == 3 then K nxt L (.null :: st) Γ h nc ns else False
  | _ => False
def gk_sto (nxt i kd : Nat) (L : gk_L) (st : List Value) (Γ : gk_G) (h : gk_H) (nc ns : Nat) : Prop := match st with
  | .int x :: r => bif kd == 0 && Nat.blt i L.length then gk_nm nm x (fun y => K nxt (gk_s1 L i (.int y)) r Γ h nc ns) else False
  | .long x :: r => bif kd == 1 && Nat.blt (i + 1) L.length then gk_nm nm x (fun y => K nxt (gk_s2 L i (.long y)) r Γ h nc ns) else False
  | .ref x :: r => bif kd == 2 && Nat.blt i L.length then K nxt (gk_s1 L i (.ref x)) r Γ h nc ns else False
  | _ => False
def gk_rd (kd : Nat) (nxt : Nat) (L : gk_L) (st : List Value) (Γ : gk_G) (h : gk_H) (nc ns : Nat) : Prop := match st with
  | .int i :: .ref k :: r => bif Nat.beq k 1000000 then (bif kd == 1 then vp_in i E.1.1 ∧ K nxt L (.int (E.2 i.toNatClampNeg) :: r) Γ h nc ns else False) else bif Nat.blt 1000002 k then (bif kd == 5 && Nat.blt k 1000005 then vp_in i (gk_len.getD (k - 1000003) 0) ∧ K nxt L (.int ((gk_byt.getD (k - 1000003) []).getD i.toNatClampNeg 0) :: r) Γ h nc ns else False) else match Γ[k]? with
    | some (1, n, _) => bif kd == 1 then vp_in i n ∧ K nxt L (.int (h.2.1 k i.toNatClampNeg) :: r) Γ h nc ns else False
    | some (2, n, _) => bif kd == 2 then vp_in i n ∧ K nxt L (.int (h.2.1 k i.toNatClampNeg) :: r) Γ h nc ns else False
    | some (3, n, _) => bif kd == 3 then vp_in i n ∧ K nxt L (.long (h.2.2 k i.toNatClampNeg) :: r) Γ h nc ns else False
    | some (4, n, rs) => bif kd == 4 && Nat.beq rs.length n then vp_in i n ∧ gk_al i.toNatClampNeg (fun a => K nxt L (va_rf a :: r) Γ h nc ns) 0 rs else False
    | _ => False
  | _ => False
def gk_wr (kd : Nat) (nxt : Nat) (L : gk_L) (st : List Value) (Γ : gk_G) (h : gk_H) (nc ns : Nat) : Prop := match st with
  | .int x :: .int i :: .ref k :: r => match Γ[k]? with
    | some (1, n, _) => bif kd == 1 then vp_in i n ∧ K nxt L r Γ (gk_ha h k i.toNatClampNeg x) nc ns else False
    | some (2, n, _) => bif kd == 2 then vp_in i n ∧ K nxt L r Γ (gk_ha h k i.toNatClampNeg (vp_nar .char x)) nc ns else False
    | _ => False
  | .long x :: .int i :: .ref k :: r => match Γ[k]? with
    | some (3, n, _) => bif kd == 3 then vp_in i n ∧ K nxt L r Γ (gk_hl h k i.toNatClampNeg x) nc ns else False
    | _ => False
  | .ref a :: .int i :: .ref k :: r => match Γ[k]?, Γ[a]? with
    | some (4, n, rs), some (0, 8, _) => bif kd == 4 && cf && Nat.blt i.toNatClampNeg rs.length then vp_in i n ∧ K nxt L r (Γ.set k (4, n, rs.set i.toNatClampNeg (some a))) h nc ns else False
    | _, _ => False
  | _ => False
def gk_len1 (nxt : Nat) (L : gk_L) (st : List Value) (Γ : gk_G) (h : gk_H) (nc ns : Nat) : Prop := match st with
  | .ref k :: r => bif Nat.beq k 1000000 then K nxt L (.int (Int32.ofNat E.1.1) :: r) Γ h nc ns else bif Nat.blt 1000002 k then (bif Nat.blt k 1000005 then K nxt L (.int (OfNat.ofNat (gk_len.getD (k - 1000003) 0)) :: r) Γ h nc ns else False) else match Γ[k]? with
    | some (1, n, _) => K nxt L (.int (OfNat.ofNat n) :: r) Γ h nc ns
    | some (2, n, _) => K nxt L (.int (OfNat.ofNat n) :: r) Γ h nc ns
    | some (3, n, _) => K nxt L (.int (OfNat.ofNat n) :: r) Γ h nc ns
    | _ => False
  | _ => False
def gk_gf (e : Nat × Nat × Nat) (nxt : Nat) (L : gk_L) (st : List Value) (Γ : gk_G) (h : gk_H) (nc ns : Nat) : Prop := match st with
  | .ref k :: r => bif Nat.blt 1000000 k then (bif Nat.blt k 1000003 then (bif Nat.beq e.2.2 3 then K nxt L (.ref (k + 2) :: r) Γ h nc ns else bif Nat.beq e.2.2 4 then K nxt L (.int 0 :: r) Γ h nc ns else False) else False) else match Γ[k]? with
    | some (0, ci, rs) => bif Nat.beq ci e.1 then (bif Nat.beq e.2.2 0 || Nat.beq e.2.2 1 then K nxt L (.int (h.1 k e.2.1) :: r) Γ h nc ns else bif Nat.beq e.2.2 2 || Nat.beq e.2.2 5 then K nxt L (va_rf (rs.getD e.2.1 none) :: r) Γ h nc ns else False) else False
    | _ => False
  | _ => False
def gk_pf (e : Nat × Nat × Nat) (nxt : Nat) (L : gk_L) (st : List Value) (Γ : gk_G) (h : gk_H) (nc ns : Nat) : Prop := match st with
  | .int x :: .ref k :: r => match Γ[k]? with
    | some (0, ci, _) => bif Nat.beq ci e.1 then (bif Nat.beq e.2.2 0 then K nxt L r Γ (gk_hf h k e.2.1 x) nc ns else bif Nat.beq e.2.2 1 then (x = 0 ∨ x = 1) ∧ K nxt L r Γ (gk_hf h k e.2.1 x) nc ns else False) else False
    | _ => False
  | .ref a :: .ref k :: r => match Γ[k]? with
    | some (0, ci, rs) => bif Nat.beq ci e.1 && (Nat.beq e.2.2 5 && (cf && Nat.blt e.2.1 rs.length)) then K nxt L r (Γ.set k (0, ci, rs.set e.2.1 (some a))) h nc ns else False
    | _ => False
  | .null :: .ref k :: r => match Γ[k]? with
    | some (0, ci, rs) => bif Nat.beq ci e.1 && (Nat.beq e.2.2 5 && (cf && Nat.blt e.2.1 rs.length)) then K nxt L r (Γ.set k (0, ci, rs.set e.2.1 none)) h nc ns else False
    | _ => False
  | _ => False
/-- behind a call -/
def gk_bk (rk : Nat) (nxt : Nat) (L : gk_L) (r : List Value) (Γ1 : gk_G) (nc ns : Nat) : Option Value → gk_H → Prop := match rk with
  | 0 => gk_qv (fun h1 => K nxt L r Γ1 h1 nc ns)
  | 1 => gk_qi (fun x h1 => K nxt L (.int x :: r) Γ1 h1 nc ns)
  | _ => gk_ql (fun x h1 => K nxt L (.long x :: r) Γ1 h1 nc ns)
def gk_cl (e : Nat × Nat × Nat × Nat × Nat × Nat × Nat) (pc nxt : Nat) (av : List Value) (L : gk_L) (r : List Value) (Γ : gk_G) (h : gk_H) (nc ns : Nat) : Prop :=
  bif Nat.ble (gk_cs r) 8 then (match cf with
    | false => gk_call M E d e.2.1 av Γ Γ h 0 0 (gk_bk K e.2.2.2.2.1 nxt L r Γ nc ns)
    | true => match gk_lk O.2.2 pc with
      | none => gk_call M E d e.2.1 av Γ Γ h 0 0 (gk_bk K e.2.2.2.2.1 nxt L r Γ nc ns)
      | some Γ1 => (Γ1.length = Γ.length + e.2.2.2.2.2.1 ∧ nc + e.2.2.2.2.2.1 ≤ mc ∧ ns + e.2.2.2.2.2.2 ≤ ms) ∧ gk_call M E d e.2.1 av Γ Γ1 h e.2.2.2.2.2.1 e.2.2.2.2.2.2 (gk_bk K e.2.2.2.2.1 nxt L r Γ1 (nc + e.2.2.2.2.2.1) (ns + e.2.2.2.2.2.2))) else False
def gk_in (i : Instr) (e : Nat × Nat × Nat × Nat × Nat × Nat × Nat) (pc nxt : Nat) (L : gk_L) (st : List Value) (Γ : gk_G) (h : gk_H) (nc ns : Nat) : Prop := match i with
  | .invokevirtual _ => match gk_tk e.2.2.2.1 [] st with
    | some (av, .ref k :: r) => bif Nat.beq e.1 0 then (match Γ[k]? with
      | some (0, ci, _) => bif Nat.beq ci e.2.2.1 then gk_cl M E d cf mc ms O K e pc nxt (.ref k :: av) L r Γ h nc ns else False
      | _ => False) else bif Nat.beq e.1 7 && (Nat.beq k 1000001 || Nat.beq k 1000002) then gk_cl M E d cf mc ms O K e pc nxt (.ref k :: av) L r Γ h nc ns else False
    | _ => False
  | .invokestatic _ => bif Nat.beq e.1 4 then (match st with
      | .int n :: .int dp :: .ref k :: .int sp :: .ref k0 :: r => bif Nat.ble (gk_cs r) 8 then (match Γ[k0]?, Γ[k]? with
        | some (1, n0, _), some (1, n1, _) => (1 ≤ d ∧ ¬ sp < 0 ∧ ¬ dp < 0 ∧ ¬ n < 0 ∧ sp.toNatClampNeg + n.toNatClampNeg ≤ n0 ∧ dp.toNatClampNeg + n.toNatClampNeg ≤ n1) ∧ K nxt L r Γ (gk_hc h k k0 sp.toNatClampNeg dp.toNatClampNeg n.toNatClampNeg) nc ns
        | some (3, n0, _), some (3, n1, _) => (1 ≤ d ∧ ¬ sp < 0 ∧ ¬ dp < 0 ∧ ¬ n < 0 ∧ sp.toNatClampNeg + n.toNatClampNeg ≤ n0 ∧ dp.toNatClampNeg + n.toNatClampNeg ≤ n1) ∧ K nxt L r Γ (gk_hcl h k k0 sp.toNatClampNeg dp.toNatClampNeg n.toNatClampNeg) nc ns
        | _, _ => False) else False
      | _ => False) else bif Nat.beq e.1 8 then (match st with
      | .int y :: .int x :: r => bif Nat.ble (gk_cs r) 8 then 1 ≤ d ∧ K nxt L (.int (if x < y then y else x) :: r) Γ h nc ns else False
      | _ => False) else bif Nat.beq e.1 9 then (match st with
      | .int y :: .int x :: r => bif Nat.ble (gk_cs r) 8 then 1 ≤ d ∧ K nxt L (.int (if y < x then y else x) :: r) Γ h nc ns else False
      | _ => False) else bif Nat.beq e.1 10 then (match st with
      | .int x :: r => bif Nat.ble (gk_cs r) 8 then 1 ≤ d ∧ K nxt L (.int (if 0 ≤ x then x else 0 - x) :: r) Γ h nc ns else False
      | _ => False) else bif Nat.beq e.1 1 || Nat.beq e.1 5 then (match gk_tk e.2.2.2.1 [] st with
    | some (av, r) => gk_cl M E d cf mc ms O K e pc nxt av L r Γ h nc ns
    | _ => False) else False
  | .invokespecial _ => bif Nat.beq e.1 3 then (match st with
      | .ref _ :: r => bif Nat.ble (gk_cs r) 8 then 1 ≤ d ∧ K nxt L r Γ h nc ns else False
      | _ => False) else bif Nat.beq e.1 2 || Nat.beq e.1 6 then (match gk_tk e.2.2.2.1 [] st with
    | some (av, .ref k :: r) => gk_cl M E d cf mc ms O K e pc nxt (.ref k :: av) L r Γ h nc ns
    | _ => False) else False
  | _ => False
/-- at an end -/
def gk_end (v : Option Value) (Γ : gk_G) (h : gk_H) (nc ns : Nat) : Prop := match cf with
  | false => Q v h
  | true => (Γ = Γe ∧ nc ≤ mc ∧ ns ≤ ms) ∧ Q v h
def gk_rtn (i : Instr) (st : List Value) (Γ : gk_G) (h : gk_H) (nc ns : Nat) : Prop := match i, st with
  | .return_, [] => bif Nat.beq O.1 0 then gk_end cf mc ms Γe Q none Γ h nc ns else False
  | .lreturn, [.long x] => bif Nat.beq O.1 2 then gk_end cf mc ms Γe Q (some (.long x)) Γ h nc ns else False
  | .ireturn, [.int x] => match O.1 with
    | 1 => gk_end cf mc ms Γe Q (some (.int x)) Γ h nc ns
    | 3 => (x = 0 ∨ x = 1) ∧ gk_end cf mc ms Γe Q (some (.int x)) Γ h nc ns
    | 4 => narrow .char (.int x) = .int x ∧ gk_end cf mc ms Γe Q (some (.int x)) Γ h nc ns
    | 5 => narrow .byte (.int x) = .int x ∧ gk_end cf mc ms Γe Q (some (.int x)) Γ h nc ns
    | _ => False
  | _, _ => False
def gk_nw (i : Instr) (nxt : Nat) (L : gk_L) (st : List Value) (Γ : gk_G) (h : gk_H) (nc ns : Nat) : Prop := match cf, i, st with
  | true, .new idx, st => match gk_lk P.2.2.2.2 idx with
    | some ci => (nc + 1 ≤ mc ∧ ns + (gk_bs ci).length ≤ ms ∧ Γ.length < 1000000) ∧ K nxt L (.ref Γ.length :: st) (Γ ++ [(0, ci, List.replicate (gk_bs ci).length none)]) (gk_h0 h Γ.length) (nc + 1) (ns + (gk_bs ci).length)
    | none => False
  | true, .newarray .int, .int n :: r => (¬ n < 0 ∧ n.toNatClampNeg * 8 ≤ 536870912 ∧ nc + 1 ≤ mc ∧ ns + n.toNatClampNeg ≤ ms ∧ Γ.length < 1000000) ∧ K nxt L (.ref Γ.length :: r) (Γ ++ [(1, n.toNatClampNeg, [])]) (gk_h0 h Γ.length) (nc + 1) (ns + n.toNatClampNeg)
  | true, .newarray .char, .int n :: r => (¬ n < 0 ∧ n.toNatClampNeg * 8 ≤ 536870912 ∧ nc + 1 ≤ mc ∧ ns + n.toNatClampNeg ≤ ms ∧ Γ.length < 1000000) ∧ K nxt L (.ref Γ.length :: r) (Γ ++ [(2, n.toNatClampNeg, [])]) (gk_h0 h Γ.length) (nc + 1) (ns + n.toNatClampNeg)
  | true, .newarray .long, .int n :: r => (¬ n < 0 ∧ n.toNatClampNeg * 8 ≤ 536870912 ∧ nc + 1 ≤ mc ∧ ns + n.toNatClampNeg ≤ ms ∧ Γ.length < 1000000) ∧ K nxt L (.ref Γ.length :: r) (Γ ++ [(3, n.toNatClampNeg, [])]) (gk_h0 h Γ.length) (nc + 1) (ns + n.toNatClampNeg)
  | true, .anewarray idx, .int n :: r => match gk_lk P.2.2.2.2 idx with
    | some 8 => (¬ n < 0 ∧ n.toNatClampNeg * 8 ≤ 536870912 ∧ nc + 1 ≤ mc ∧ ns + n.toNatClampNeg ≤ ms ∧ Γ.length < 1000000) ∧ K nxt L (.ref Γ.length :: r) (Γ ++ [(4, n.toNatClampNeg, List.replicate n.toNatClampNeg none)]) (gk_h0 h Γ.length) (nc + 1) (ns + n.toNatClampNeg)
    | _ => False
  | _, _, _ => False
def gk_br (i : Instr) (nxt tgt : Nat) (L : gk_L) (st : List Value) (Γ : gk_G) (h : gk_H) (nc ns : Nat) : Prop := match i, st with
  | .goto _, st => K tgt L st Γ h nc ns
  | .ifCond .eq _, .int x :: r => (x = 0 → K tgt L r Γ h nc ns) ∧ (¬ x = 0 → K nxt L r Γ h nc ns)
  | .ifCond .ne _, .int x :: r => (¬ x = 0 → K tgt L r Γ h nc ns) ∧ (x = 0 → K nxt L r Γ h nc ns)
  | .ifCond .lt _, .int x :: r => (x < 0 → K tgt L r Γ h nc ns) ∧ (¬ x < 0 → K nxt L r Γ h nc ns)
  | .ifCond .ge _, .int x :: r => (0 ≤ x → K tgt L r Γ h nc ns) ∧ (¬ 0 ≤ x → K nxt L r Γ h nc ns)
  | .ifCond .gt _, .int x :: r => (0 < x → K tgt L r Γ h nc ns) ∧ (¬ 0 < x → K nxt L r Γ h nc ns)
  | .ifCond .le _, .int x :: r => (x ≤ 0 → K tgt L r Γ h nc ns) ∧ (¬ x ≤ 0 → K nxt L r Γ h nc ns)
  | .if_icmp .eq _, .int y :: .int x :: r => (x = y → K tgt L r Γ h nc ns) ∧ (¬ x = y → K nxt L r Γ h nc ns)
  | .if_icmp .ne _, .int y :: .int x :: r => (¬ x = y → K tgt L r Γ h nc ns) ∧ (x = y → K nxt L r Γ h nc ns)
  | .if_icmp .lt _, .int y :: .int x :: r => (x < y → K tgt L r Γ h nc ns) ∧ (¬ x < y → K nxt L r Γ h nc ns)
  | .if_icmp .ge _, .int y :: .int x :: r => (y ≤ x → K tgt L r Γ h nc ns) ∧ (¬ y ≤ x → K nxt L r Γ h nc ns)
  | .if_icmp .gt _, .int y :: .int x :: r => (y < x → K tgt L r Γ h nc ns) ∧ (¬ y < x → K nxt L r Γ h nc ns)
  | .if_icmp .le _, .int y :: .int x :: r => (x ≤ y → K tgt L r Γ h nc ns) ∧ (¬ x ≤ y → K nxt L r Γ h nc ns)
  | .ifnull _, .null :: r => K tgt L r Γ h nc ns
  | .ifnull _, .ref _ :: r => K nxt L r Γ h nc ns
  | .ifnonnull _, .null :: r => K nxt L r Γ h nc ns
  | .ifnonnull _, .ref _ :: r => K tgt L r Γ h nc ns
  | _, _ => False
/-- one instruction -/
def gk_one (pc : Nat) (i : Instr) (nxt tgt : Nat) (L : gk_L) (st : List Value) (Γ : gk_G) (h : gk_H) (nc ns : Nat) : Prop := match i with
  | .iload n => gk_ld K nxt n 0 L st Γ h nc ns
  | .iload_n n => gk_ld K nxt n.val 0 L st Γ h nc ns
  | .lload n => gk_ld K nxt n 1 L st Γ h nc ns
  | .lload_n n => gk_ld K nxt n.val 1 L st Γ h nc ns
  | .aload n => match L[n]? with
    | some (some .null) => gk_ld K nxt n 3 L st Γ h nc ns
    | _ => gk_ld K nxt n 2 L st Γ h nc ns
  | .aload_n n => gk_ld K nxt n.val 2 L st Γ h nc ns
  | .istore n => gk_sto nm K nxt n 0 L st Γ h nc ns
  | .istore_n n => gk_sto nm K nxt n.val 0 L st Γ h nc ns
  | .lstore n => gk_sto nm K nxt n 1 L st Γ h nc ns
  | .lstore_n n => gk_sto nm K nxt n.val 1 L st Γ h nc ns
  | .astore n => gk_sto nm K nxt n 2 L st Γ h nc ns
  | .astore_n n => gk_sto nm K nxt n.val 2 L st Γ h nc ns
  | .iinc n z => match L[n]? with
    | some (some (.int x)) => gk_nm nm (x + gk_lit z) (fun y => K nxt (gk_s1 L n (.int y)) st Γ h nc ns)
    | _ => False
  | .idiv => match st with
    | .int y :: .int x :: r => ¬ y = 0 ∧ K nxt L (.int (x / y) :: r) Γ h nc ns
    | _ => False
  | .irem => match st with
    | .int y :: .int x :: r => ¬ y = 0 ∧ K nxt L (.int (x - x / y * y) :: r) Γ h nc ns
    | _ => False
  | .iaload => gk_rd E K 1 nxt L st Γ h nc ns
  | .caload => gk_rd E K 2 nxt L st Γ h nc ns
  | .laload => gk_rd E K 3 nxt L st Γ h nc ns
  | .aaload => gk_rd E K 4 nxt L st Γ h nc ns
  | .baload => gk_rd E K 5 nxt L st Γ h nc ns
  | .iastore => gk_wr cf K 1 nxt L st Γ h nc ns
  | .castore => gk_wr cf K 2 nxt L st Γ h nc ns
  | .lastore => gk_wr cf K 3 nxt L st Γ h nc ns
  | .aastore => gk_wr cf K 4 nxt L st Γ h nc ns
  | .arraylength => gk_len1 E K nxt L st Γ h nc ns
  | .getfield idx => match gk_lk P.1 idx with
    | some e => gk_gf K e nxt L st Γ h nc ns
    | none => False
  | .putfield idx => match gk_lk P.1 idx with
    | some e => gk_pf cf K e nxt L st Γ h nc ns
    | none => False
  | .getstatic _ => bif Nat.beq tgt 0 then K nxt L (.int 1 :: st) Γ h nc ns else K nxt L ((bif E.1.2 then .ref 1000005 else .null) :: st) Γ h nc ns
  | .ldc idx => match gk_lk P.2.2.1 idx with
    | some x => K nxt L (.int x :: st) Γ h nc ns
    | none => bif Nat.beq idx 57 then K nxt L (.ref 1000001 :: st) Γ h nc ns else bif Nat.beq idx 49 then K nxt L (.ref 1000002 :: st) Γ h nc ns else False
  | .ldc_w idx => match gk_lk P.2.2.1 idx with
    | some x => K nxt L (.int x :: st) Γ h nc ns
    | none => False
  | .ldc2_w idx => match gk_lk P.2.2.2.1 idx with
    | some x => K nxt L (.long x :: st) Γ h nc ns
    | none => False
  | .tableswitch _ _ _ _ => match st, gk_lk O.2.1 pc with
    | .int x :: r, some q => gk_sw x q.2 (fun t => K t L r Γ h nc ns) q.1
    | _, _ => False
  | .lookupswitch _ _ => match st, gk_lk O.2.1 pc with
    | .int x :: r, some q => gk_sw x q.2 (fun t => K t L r Γ h nc ns) q.1
    | _, _ => False
  | .goto o => gk_br K (.goto o) nxt tgt L st Γ h nc ns
  | .ifCond c o => gk_br K (.ifCond c o) nxt tgt L st Γ h nc ns
  | .if_icmp c o => gk_br K (.if_icmp c o) nxt tgt L st Γ h nc ns
  | .ifnull o => gk_br K (.ifnull o) nxt tgt L st Γ h nc ns
  | .ifnonnull o => gk_br K (.ifnonnull o) nxt tgt L st Γ h nc ns
  | .invokevirtual idx => match gk_lk P.2.1 idx with
    | some e => gk_in M E d cf mc ms O K (.invokevirtual idx) e pc nxt L st Γ h nc ns
    | none => False
  | .invokestatic idx => match gk_lk P.2.1 idx with
    | some e => gk_in M E d cf mc ms O K (.invokestatic idx) e pc nxt L st Γ h nc ns
    | none => False
  | .invokespecial idx => match gk_lk P.2.1 idx with
    | some e => gk_in M E d cf mc ms O K (.invokespecial idx) e pc nxt L st Γ h nc ns
    | none => False
  | .return_ => gk_rtn cf mc ms Γe Q O .return_ st Γ h nc ns
  | .lreturn => gk_rtn cf mc ms Γe Q O .lreturn st Γ h nc ns
  | .ireturn => gk_rtn cf mc ms Γe Q O .ireturn st Γ h nc ns
  | .new idx => gk_nw cf mc ms P K (.new idx) nxt L st Γ h nc ns
  | .newarray t => gk_nw cf mc ms P K (.newarray t) nxt L st Γ h nc ns
  | .anewarray idx => gk_nw cf mc ms P K (.anewarray idx) nxt L st Γ h nc ns
  | i => match gk_alu i st with
    | some st' => K nxt L st' Γ h nc ns
    | none => False
end GKW
