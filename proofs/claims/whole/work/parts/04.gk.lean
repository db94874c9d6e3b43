/-! GK: an abstract machine (objects by their number, rows of numbers as functions) over the kit's rows.
 A cell: (tag, number, references): tag 0 an object of class 'number' of vwCl, 1 int[], 2 char[], 3 long[] of 'number' places, else World[].
 The numbers of a heap: fields, int (and char) rows, long rows, by the cell's number. -/
abbrev gk_K : Type := Nat × Nat × List (Option Nat)
abbrev gk_G : Type := List gk_K
abbrev gk_H : Type := (Nat → Nat → Int32) × (Nat → Nat → Int32) × (Nat → Nat → Int64)
abbrev gk_L : Type := List (Option Value)
/-- a method: its name, bytes, locals, answer -/
abbrev gk_J : Type := MethodName × ByteArray × Nat × Option FieldType
/-- the script: how long (and whether a static of the JDK's is a reference), what -/
abbrev gk_E : Type := (Nat × Bool) × (Nat → Int32)
def gk_TT : List Cond := lw_tbl.filter goodWord
theorem gk_TT_in {w : Cond} (h : w ∈ gk_TT) : w ∈ lw_tbl := (List.mem_filter.mp h).1
theorem gk_TT_of {w : Cond} (h : w ∈ lw_tbl) (g : goodWord w = true) : w ∈ gk_TT := List.mem_filter.mpr ⟨h, g⟩
theorem gk_TT_good {w : Cond} (h : w ∈ gk_TT) : (w.onTables && w.keeps) = true ∨ ∃ ty, w = .arrayClass ty := good_of_word (List.mem_filter.mp h).2
def gk_wd (J : gk_J) : List Cond := .code J.1 J.2.1 J.2.2.1 J.2.2.2 :: gk_TT
def gk_rm (d mc ms : Nat) : Room := { frames := d, cells := mc, slots := ms, locals := 60 * d }
/-- number to address: the own cells from base on; what was there before (read alone) from 1000000 on -/
def gk_ad (base : Nat) (ro : Nat → Nat) (k : Nat) : Nat := if k < 1000000 then base + k else ro (k - 1000000)
def gk_v (ad : Nat → Nat) (v : Value) : Value := match v with
  | .ref k => .ref (ad k)
  | .int x => .int x
  | .long x => .long x
  | .null => .null
  | w => w
def gk_fs (ad : Nat → Nat) (bs : List Bool) (rs : List (Option Nat)) (f : Nat → Int32) : List Value := bs.mapIdx (fun i b => bif b then va_rf ((rs.getD i none).map ad) else .int (f i))
def gk_cell (ad : Nat → Nat) (cs : Nat → ClassId) (κ : gk_K) (f a : Nat → Int32) (b : Nat → Int64) : va_E := match κ.1 with
  | 0 => .inr (κ.2.1, gk_fs ad (gk_bs κ.2.1) κ.2.2 f)
  | 1 => .inl (cs 0, κ.2.1, .inl a)
  | 2 => .inl (cs 1, κ.2.1, .inl a)
  | 3 => .inl (cs 2, κ.2.1, .inr (.inl b))
  | _ => .inl (cs 3, κ.2.1, .inr (.inr (.inr (.inr (fun i => (κ.2.2.getD i none).map ad)))))
def gk_ws (base : Nat) (ad : Nat → Nat) (cs : Nat → ClassId) (Γ : gk_G) (h : gk_H) : va_W := Γ.mapIdx (fun k κ => (base + k, gk_cell ad cs κ (h.1 k) (h.2.1 k) (h.2.2 k)))
def gk_tys (cs : Nat → ClassId) : List (ClassId × FieldType) := [(cs 0, .int), (cs 1, .char), (cs 2, .long), (cs 3, .object "DryPlaces$World")]
abbrev gk_A (base : Nat) : Nat → Prop := fun q => base ≤ q
/-- what was there before and is read alone: the script, two texts, a static, the nest links, the class of World[] -/
def gk_RO (E : gk_E) (base : Nat) (ro : Nat → Nat) (U : State) (H : Heap) : Prop :=
  (va_X (ro 0) E.1.1 E.2 U H ∧ ro 0 < base) ∧ vk_S 2 gk_len gk_byt (fun i => ro (1 + i)) (fun i => ro (3 + i)) (gk_A base) U H ∧ (vk_R "DryPlaces$Tape" 57 gk_tx0 (ro 1) U ∧ vk_R "DryPlaces$Tape" 49 gk_tx1 (ro 2) U) ∧ (va_Z "java/lang/String" "COMPACT_STRINGS" "Z" (.int 1) (gk_A base) U H ∧ va_Z "jdk/internal/util/Preconditions" "SIOOBE_FORMATTER" "Ljava/util/function/BiFunction;" (bif E.1.2 then .ref (ro 5) else .null) (gk_A base) U H) ∧ (∀ w ∈ gk_nest, va_Nw w U) ∧ va_AO "DryPlaces$World" U
def gk_rel (base : Nat) (ro : Nat → Nat) (cs : Nat → ClassId) (D : va_G) (Γ : gk_G) (h : gk_H) (H : Heap) : Prop := Γ.length ≤ 1000000 ∧ va_P D vwCl (gk_ws base (gk_ad base ro) cs Γ h) H
def gk_Ls (ad : Nat → Nat) (ls : Array Slot) (n : Nat) (L : gk_L) : Prop := ls.size = n ∧ L.length = n ∧ lv_wf ls ∧ ∀ (i : Nat) (v : Value), L[i]? = some (some v) → ls[i]? = some (.val (gk_v ad v))
/-- what holds in a method's body: machine, code, tables' words, room, what is read alone -/
def gk_X (M : Nat → gk_J) (E : gk_E) (d j : Nat) (cf : Bool) (mc ms : Nat) (p : Program) (R : Room) (s : State) (m : MethodId) (args : Array Value) (meth : Method) (c : Code) (base : Nat) (ro : Nat → Nat) (cs : Nat → ClassId) (D : va_G) : Prop :=
  p.tables.exec = Jvm.exec ∧ c.code = (M j).2.1 ∧ c.maxLocals = (M j).2.2.1 ∧ s.vm.findClass (M j).1.cls = some m.cls ∧ (∀ w ∈ gk_TT, w.before args s = true) ∧ (cf = true → meth.name = "<init>") ∧ (d ≤ R.frames ∧ 60 * d ≤ R.locals ∧ mc ≤ R.cells ∧ ms ≤ R.slots) ∧ va_K D vwCl (gk_tys cs) s ∧ gk_RO E base ro s s.heap ∧ base ≤ s.heap.size
def gk_ri (r : Option FieldType) : Instr := match r with
  | none => .return_
  | some .long => .lreturn
  | _ => .ireturn
/-- an answer is of the method's kind -/
def gk_rok (r : Option FieldType) (v : Option Value) : Prop := match r, v with
  | none, none => True
  | some .int, some (.int _) => True
  | some .long, some (.long _) => True
  | some .long, some (.int _) => False
  | some ty, some (.int x) => narrow ty (.int x) = .int x
  | _, _ => False
/-- how the body's end is met -/
def gk_Ret (M : Nat → gk_J) (j mc ms : Nat) (Γe : gk_G) (Q : Option Value → gk_H → Prop) (p : Program) (l : Launch) (e : Env) (R : Room) (s : State) (m : MethodId) (args : Array Value) (below : List Frame) (meth : Method) (c : Code) (base : Nat) (ro : Nat → Nat) (cs : Nat → ClassId) (D : va_G) (QF : State → Prop) : Prop :=
  ∀ (pc : Nat) (ls : Array Slot) (H : Heap) (locs : List Loc) (v : Option Value) (h : gk_H), Q v h → gk_rel base ro cs D Γe h H → va_S (gk_A base) s.heap H locs → gk_rok (M j).2.2.2 v → decode (M j).2.1 pc = .ok (gk_ri (M j).2.2.2, 1) → W p l e R s m args below meth c H locs mc ms QF (F0 m pc ls (v.toList.map (gk_v (gk_ad base ro))))
/-- THE JUDGEMENT: wherever the machine stands so, it comes to the end with Q -/
def gk_Go (M : Nat → gk_J) (E : gk_E) (d j : Nat) (cf : Bool) (mc ms : Nat) (Γe : gk_G) (Q : Option Value → gk_H → Prop) (pc : Nat) (L : gk_L) (st : List Value) (Γ : gk_G) (h : gk_H) (nc ns : Nat) : Prop :=
  ∀ (p : Program) (l : Launch) (e : Env) (R : Room) (s : State) (m : MethodId) (args : Array Value) (below : List Frame) (meth : Method) (c : Code) (base : Nat) (ro : Nat → Nat) (cs : Nat → ClassId) (D : va_G) (QF : State → Prop) (H : Heap) (locs : List Loc) (ls : Array Slot),
    gk_X M E d j cf mc ms p R s m args meth c base ro cs D → gk_Ret M j mc ms Γe Q p l e R s m args below meth c base ro cs D QF → gk_rel base ro cs D Γ h H → va_S (gk_A base) s.heap H locs → gk_Ls (gk_ad base ro) ls (M j).2.2.1 L → s.heap.size + nc = base + Γ.length → W p l e R s m args below meth c H locs nc ns QF (F0 m pc ls (st.map (gk_v (gk_ad base ro))))
/-- a method's start and end, over the machine -/
def gk_Pc (E : gk_E) (base : Nat) (ro : Nat → Nat) (cs : Nat → ClassId) (D : va_G) (av : List Value) (Γ : gk_G) (h : gk_H) : Array Value → State → Prop := va_Pc (av.map (gk_v (gk_ad base ro))) (fun U => U.heap.size = base + Γ.length ∧ gk_rel base ro cs D Γ h U.heap ∧ va_K D vwCl (gk_tys cs) U ∧ gk_RO E base ro U U.heap)
def gk_Qc (base : Nat) (ro : Nat → Nat) (cs : Nat → ClassId) (D : va_G) (Γe : gk_G) (Q : Option Value → gk_H → Prop) : Array Value → State → Outcome → State → Prop := fun _ st o t => (∃ (v : Option Value) (h : gk_H), o = .returned (v.map (gk_v (gk_ad base ro))) ∧ Q v h ∧ gk_rel base ro cs D Γe h t.heap) ∧ va_F (gk_A base) st t
/-- A CONTRACT: method j at depth d, from the arguments av and the heap Γ, h -/
def gk_Con (M : Nat → gk_J) (E : gk_E) (d j : Nat) (av : List Value) (Γ Γe : gk_G) (h : gk_H) (mc ms : Nat) (Q : Option Value → gk_H → Prop) : Prop :=
  ∀ (l : Launch) (base : Nat) (ro : Nat → Nat) (cs : Nat → ClassId) (D : va_G), Met l (M j).1 (gk_wd (M j)) (gk_rm d mc ms) (gk_Pc E base ro cs D av Γ h) (gk_Qc base ro cs D Γe Q) mc ms (gk_A base)
/-- the locals with which a method begins -/
def gk_sl : List Value → gk_L
  | [] => []
  | .long x :: vs => some (.long x) :: none :: gk_sl vs
  | v :: vs => some v :: gk_sl vs
def gk_L0 (av : List Value) (n : Nat) : gk_L := gk_sl av ++ List.replicate (n - (gk_sl av).length) none
def gk_one1 (v : Value) : Bool := match v with
  | .long _ => true
  | .double _ => false
  | _ => true
theorem gk_cat (ad : Nat → Nat) (v : Value) : (gk_v ad v).category = v.category := by cases v <;> rfl
theorem gk_ws_get {base : Nat} {ad : Nat → Nat} {cs : Nat → ClassId} {Γ : gk_G} {h : gk_H} {k : Nat} {κ : gk_K} (hk : Γ[k]? = some κ) : (gk_ws base ad cs Γ h)[k]? = some (base + k, gk_cell ad cs κ (h.1 k) (h.2.1 k) (h.2.2 k)) := by
  rw [gk_ws, List.getElem?_mapIdx, hk]; rfl
theorem gk_ws_D {base : Nat} {ad : Nat → Nat} {cs : Nat → ClassId} {Γ : gk_G} {h : gk_H} : va_D (gk_A base) (gk_ws base ad cs Γ h) := by
  have key : ∀ (i : Nat) (q : Nat × va_E), (gk_ws base ad cs Γ h)[i]? = some q → q.1 = base + i := by
    intro i q hq
    rw [gk_ws, List.getElem?_mapIdx] at hq
    cases hg : Γ[i]? with
    | none => rw [hg] at hq; cases hq
    | some κ => rw [hg] at hq; cases hq; rfl
  refine ⟨fun i j p q hi hj e => ?_, fun k q hk => ?_⟩
  · have h1 := key i p hi
    have h2 := key j q hj
    omega
  · show base ≤ q.1
    rw [key k q hk]; omega
/-- one cell's contents changed -/
theorem gk_ws_set {base : Nat} {ad : Nat → Nat} {cs : Nat → ClassId} {Γ Γ' : gk_G} {h h' : gk_H} {k : Nat} {κ κ' : gk_K} (hk : Γ[k]? = some κ) (hΓ : Γ' = Γ.set k κ') (hh : ∀ q, q ≠ k → h'.1 q = h.1 q ∧ h'.2.1 q = h.2.1 q ∧ h'.2.2 q = h.2.2 q) :
    (gk_ws base ad cs Γ h).set k (base + k, gk_cell ad cs κ' (h'.1 k) (h'.2.1 k) (h'.2.2 k)) = gk_ws base ad cs Γ' h' := by
  subst hΓ
  have hl : k < Γ.length := (List.getElem?_eq_some_iff.mp hk).1
  refine List.ext_getElem? fun i => ?_
  by_cases hi : i = k
  · subst hi
    rw [List.getElem?_set_self (by rw [gk_ws, List.length_mapIdx]; exact hl), gk_ws_get (κ := κ') (List.getElem?_set_self hl)]
  · rw [List.getElem?_set_ne (Ne.symm hi), gk_ws, gk_ws, List.getElem?_mapIdx, List.getElem?_mapIdx, List.getElem?_set_ne (Ne.symm hi)]
    obtain ⟨e1, e2, e3⟩ := hh i hi
    rw [e1, e2, e3]
theorem gk_set_self {Γ : gk_G} {k : Nat} {κ : gk_K} (hk : Γ[k]? = some κ) : Γ = Γ.set k κ := by
  refine List.ext_getElem? fun i => ?_
  have hl : k < Γ.length := (List.getElem?_eq_some_iff.mp hk).1
  by_cases hi : i = k
  · subst hi; rw [List.getElem?_set_self hl, hk]
  · rw [List.getElem?_set_ne (Ne.symm hi)]
theorem gk_RO.kept {E : gk_E} {base : Nat} {ro : Nat → Nat} {U : State} {H H1 : Heap} (h : gk_RO E base ro U H) (hq : ∀ a : Nat, a < H.size → ¬ gk_A base a → H1[a]? = H[a]?) : gk_RO E base ro U H1 := by
  obtain ⟨⟨h1, h1b⟩, h2, h3, h4, h5, h6⟩ := h
  have hl : ro 0 < H.size := by obtain ⟨scr, e, -⟩ := h1; exact (Array.getElem?_eq_some_iff.mp e).1
  exact ⟨⟨h1.kept (hq _ hl (Nat.not_le.mpr h1b)), h1b⟩, h2.kept hq, h3, ⟨h4.1.kept hq, h4.2.kept hq⟩, h5, h6⟩
