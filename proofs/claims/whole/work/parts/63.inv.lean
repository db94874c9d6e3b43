/-! THE INVARIANT: texts, law, tape, image -/
abbrev gSg : Type := List (Int32 × Int32)
/-- a line of the law: its word, the class's two codes, the reference's two codes -/
abbrev gLn : Type := Int32 × (gSg × gSg) × (gSg × gSg)
/-- texts: how many (passages, diary, vouches), passages, diary, vouchers, law, lines of the book -/
abbrev gT : Type := (Nat × Nat × Nat) × (Nat → Int32) × (Nat → Int32) × (Nat → Int32) × List gLn × (Nat → Int32)
def sg (op ar : Nat → Int32) (a : Nat) : Nat → gSg
  | 0 => []
  | n + 1 => sg op ar a n ++ [(op (a + n), ar (a + n))]
theorem sg_congr {op ar op' ar' : Nat → Int32} {a : Nat} : ∀ {n : Nat}, (∀ i, a ≤ i → i < a + n → op i = op' i ∧ ar i = ar' i) → sg op ar a n = sg op' ar' a n := by
  intro n
  induction n with
  | zero => intro _; rfl
  | succ n ih =>
    intro h
    obtain ⟨e1, e2⟩ := h (a + n) (by omega) (by omega)
    rw [sg, sg, ih (fun i h1 h2 => h i h1 (by omega)), e1, e2]
/-- two numbers made one (class: 2 PLUS .. 11 EITHER) -/
def opJ (op a b : Int32) : Int32 := if op = 2 then a + b else if op = 3 then a - b else if op = 4 then a * b else if op = 6 then (if a < b then 1 else 0) else if op = 7 then (if a = b then 1 else 0) else if op = 8 then (if b < a then 1 else 0) else if op = 10 then a &&& b else if op = 11 then a ||| b else 0
def stC (κ : Nat → Int32) (x : Int32 × Int32) (s : List Int32) : Option (List Int32) :=
  if x.1 = 0 then (if s.length < 22 ∧ 0 ≤ x.2 then some (x.2 :: s) else none)
  else if x.1 = 1 then (if s.length < 22 ∧ 0 ≤ x.2 ∧ x.2 < 9 then some (κ x.2.toNatClampNeg :: s) else none)
  else if x.1 = 5 then (match s with
    | v :: t => if x.2 = 0 then none else some (v / x.2 :: t)
    | _ => none)
  else if x.1 = 9 then (match s with
    | v :: t => some ((1 - v) :: t)
    | _ => none)
  else if 2 ≤ x.1 then (match s with
    | b :: a :: t => some (opJ x.1 a b :: t)
    | _ => none)
  else none
def opR (op a b : Int32) : Int32 := if op = 2 then a + b else if op = 3 then a - b else if op = 4 then a * b else if op = 5 then a / b else if op = 6 then (if a < b then 1 else 0) else if op = 7 then (if a = b then 1 else 0) else if op = 8 then (if b < a then 1 else 0) else if op = 10 then a * b else (if 0 < a + b then 1 else 0)
def stR (κ : Nat → Int32) (x : Int32 × Int32) (s : List Int32) : Option (List Int32) :=
  if x.1 = 0 then (if s.length < 400 then some (x.2 :: s) else none)
  else if x.1 = 1 then (if s.length < 400 ∧ 0 ≤ x.2 ∧ x.2 < 9 then some (κ x.2.toNatClampNeg :: s) else none)
  else if x.1 = 9 then (match s with
    | v :: t => some ((1 - v) :: t)
    | _ => none)
  else (match s with
    | b :: a :: t => if x.1 = 5 ∧ b = 0 then none else some (opR x.1 a b :: t)
    | _ => none)
def rC (κ : Nat → Int32) : gSg → List Int32 → Option (List Int32)
  | [], s => some s
  | x :: r, s => (stC κ x s).bind (rC κ r)
def rR (κ : Nat → Int32) : gSg → List Int32 → Option (List Int32)
  | [], s => some s
  | x :: r, s => (stR κ x s).bind (rR κ r)
theorem rC_app (κ : Nat → Int32) (a b : gSg) : ∀ s, rC κ (a ++ b) s = (rC κ a s).bind (rC κ b) := by
  induction a with
  | nil => intro s; rfl
  | cons x r ih =>
    intro s
    rw [List.cons_append, rC, rC]
    cases stC κ x s with
    | none => rfl
    | some t => exact ih t
theorem rR_app (κ : Nat → Int32) (a b : gSg) : ∀ s, rR κ (a ++ b) s = (rR κ a s).bind (rR κ b) := by
  induction a with
  | nil => intro s; rfl
  | cons x r ih =>
    intro s
    rw [List.cons_append, rR, rR]
    cases stR κ x s with
    | none => rfl
    | some t => exact ih t
/-- both codes of a line tell the same -/
def okLn (x : gLn) : Prop := (x.2.1.2 = [] ↔ x.2.2.2 = []) ∧ ∀ κ, (∃ v, rC κ x.2.1.1 [] = some [v] ∧ rR κ x.2.2.1 [] = some [v]) ∧ (x.2.1.2 ≠ [] → ∃ v, rC κ x.2.1.2 [] = some [v] ∧ rR κ x.2.2.2 [] = some [v])
def cLaw (ln us : Int32) (wd va wh st op ar : Nat → Int32) (L : List gLn) : Prop := (L.length ≤ 16 ∧ ln = nI L.length) ∧ ∃ u, (u ≤ 400 ∧ us = nI u) ∧ ∀ l x, L[l]? = some x → ∃ a b c, (a ≤ b ∧ b ≤ c ∧ c ≤ u) ∧ (wd l = x.1 ∧ va l = nI a ∧ wh l = nI b ∧ st l = nI c) ∧ sg op ar a (b - a) = x.2.1.1 ∧ sg op ar b (c - b) = x.2.1.2
def mLaw (ln : Int32) (wd fo wh to op ar : Nat → Int32) (L : List gLn) : Prop := (L.length ≤ 16 ∧ ln = nI L.length) ∧ ∀ l x, L[l]? = some x → ∃ a b c, (a ≤ b ∧ b ≤ c ∧ c ≤ 400) ∧ (wd l = x.1 ∧ fo l = nI a ∧ wh l = nI b ∧ to l = nI c) ∧ sg op ar a (b - a) = x.2.2.1 ∧ sg op ar b (c - b) = x.2.2.2
def CT (h : gk_H) (b l : Nat) (T : gT) : Prop := (h.2.1 (b + 8) 1 = nI T.1.1 ∧ h.2.1 (b + 8) 2 = nI T.1.2.1 ∧ h.2.1 (b + 8) 3 = nI T.1.2.2) ∧ (∀ k, k < 36 → h.2.1 (b + 9) k = T.2.1 k) ∧ (∀ k, k < 4 * T.1.2.1 → h.2.1 (b + 10) k = T.2.2.1 k) ∧ (∀ k, k < 10 → h.2.1 (b + 11) k = T.2.2.2.1 k) ∧ cLaw (h.1 (b + 1) 0) (h.1 (b + 1) 1) (h.2.1 (b + 2)) (h.2.1 (b + 3)) (h.2.1 (b + 4)) (h.2.1 (b + 5)) (h.2.1 (b + 6)) (h.2.1 (b + 7)) T.2.2.2.2.1 ∧ ∀ k, k < 600 → h.2.1 l k = T.2.2.2.2.2 k
def MT (pM dM vM : Int32) (pas dee vou : Nat → Int32) (ln : Int32) (wd fo wh to op ar bk : Nat → Int32) (T : gT) : Prop := (pM = nI T.1.1 ∧ dM = nI T.1.2.1 ∧ vM = nI T.1.2.2) ∧ (∀ k, k < 36 → pas k = T.2.1 k) ∧ (∀ k, k < 4 * T.1.2.1 → dee k = T.2.2.1 k) ∧ (∀ k, k < 10 → vou k = T.2.2.2.1 k) ∧ mLaw ln wd fo wh to op ar T.2.2.2.2.1 ∧ ∀ k, k < 600 → bk k = T.2.2.2.2.2 k
def MTl (h : gk_H) (T : gT) : Prop := MT (h.1 112 32) (h.1 112 34) (h.1 112 36) (h.2.1 128) (h.2.1 129) (h.2.1 130) (h.2.1 120 0) (h.2.1 121) (h.2.1 122) (h.2.1 123) (h.2.1 124) (h.2.1 125) (h.2.1 126) (h.2.1 117) T
def MTi (h : gk_H) (T : gT) : Prop := MT (h.2.1 144 132) (h.2.1 144 133) (h.2.1 144 134) (fun k => h.2.1 144 (155 + k)) (fun k => h.2.1 144 (191 + k)) (fun k => h.2.1 144 (136 + 2 * k)) (h.2.1 144 855) (fun l => h.2.1 144 (856 + 4 * l)) (fun l => h.2.1 144 (857 + 4 * l)) (fun l => h.2.1 144 (858 + 4 * l)) (fun l => h.2.1 144 (859 + 4 * l)) (fun i => h.2.1 144 (920 + 2 * i)) (fun i => h.2.1 144 (921 + 2 * i)) (fun k => h.2.1 144 (255 + k)) T
/-- an entry of the diary that may stand, n places -/
def dOk (n : Nat) (what who v : Int32) : Prop := ∃ a b c : Nat, (what = nI a ∧ who = nI b ∧ v = nI c) ∧ a ≤ 4 ∧ b < 10 ∧ c < 10 ∧ (a = 3 → b < 6) ∧ (a ≠ 3 → b < n) ∧ (a = 2 → c < 6) ∧ (a = 4 → c < 8)
def okT (n : Nat) (T : gT) : Prop := (T.1.1 ≤ 16 ∧ T.1.2.1 ≤ 16 ∧ T.1.2.2 ≤ 16) ∧ (∀ k, k < 36 → ∃ v, v ≤ 99 ∧ T.2.1 k = nI v) ∧ (∀ i, i < T.1.2.1 → dOk n (T.2.2.1 (4 * i + 1)) (T.2.2.1 (4 * i + 2)) (T.2.2.1 (4 * i + 3))) ∧ (∀ k, k < 10 → ∃ v, v < 2 ^ n ∧ T.2.2.2.1 k = nI v) ∧ ∀ x, x ∈ T.2.2.2.2.1 → okLn x
def goodW (w : gk_WV) : Prop := ∃ n, (n ≤ 10 ∧ w.1 0 = nI n) ∧ (∀ p, n ≤ p → nb_bit (w.1 1) p = false ∧ nb_bit (w.1 2) p = false) ∧ (∀ p, n ≤ p → p < 10 → w.2.1 p = 0 ∧ w.2.2.2.1 p = -1 ∧ w.2.2.2.2.1 p = 0) ∧ (∀ p, p < 10 → w.2.2.2.1 p = -1 ∨ ∃ r, r < 6 ∧ w.2.2.2.1 p = nI r) ∧ ∃ k, k ≤ 150 ∧ w.1 7 = nI k
def tapeR (h : gk_H) : Prop := ∃ n, n ≤ 400 ∧ h.1 58 4 = nI n ∧ h.1 112 10 = nI n ∧ ∀ k, k < n → h.2.1 59 k = h.2.1 118 k ∧ ∃ v, v < 256 ∧ h.2.1 118 k = nI v
def wdN : List Nat := [32, 99, 114, 101, 101, 112, 115, 32, 119, 111, 114, 116, 104, 32, 99, 111, 109, 101, 115, 32, 119, 104, 101, 110, 32, 111, 114, 32, 97, 110, 100, 32, 110, 111, 116, 32, 100, 114, 121, 32, 101, 100, 103, 101, 115, 32, 121, 101, 97, 114, 32, 108, 105, 103, 104, 116, 32, 114, 111, 111, 109, 32, 104, 111, 115, 101, 100, 32, 112, 97, 105, 100, 32, 100, 97, 121, 32, 119, 101, 116, 32, 108, 111, 110, 103, 32, 111, 110, 32, 98, 117, 121, 32, 115, 101, 108, 108, 32, 104, 97, 110, 103, 32, 105, 110, 32, 104, 111, 115, 101, 32, 112, 108, 97, 99, 101, 32, 98, 121, 32]
def wordsR (h : gk_H) : Prop := ∀ k, k < 120 → h.2.1 119 k = nI (wdN.getD k 0)
/-- the texts and the count, live -/
def liveR (c : Int32 × (Nat → Int32)) (h : gk_H) : Prop := ∃ n T, (n ≤ 10 ∧ c.1 = nI n ∧ h.1 112 6 = nI n) ∧ (∀ p, p < 10 → h.2.1 116 p = c.2 p) ∧ okT n T ∧ CT h 7 19 T ∧ MTl h T
def imgR (h : gk_H) : Prop := (h.1 0 15 = 0 ∧ h.1 112 52 = 0) ∨ ((h.1 0 15 = 1 ∧ h.1 112 52 = 1) ∧ ∃ n T c, (n ≤ 10 ∧ c.1 = nI n ∧ h.2.1 144 131 = nI n) ∧ (∀ p, p < 10 → h.2.1 144 (135 + 2 * p) = c.2 p) ∧ okT n T ∧ CT h 99 111 T ∧ MTi h T ∧ wRel goodW c (wv h 93) (rv h 144 0))
def RestX (c : Int32 × (Nat → Int32)) (h : gk_H) : Prop := liveR c h ∧ tapeR h ∧ (h.1 63 2 = h.1 112 30 ∧ h.1 63 3 = h.1 112 31) ∧ h.1 112 5 = 0 ∧ wordsR h ∧ imgR h
def InvX : gk_H → Prop := InvU (wRel goodW) RestX
/-! frames -/
def eqc (h h' : gk_H) (k : Nat) : Prop := h'.1 k = h.1 k ∧ h'.2.1 k = h.2.1 k ∧ h'.2.2 k = h.2.2 k
theorem CT_eq {h h' : gk_H} {b l : Nat} {T : gT} (e : ∀ i, 1 ≤ i → i ≤ 11 → eqc h h' (b + i)) (el : h'.2.1 l = h.2.1 l) (c : CT h b l T) : CT h' b l T := by
  unfold CT at *
  rw [(e 1 (by decide) (by decide)).1, (e 2 (by decide) (by decide)).2.1, (e 3 (by decide) (by decide)).2.1, (e 4 (by decide) (by decide)).2.1, (e 5 (by decide) (by decide)).2.1, (e 6 (by decide) (by decide)).2.1, (e 7 (by decide) (by decide)).2.1, (e 8 (by decide) (by decide)).2.1, (e 9 (by decide) (by decide)).2.1, (e 10 (by decide) (by decide)).2.1, (e 11 (by decide) (by decide)).2.1, el]
  exact c
theorem MTl_eq {h h' : gk_H} {T : gT} (e : ∀ k, 117 ≤ k → k ≤ 130 → h'.2.1 k = h.2.1 k) (e1 : h'.1 112 32 = h.1 112 32) (e2 : h'.1 112 34 = h.1 112 34) (e3 : h'.1 112 36 = h.1 112 36) (c : MTl h T) : MTl h' T := by
  unfold MTl at *
  rw [e1, e2, e3, e 128 (by decide) (by decide), e 129 (by decide) (by decide), e 130 (by decide) (by decide), e 120 (by decide) (by decide), e 121 (by decide) (by decide), e 122 (by decide) (by decide), e 123 (by decide) (by decide), e 124 (by decide) (by decide), e 125 (by decide) (by decide), e 126 (by decide) (by decide), e 117 (by decide) (by decide)]
  exact c
/-- cells that the rest does not read -/
def free (k : Nat) : Prop := (1 ≤ k ∧ k ≤ 6) ∨ (20 ≤ k ∧ k ≤ 57) ∨ (76 ≤ k ∧ k ≤ 92) ∨ (112 ≤ k ∧ k ≤ 115) ∨ (131 ≤ k ∧ k ≤ 143)
def same112 (h h' : gk_H) : Prop := h'.1 112 5 = h.1 112 5 ∧ h'.1 112 6 = h.1 112 6 ∧ h'.1 112 10 = h.1 112 10 ∧ h'.1 112 30 = h.1 112 30 ∧ h'.1 112 31 = h.1 112 31 ∧ h'.1 112 32 = h.1 112 32 ∧ h'.1 112 34 = h.1 112 34 ∧ h'.1 112 36 = h.1 112 36 ∧ h'.1 112 52 = h.1 112 52
theorem same112_of {h h' : gk_H} (e : ∀ s, ¬ s = 0 → ¬ s = 3 → h'.1 112 s = h.1 112 s) : same112 h h' := ⟨e _ (by decide) (by decide), e _ (by decide) (by decide), e _ (by decide) (by decide), e _ (by decide) (by decide), e _ (by decide) (by decide), e _ (by decide) (by decide), e _ (by decide) (by decide), e _ (by decide) (by decide), e _ (by decide) (by decide)⟩
theorem img_eq {h h' : gk_H} (e0 : h'.1 0 = h.1 0) (e52 : h'.1 112 52 = h.1 112 52) (e : ∀ k, 93 ≤ k → k ≤ 111 → eqc h h' k) (e144 : h'.2.1 144 = h.2.1 144) (c : imgR h) : imgR h' := by
  unfold imgR at *
  have ew : wv h' 93 = wv h 93 := wv_fr (S := fun k => ¬ eqc h h' k) (fun k hk => Classical.byContradiction fun q => hk q) (fun i hi q => q (e _ (by omega) (by omega)))
  have er : rv h' 144 0 = rv h 144 0 := rv_eq fun j _ => by rw [e144]
  rcases c with c | ⟨c1, n, T, c, a1, a2, a3, a4, a5, a6⟩
  · left; rw [e0, e52]; exact c
  · refine Or.inr ⟨by rw [e0, e52]; exact c1, n, T, c, by rw [e144]; exact a1, by rw [e144]; exact a2, a3, CT_eq (fun i h1 h2 => e _ (by omega) (by omega)) (e 111 (by decide) (by decide)).2.1 a4, ?_, by rw [ew, er]; exact a6⟩
    unfold MTi at *
    rw [e144]
    exact a5
theorem Rest_fr {S : Nat → Prop} {c : Int32 × (Nat → Int32)} {h h' : gk_H} (hS : ∀ k, S k → free k) (a : fr S h h') (z : same112 h h') (r : RestX c h) : RestX c h' := by
  have e : ∀ k, ¬ free k → eqc h h' k := fun k hk => a k (fun q => hk (hS k q))
  obtain ⟨z5, z6, z10, z30, z31, z32, z34, z36, z52⟩ := z
  obtain ⟨⟨n, T, l1, l2, l3, l4, l5⟩, ⟨m, t1, t2, t3, t4⟩, ⟨f1, f2⟩, i5, wr, im⟩ := r
  have nf : ∀ k, (7 ≤ k ∧ k ≤ 19) ∨ (58 ≤ k ∧ k ≤ 75) ∨ (93 ≤ k ∧ k ≤ 111) ∨ (116 ≤ k ∧ k ≤ 130) ∨ k = 144 ∨ k = 0 → eqc h h' k := fun k hk => e k (by unfold free; omega)
  refine ⟨⟨n, T, by rw [z6]; exact l1, ?_, l3, CT_eq (fun i h1 h2 => nf _ (by omega)) (nf 19 (by omega)).2.1 l4, MTl_eq (fun k h1 h2 => (nf k (by omega)).2.1) z32 z34 z36 l5⟩, ⟨m, t1, ?_, ?_, ?_⟩, ?_, by rw [z5]; exact i5, ?_, img_eq (nf 0 (by omega)).1 z52 (fun k h1 h2 => nf k (by omega)) (nf 144 (by omega)).2.1 im⟩
  · rw [(nf 116 (by omega)).2.1]; exact l2
  · rw [(nf 58 (by omega)).1]; exact t2
  · rw [z10]; exact t3
  · rw [(nf 59 (by omega)).2.1, (nf 118 (by omega)).2.1]; exact t4
  · rw [(nf 63 (by omega)).1, z30, z31]; exact ⟨f1, f2⟩
  · unfold wordsR; rw [(nf 119 (by omega)).2.1]; exact wr
theorem RestX_ok : RestOk RestX := fun c h h' r a z => Rest_fr (S := S_told) (fun k hk => by
  unfold free
  rcases hk with (q | q) | (q | q)
  · omega
  · omega
  · omega
  · omega) a (same112_of z) r
