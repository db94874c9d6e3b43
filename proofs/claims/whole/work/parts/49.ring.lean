/-! views of a world (class) and of a row (reference); the two rings as sequences of views -/
abbrev gk_WV : Type := (Nat → Int32) × (Nat → Int64) × (Nat → Int32) × (Nat → Int32) × (Nat → Int32) × (Nat → Int32)
/-- fields, dry, year, hung, paid, light -/
def wv (h : gk_H) (a : Nat) : gk_WV := (fun s => if s < 8 then h.1 a s else 0, fun p => if p < 10 then h.2.2 (a + 1) p else 0, fun p => if p < 10 then h.2.1 (a + 2) p else 0, fun p => if p < 10 then h.2.1 (a + 3) p else 0, fun p => if p < 10 then h.2.1 (a + 4) p else 0, fun r => if r < 6 then h.2.1 (a + 5) r else 0)
def rv (h : gk_H) (k o : Nat) : Nat → Int32 := fun j => if j < 131 then h.2.1 k (o + j) else 0
theorem if_c {α : Type} {c : Prop} [Decidable c] {x y z : α} (e : c → x = y) : (if c then x else z) = (if c then y else z) := by
  by_cases q : c
  · rw [if_pos q, if_pos q, e q]
  · rw [if_neg q, if_neg q]
theorem wv_eq {h h' : gk_H} {a b : Nat} (e1 : ∀ s, s < 8 → h'.1 b s = h.1 a s) (e2 : ∀ p, p < 10 → h'.2.2 (b + 1) p = h.2.2 (a + 1) p) (e3 : ∀ p, p < 10 → h'.2.1 (b + 2) p = h.2.1 (a + 2) p) (e4 : ∀ p, p < 10 → h'.2.1 (b + 3) p = h.2.1 (a + 3) p) (e5 : ∀ p, p < 10 → h'.2.1 (b + 4) p = h.2.1 (a + 4) p) (e6 : ∀ p, p < 6 → h'.2.1 (b + 5) p = h.2.1 (a + 5) p) : wv h' b = wv h a := by
  unfold wv
  refine Prod.ext (funext fun s => if_c (e1 s)) (Prod.ext (funext fun s => if_c (e2 s)) (Prod.ext (funext fun s => if_c (e3 s)) (Prod.ext (funext fun s => if_c (e4 s)) (Prod.ext (funext fun s => if_c (e5 s)) (funext fun s => if_c (e6 s))))))
theorem wv_copy_self {h : gk_H} {a b : Nat} (hab : a + 5 < b ∨ b + 5 < a) : wv (hv_copy h a b) a = wv h b := by
  refine wv_eq (fun s hs => ?_) (fun s hs => ?_) (fun s hs => ?_) (fun s hs => ?_) (fun s hs => ?_) (fun s hs => ?_)
  · rw [cp_f (by omega), if_pos ⟨rfl, hs⟩]
  · rw [cp_l, if_pos ⟨rfl, hs⟩]
  · rw [cp_a hab, if_pos ⟨rfl, hs⟩]
  · rw [cp_a hab, if_neg (fun q => absurd q.1 (by omega)), if_pos ⟨rfl, hs⟩]
  · rw [cp_a hab, if_neg (fun q => absurd q.1 (by omega)), if_neg (fun q => absurd q.1 (by omega)), if_pos ⟨rfl, hs⟩]
  · rw [cp_a hab, if_neg (fun q => absurd q.1 (by omega)), if_neg (fun q => absurd q.1 (by omega)), if_neg (fun q => absurd q.1 (by omega)), if_pos ⟨rfl, hs⟩]
theorem wv_copy_other {h : gk_H} {a b c : Nat} (hab : a + 5 < b ∨ b + 5 < a) (hac : a + 5 < c ∨ c + 5 < a) : wv (hv_copy h a b) c = wv h c := by
  have n : ∀ i j : Nat, i ≤ 5 → j ≤ 5 → ¬ c + i = a + j := by intro i j h1 h2; omega
  have cpa : ∀ i s : Nat, i ≤ 5 → (hv_copy h a b).2.1 (c + i) s = h.2.1 (c + i) s := by
    intro i s hi
    rw [cp_a hab, if_neg (fun q => n i 2 hi (by decide) q.1), if_neg (fun q => n i 3 hi (by decide) q.1), if_neg (fun q => n i 4 hi (by decide) q.1), if_neg (fun q => n i 5 hi (by decide) q.1)]
  refine wv_eq (fun s hs => ?_) (fun s hs => ?_) (fun s hs => cpa 2 s (by decide)) (fun s hs => cpa 3 s (by decide)) (fun s hs => cpa 4 s (by decide)) (fun s hs => cpa 5 s (by decide))
  · rw [cp_f (by omega), if_neg (fun q => absurd q.1 (by omega))]
  · rw [cp_l, if_neg (fun q => n 1 1 (by decide) (by decide) q.1)]
theorem wv_hf {h : gk_H} {k i a : Nat} {x : Int32} (hk : ¬ a = k) : wv (gk_hf h k i x) a = wv h a :=
  wv_eq (fun s _ => by rw [hf_f, if_neg (fun q => hk q.1)]) (fun _ _ => rfl) (fun _ _ => rfl) (fun _ _ => rfl) (fun _ _ => rfl) (fun _ _ => rfl)
/-- the ring of the class: n kept worlds with the views ws -/
def cU (h : gk_H) (f n : Nat) (ws : Nat → gk_WV) : Prop := f < 6 ∧ n ≤ 6 ∧ h.1 20 1 = nI f ∧ h.1 20 2 = nI n ∧ ∀ i, i < n → wv h (22 + 6 * ((f + i) % 6)) = ws i
/-- the rows of the reference -/
def mU (h : gk_H) (n : Nat) (rs : Nat → Nat → Int32) : Prop := n ≤ 6 ∧ h.1 112 3 = nI n ∧ ∀ i, i < n → rv h 114 (131 * i) = rs i
/-- what keeping does to a sequence -/
def kpN (n : Nat) : Nat := if n = 6 then 6 else n + 1
def kpS {α : Type} (n : Nat) (ws : Nat → α) (x : α) : Nat → α := fun i => if n = 6 then (if i < 5 then ws (i + 1) else x) else (if i = n then x else ws i)
theorem kp_rel {α β : Type} {R : α → β → Prop} {n : Nat} {ws : Nat → α} {rs : Nat → β} {x : α} {y : β} (h : ∀ i, i < n → R (ws i) (rs i)) (hxy : R x y) : ∀ i, i < kpN n → R (kpS n ws x i) (kpS n rs y i) := by
  intro i hi
  unfold kpN at hi
  unfold kpS
  by_cases q : n = 6
  · rw [if_pos q] at hi
    rw [if_pos q, if_pos q]
    by_cases q2 : i < 5
    · rw [if_pos q2, if_pos q2]; exact h (i + 1) (by omega)
    · rw [if_neg q2, if_neg q2]; exact hxy
  · rw [if_neg q] at hi
    rw [if_neg q, if_neg q]
    by_cases q2 : i = n
    · rw [if_pos q2, if_pos q2]; exact hxy
    · rw [if_neg q2, if_neg q2]; exact h i (by omega)
