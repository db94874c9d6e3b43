/-! the law's text, read: plain functions of the tokens -/
abbrev gTk : Type := (Nat → Nat) × (Nat → Nat) × (Nat → Nat)
abbrev pRe (α : Type) : Type := Except (Nat × Nat) α
def OC {α : Type} (R : pRe α) (ke : Nat × Nat → Prop) (ko : α → Prop) : Prop := match R with
  | .error e => ke e
  | .ok a => ko a
theorem OC_mo {α : Type} {R : pRe α} {ke ke' : Nat × Nat → Prop} {ko ko' : α → Prop} (h : OC R ke ko) (he : ∀ e, ke e → ke' e) (ho : ∀ a, R = .ok a → ko a → ko' a) : OC R ke' ko' := by
  cases R with
  | error e => exact he e h
  | ok a => exact ho a rfl h
theorem OC_bi {α β : Type} {R : pRe α} {f : α → pRe β} {ke ke' : Nat × Nat → Prop} {ko : β → Prop} {ko' : α → Prop} (h : OC (R.bind f) ke ko) (he : ∀ e, ke e → ke' e) (ho : ∀ a, R = .ok a → OC (f a) ke ko → ko' a) : OC R ke' ko' := by
  cases R with
  | error e => exact he e h
  | ok a => exact ho a rfl h
theorem bind_ok {α β : Type} {R : pRe α} {f : α → pRe β} {y : β} (h : R.bind f = .ok y) : ∃ x, R = .ok x ∧ f x = .ok y := by
  cases R with
  | error e => cases h
  | ok a => exact ⟨a, rfl, h⟩
def okK (τ : gTk) (n : Nat) : Prop := (∀ p, p < n → p < τ.2.2 p ∧ τ.2.2 p ≤ n) ∧ (∀ p, n ≤ p → τ.1 p = 0) ∧ ∀ p, τ.1 p = 1 → τ.2.1 p < 10000
/-- a number lo .. hi - 1 that isn't un -/
def pN (τ : gTk) (lo hi un p : Nat) : pRe (Nat × Nat) := if τ.1 p = 1 then (if lo ≤ τ.2.1 p ∧ τ.2.1 p < hi ∧ ¬ τ.2.1 p = un then .ok (τ.2.2 p, τ.2.1 p) else .error (2, p)) else .error (1, p)
def pT (τ : gTk) (k p : Nat) : pRe Nat := if τ.1 p = k then .ok (τ.2.2 p) else .error (1, p)
def pU (τ : gTk) (p : Nat) : pRe (Nat × (Int32 × Int32)) := if τ.1 p = 1 then .ok (τ.2.2 p, (0, nI (τ.2.1 p))) else if 107 ≤ τ.1 p ∧ τ.1 p ≤ 115 then .ok (τ.2.2 p, (1, nI (τ.1 p - 107))) else .error (1, p)
def wt (w : Nat) : gSg := if w = 0 then [] else [(nI w, 0)]
def wl (w : Nat) : Nat := if w = 0 then 0 else 1
def pS (τ : gTk) : Nat → Nat → Nat → gSg → pRe (Nat × gSg)
  | 0, w, p, c => .ok (p, c ++ wt w)
  | f + 1, w, p, c => if τ.1 p = 43 ∨ τ.1 p = 45 then (pU τ (τ.2.2 p)).bind (fun x => pS τ f (if τ.1 p = 43 then 2 else 3) x.1 ((c ++ wt w) ++ [x.2])) else if τ.1 p = 42 then (pU τ (τ.2.2 p)).bind (fun x => pS τ f w x.1 ((c ++ [x.2]) ++ [(4, 0)])) else if τ.1 p = 47 then (pN τ 1 10000 10000 (τ.2.2 p)).bind (fun x => pS τ f w x.1 (c ++ [(5, nI x.2)])) else .ok (p, c ++ wt w)
def pSum (τ : gTk) (p : Nat) (c : gSg) : pRe (Nat × gSg) := (pU τ p).bind (fun x => pS τ 400 0 x.1 (c ++ [x.2]))
def pCmp (τ : gTk) (p : Nat) (c : gSg) : pRe (Nat × gSg) := (pSum τ p c).bind (fun x => if 60 ≤ τ.1 x.1 ∧ τ.1 x.1 ≤ 62 then (pSum τ (τ.2.2 x.1) x.2).bind (fun y => .ok (y.1, y.2 ++ [(nI (τ.1 x.1 - 54), 0)])) else .error (1, x.1))
def pCnd (τ : gTk) (one : Nat → gSg → pRe (Nat × gSg)) : Nat → Nat → Nat → gSg → pRe (Nat × gSg)
  | 0, w, p, c => .ok (p, c ++ wt w)
  | f + 1, w, p, c => if τ.1 p = 105 then (one (τ.2.2 p) c).bind (fun x => pCnd τ one f w x.1 (x.2 ++ [(10, 0)])) else if τ.1 p = 104 then (one (τ.2.2 p) (c ++ wt w)).bind (fun x => pCnd τ one f 11 x.1 x.2) else .ok (p, c ++ wt w)
def pOne (τ : gTk) : Nat → Nat → gSg → pRe (Nat × gSg)
  | 0, p, c => if τ.1 p = 106 ∨ τ.1 p = 40 then .error (3, p) else pCmp τ p c
  | m + 1, p, c => if τ.1 p = 106 then (pOne τ m (τ.2.2 p) c).bind (fun x => .ok (x.1, x.2 ++ [(9, 0)])) else if τ.1 p = 40 then ((pOne τ m (τ.2.2 p) c).bind (fun x => pCnd τ (pOne τ m) 400 0 x.1 x.2)).bind (fun y => (pT τ 41 y.1).bind (fun q => .ok (q, y.2))) else pCmp τ p c
def pAny (τ : gTk) (m p : Nat) (c : gSg) : pRe (Nat × gSg) := (pOne τ m p c).bind (fun x => pCnd τ (pOne τ m) 400 0 x.1 x.2)
abbrev gLe : Type := Nat × gSg × gSg × gSg
/-- the law's lines so far (word, codes before, behind its value, behind its when), all codes -/
abbrev gLw : Type := List gLe × gSg
def lwL (τ : gTk) (p : Nat) (a : gLw) : pRe (Nat × gLw) := (pSum τ (τ.2.2 p) a.2).bind (fun x => (if τ.1 x.1 = 103 then pAny τ 8 (τ.2.2 x.1) x.2 else .ok x).bind (fun y => (pT τ 59 y.1).bind (fun q => .ok (q, (a.1 ++ [(τ.1 p - 100, a.2, x.2, y.2)], y.2)))))
/-- lines: which begin so, each read by line -/
def pTx (τ : gTk) {σ : Type} (beg : Nat → Bool) (line : Nat → σ → pRe (Nat × σ)) : Nat → Nat → Nat → σ → pRe (Nat × σ)
  | 0, k, _, a => .ok (k, a)
  | f + 1, k, p, a => if τ.1 p = 0 then .ok (k, a) else if beg (τ.1 p) = true then (if k < 16 then (line p a).bind (fun x => pTx τ beg line f (k + 1) x.1 x.2) else .error (3, p)) else .error (1, p)
/-- the reference's codes of the same -/
def X (c : gSg) : gSg := c.flatMap (fun x => if x.1 = 5 then [(0, x.2), (5, 0)] else [x])
theorem X_app (a b : gSg) : X (a ++ b) = X a ++ X b := List.flatMap_append
theorem X_nil : X [] = [] := rfl
theorem X_one {x : Int32 × Int32} (h : ¬ x.1 = 5) : X [x] = [x] := by
  show (if x.1 = 5 then [((0 : Int32), x.2), (5, 0)] else [x]) ++ [] = [x]
  rw [if_neg h]; rfl
theorem X_five (k : Int32) : X [((5 : Int32), k)] = [(0, k), (5, 0)] := rfl
theorem X_len (c : gSg) : c.length ≤ (X c).length := by
  induction c with
  | nil => exact Nat.le_refl _
  | cons x r ih =>
    rw [show x :: r = [x] ++ r from rfl, X_app, List.length_append, List.length_append]
    have : 1 ≤ (X [x]).length := by
      by_cases q : x.1 = 5
      · show 1 ≤ ((if x.1 = 5 then [((0 : Int32), x.2), (5, 0)] else [x]) ++ []).length
        rw [if_pos q]; exact Nat.le_succ_of_le (Nat.le_refl _)
      · rw [X_one q]; exact Nat.le_refl _
    show 1 + r.length ≤ _
    omega
theorem X_ne {c : gSg} : c = [] ↔ X c = [] := by
  constructor
  · intro h; rw [h]; rfl
  · intro h
    have := X_len c
    rw [h] at this
    exact List.length_eq_zero_iff.mp (by simpa using this)
theorem wt_0 : wt 0 = [] := rfl
theorem wt_s {w : Nat} (h : ¬ w = 0) : wt w = [(nI w, 0)] := by unfold wt; rw [if_neg h]
theorem X_wt {w : Nat} (h : w = 0 ∨ w = 2 ∨ w = 3 ∨ w = 11) : X (wt w) = wt w := by
  rcases h with h | h | h | h
  · rw [h]; rfl
  · rw [h]; rfl
  · rw [h]; rfl
  · rw [h]; rfl
theorem wt_l {w : Nat} : (wt w).length = wl w := by
  unfold wt wl
  split
  · rfl
  · rfl
section BND
variable {τ : gTk} {n : Nat}
theorem okK_lt (o : okK τ n) {p : Nat} (h : ¬ τ.1 p = 0) : p < n := Classical.byContradiction fun q => h (o.2.1 p (by omega))
theorem bU (o : okK τ n) {p : Nat} {x : Nat × (Int32 × Int32)} (e : pU τ p = .ok x) : p < n ∧ p < x.1 ∧ x.1 ≤ n ∧ X [x.2] = [x.2] := by
  unfold pU at e
  split at e
  · rename_i q
    have hp := okK_lt o (p := p) (by omega)
    cases e
    exact ⟨hp, (o.1 p hp).1, (o.1 p hp).2, rfl⟩
  · split at e
    · rename_i q
      have hp := okK_lt o (p := p) (by omega)
      cases e
      exact ⟨hp, (o.1 p hp).1, (o.1 p hp).2, rfl⟩
    · cases e
theorem bN (o : okK τ n) {lo hi un p : Nat} {x : Nat × Nat} (e : pN τ lo hi un p = .ok x) : p < n ∧ p < x.1 ∧ x.1 ≤ n ∧ lo ≤ x.2 ∧ x.2 < hi ∧ x.2 < 10000 ∧ ¬ x.2 = un := by
  unfold pN at e
  split at e
  · rename_i q
    have hp := okK_lt o (p := p) (by omega)
    have hv := o.2.2 p q
    split at e
    · rename_i q2
      cases e
      exact ⟨hp, (o.1 p hp).1, (o.1 p hp).2, q2.1, q2.2.1, hv, q2.2.2⟩
    · cases e
  · cases e
theorem bT (o : okK τ n) {k p x : Nat} (hk : ¬ k = 0) (e : pT τ k p = .ok x) : p < n ∧ x = τ.2.2 p ∧ p < x ∧ x ≤ n := by
  unfold pT at e
  split at e
  · rename_i q
    have hp := okK_lt o (p := p) (by omega)
    cases e
    exact ⟨hp, rfl, (o.1 p hp).1, (o.1 p hp).2⟩
  · cases e
theorem bS (o : okK τ n) : ∀ (f w p : Nat) (c : gSg) (j : Nat) (y : Nat × gSg), p ≤ n → (w = 0 ∨ w = 2 ∨ w = 3) → (X c).length + wl w + j ≤ p → pS τ f w p c = .ok y → (X y.2).length + j ≤ y.1 ∧ y.1 ≤ n ∧ p ≤ y.1 := by
  intro f
  induction f with
  | zero =>
    intro w p c j y hp hw hl e
    rw [pS] at e
    cases e
    rw [X_app, X_wt (by omega), List.length_append, wt_l]
    exact ⟨by omega, hp, Nat.le_refl _⟩
  | succ f ih =>
    intro w p c j y hp hw hl e
    rw [pS] at e
    split at e
    · rename_i q
      have hpn := o.1 p (okK_lt o (by omega))
      obtain ⟨x, ex, e⟩ := bind_ok e
      obtain ⟨u1, u2, u3, u4⟩ := bU o ex
      have := ih _ _ _ j y u3 (by split <;> omega) (by
        rw [X_app, X_app, X_wt (by omega), u4, List.length_append, List.length_append, wt_l]
        have : wl (if τ.1 p = 43 then 2 else 3) = 1 := by split <;> rfl
        rw [this]
        show (X c).length + wl w + 1 + 1 + j ≤ x.1
        omega) e
      exact ⟨this.1, this.2.1, by omega⟩
    · split at e
      · rename_i q
        have hpn := o.1 p (okK_lt o (by omega))
        obtain ⟨x, ex, e⟩ := bind_ok e
        obtain ⟨u1, u2, u3, u4⟩ := bU o ex
        have := ih _ _ _ j y u3 hw (by
          rw [X_app, X_app, u4, List.length_append, List.length_append]
          show (X c).length + 1 + 1 + wl w + j ≤ x.1
          omega) e
        exact ⟨this.1, this.2.1, by omega⟩
      · split at e
        · rename_i q
          have hpn := o.1 p (okK_lt o (by omega))
          obtain ⟨x, ex, e⟩ := bind_ok e
          obtain ⟨u1, u2, u3, -⟩ := bN o ex
          have := ih _ _ _ j y u3 hw (by
            rw [X_app, X_five, List.length_append]
            show (X c).length + 2 + wl w + j ≤ x.1
            omega) e
          exact ⟨this.1, this.2.1, by omega⟩
        · cases e
          rw [X_app, X_wt (by omega), List.length_append, wt_l]
          exact ⟨by omega, hp, Nat.le_refl _⟩
theorem bSum (o : okK τ n) {p : Nat} {c : gSg} {j : Nat} {y : Nat × gSg} (hl : (X c).length + j ≤ p) (e : pSum τ p c = .ok y) : (X y.2).length + j ≤ y.1 ∧ y.1 ≤ n ∧ p < y.1 := by
  obtain ⟨x, ex, e⟩ := bind_ok e
  obtain ⟨u1, u2, u3, u4⟩ := bU o ex
  have := bS o 400 0 x.1 _ j y u3 (Or.inl rfl) (by
    rw [X_app, u4, List.length_append]
    show (X c).length + 1 + 0 + j ≤ x.1
    omega) e
  exact ⟨this.1, this.2.1, by omega⟩
theorem bCmp (o : okK τ n) {p : Nat} {c : gSg} {j : Nat} {y : Nat × gSg} (hl : (X c).length + j ≤ p) (e : pCmp τ p c = .ok y) : (X y.2).length + j ≤ y.1 ∧ y.1 ≤ n ∧ p ≤ y.1 := by
  obtain ⟨x, ex, e⟩ := bind_ok e
  obtain ⟨u1, u2, u3⟩ := bSum o hl ex
  split at e
  · rename_i q
    have hpn := o.1 x.1 (okK_lt o (by omega))
    obtain ⟨z, ez, e⟩ := bind_ok e
    obtain ⟨v1, v2, v3⟩ := bSum o (j := j + 1) (by omega) ez
    cases e
    have : X [(nI (τ.1 x.1 - 54), (0 : Int32))] = [(nI (τ.1 x.1 - 54), 0)] := X_one (by
      intro h
      have := (nI_eq (b := 5) (by omega) (by decide)).mp h
      omega)
    rw [X_app, this, List.length_append]
    show (X z.2).length + 1 + j ≤ z.1 ∧ z.1 ≤ n ∧ p ≤ z.1
    omega
  · cases e
theorem bCnd (o : okK τ n) {one : Nat → gSg → pRe (Nat × gSg)} (h1 : ∀ p c j y, p ≤ n → (X c).length + j ≤ p → one p c = .ok y → (X y.2).length + j ≤ y.1 ∧ y.1 ≤ n ∧ p ≤ y.1) : ∀ (f w p : Nat) (c : gSg) (j : Nat) (y : Nat × gSg), p ≤ n → (w = 0 ∨ w = 11) → (X c).length + wl w + j ≤ p → pCnd τ one f w p c = .ok y → (X y.2).length + j ≤ y.1 ∧ y.1 ≤ n ∧ p ≤ y.1 := by
  intro f
  induction f with
  | zero =>
    intro w p c j y hp hw hl e
    rw [pCnd] at e
    cases e
    rw [X_app, X_wt (by omega), List.length_append, wt_l]
    exact ⟨by omega, hp, Nat.le_refl _⟩
  | succ f ih =>
    intro w p c j y hp hw hl e
    rw [pCnd] at e
    split at e
    · rename_i q
      have hpn := o.1 p (okK_lt o (by omega))
      obtain ⟨x, ex, e⟩ := bind_ok e
      obtain ⟨u1, u2, u3⟩ := h1 _ _ (wl w + j + 1) _ hpn.2 (by omega) ex
      have := ih _ _ _ j y u2 hw (by
        rw [X_app, List.length_append]
        show (X x.2).length + 1 + wl w + j ≤ x.1
        omega) e
      exact ⟨this.1, this.2.1, by omega⟩
    · split at e
      · rename_i q
        have hpn := o.1 p (okK_lt o (by omega))
        obtain ⟨x, ex, e⟩ := bind_ok e
        obtain ⟨u1, u2, u3⟩ := h1 _ _ (j + 1) _ hpn.2 (by rw [X_app, X_wt (by omega), List.length_append, wt_l]; omega) ex
        have := ih _ _ _ j y u2 (Or.inr rfl) (by
          show (X x.2).length + 1 + j ≤ x.1
          omega) e
        exact ⟨this.1, this.2.1, by omega⟩
      · cases e
        rw [X_app, X_wt (by omega), List.length_append, wt_l]
        exact ⟨by omega, hp, Nat.le_refl _⟩
theorem bOne (o : okK τ n) : ∀ (m p : Nat) (c : gSg) (j : Nat) (y : Nat × gSg), p ≤ n → (X c).length + j ≤ p → pOne τ m p c = .ok y → (X y.2).length + j ≤ y.1 ∧ y.1 ≤ n ∧ p ≤ y.1 := by
  intro m
  induction m with
  | zero =>
    intro p c j y hp hl e
    rw [pOne] at e
    split at e
    · cases e
    · exact bCmp o hl e
  | succ m ih =>
    intro p c j y hp hl e
    rw [pOne] at e
    split at e
    · rename_i q
      have hpn := o.1 p (okK_lt o (by omega))
      obtain ⟨x, ex, e⟩ := bind_ok e
      obtain ⟨u1, u2, u3⟩ := ih _ _ (j + 1) _ hpn.2 (by omega) ex
      cases e
      rw [X_app, List.length_append]
      show (X x.2).length + 1 + j ≤ x.1 ∧ x.1 ≤ n ∧ p ≤ x.1
      omega
    · split at e
      · rename_i q
        have hpn := o.1 p (okK_lt o (by omega))
        obtain ⟨z, ez, e⟩ := bind_ok e
        obtain ⟨x, ex, ez⟩ := bind_ok ez
        obtain ⟨u1, u2, u3⟩ := ih _ _ j _ hpn.2 (by omega) ex
        obtain ⟨v1, v2, v3⟩ := bCnd o ih 400 0 _ _ j _ u2 (Or.inl rfl) u1 ez
        obtain ⟨r, er, e⟩ := bind_ok e
        obtain ⟨w1, w2, w3, w4⟩ := bT o (by decide) er
        cases e
        show (X z.2).length + j ≤ r ∧ r ≤ n ∧ p ≤ r
        omega
      · exact bCmp o hl e
theorem bAny (o : okK τ n) {m p : Nat} {c : gSg} {j : Nat} {y : Nat × gSg} (hp : p ≤ n) (hl : (X c).length + j ≤ p) (e : pAny τ m p c = .ok y) : (X y.2).length + j ≤ y.1 ∧ y.1 ≤ n ∧ p ≤ y.1 := by
  obtain ⟨x, ex, e⟩ := bind_ok e
  obtain ⟨u1, u2, u3⟩ := bOne o m p c j x hp hl ex
  have := bCnd o (bOne o m) 400 0 _ _ j y u2 (Or.inl rfl) u1 e
  exact ⟨this.1, this.2.1, by omega⟩
theorem bLine (o : okK τ n) {p : Nat} {a : gLw} {y : Nat × gLw} (hp : p < n) (hl : (X a.2).length ≤ p) (e : lwL τ p a = .ok y) : (X y.2.2).length ≤ y.1 ∧ y.1 ≤ n := by
  have hpn := o.1 p hp
  obtain ⟨x, ex, e⟩ := bind_ok e
  obtain ⟨u1, u2, u3⟩ := bSum o (j := 0) (by omega) ex
  obtain ⟨z, ez, e⟩ := bind_ok e
  have hz : (X z.2).length ≤ z.1 ∧ z.1 ≤ n := by
    split at ez
    · rename_i q
      have hxn := o.1 x.1 (okK_lt o (by omega))
      have := bAny o (j := 0) hxn.2 (by omega) ez
      exact ⟨this.1, this.2.1⟩
    · cases ez; exact ⟨u1, u2⟩
  obtain ⟨r, er, e⟩ := bind_ok e
  obtain ⟨w1, w2, w3, w4⟩ := bT o (by decide) er
  cases e
  show (X z.2).length ≤ r ∧ r ≤ n
  omega
end BND
/-! what the codes tell: the same on both sides -/
def isB (v : Int32) : Prop := v = 0 ∨ v = 1
def EV (κ : Nat → Int32) (c0 : gSg) (st : List Int32) (c : gSg) : Prop := ∃ δ, c = c0 ++ δ ∧ rC κ δ [] = some st ∧ rR κ (X δ) [] = some st
section EVS
variable {κ : Nat → Int32} {c0 : gSg} {st : List Int32} {c : gSg}
theorem EV_0 : EV κ c [] c := ⟨[], (List.append_nil c).symm, rfl, rfl⟩
theorem EV_st {x : Int32 × Int32} {st' : List Int32} (h : EV κ c0 st c) (h1 : stC κ x st = some st') (h2 : rR κ (X [x]) st = some st') : EV κ c0 st' (c ++ [x]) := by
  obtain ⟨δ, e1, e2, e3⟩ := h
  refine ⟨δ ++ [x], by rw [e1, List.append_assoc], ?_, ?_⟩
  · rw [rC_app, e2]
    show (stC κ x st).bind (rC κ []) = _
    rw [h1]; rfl
  · rw [X_app, rR_app, e3]
    exact h2
theorem rR_1 {x : Int32 × Int32} {st' : List Int32} (h : ¬ x.1 = 5) (h1 : stR κ x st = some st') : rR κ (X [x]) st = some st' := by
  rw [X_one h]
  show (stR κ x st).bind (rR κ []) = _
  rw [h1]; rfl
theorem EV_num {v : Nat} (h : EV κ c0 st c) (hs : st.length < 22) (hv : v < 2 ^ 31) : EV κ c0 (nI v :: st) (c ++ [(0, nI v)]) := by
  refine EV_st h ?_ (rR_1 (show ¬ (0 : Int32) = 5 by decide) ?_)
  · unfold stC; rw [if_pos rfl, if_pos ⟨hs, nI_pos' hv⟩]
  · unfold stR; rw [if_pos rfl, if_pos (by omega)]
theorem EV_ask {v : Nat} (h : EV κ c0 st c) (hs : st.length < 22) (hv : v < 9) : EV κ c0 (κ v :: st) (c ++ [(1, nI v)]) := by
  have l1 : (0 : Int32) ≤ nI v ∧ nI v < 9 := ⟨nI_pos' (by omega), nI_lt (b := 9) hv (by decide)⟩
  refine EV_st h ?_ (rR_1 (show ¬ (1 : Int32) = 5 by decide) ?_)
  · unfold stC
    rw [if_neg (show ¬ (1 : Int32) = 0 by decide), if_pos rfl, if_pos ⟨hs, l1.1, l1.2⟩]
    show some (κ (nI v).toNatClampNeg :: st) = _
    rw [nI_clamp (by omega)]
  · unfold stR
    rw [if_neg (show ¬ (1 : Int32) = 0 by decide), if_pos rfl, if_pos ⟨by omega, l1.1, l1.2⟩]
    show some (κ (nI v).toNatClampNeg :: st) = _
    rw [nI_clamp (by omega)]
theorem EV_bin {o a b : Int32} (h : EV κ c0 (b :: a :: st) c) (ho : o = 2 ∨ o = 3 ∨ o = 4 ∨ o = 6 ∨ o = 7 ∨ o = 8) : EV κ c0 (opJ o a b :: st) (c ++ [(o, 0)]) := by
  rcases ho with q | q | q | q | q | q
  all_goals
    subst q
    exact EV_st h rfl (rR_1 (by decide) rfl)
theorem EV_part {a : Int32} {v : Nat} (h : EV κ c0 (a :: st) c) (hs : st.length < 22) (hv : v < 2 ^ 31) (h0 : ¬ v = 0) : EV κ c0 (a / nI v :: st) (c ++ [(5, nI v)]) := by
  have n0 : ¬ nI v = 0 := fun z => h0 ((nI_eq (b := 0) hv (by decide)).mp z)
  refine EV_st h ?_ ?_
  · unfold stC
    rw [if_neg (show ¬ (5 : Int32) = 0 by decide), if_neg (show ¬ (5 : Int32) = 1 by decide), if_pos rfl]
    show (if nI v = 0 then none else some (a / nI v :: st)) = _
    rw [if_neg n0]
  · rw [X_five]
    show (stR κ (0, nI v) (a :: st)).bind (rR κ [(5, 0)]) = _
    have e : stR κ (0, nI v) (a :: st) = some (nI v :: a :: st) := by
      unfold stR
      rw [if_pos rfl, if_pos (by show st.length + 1 < 400; omega)]
    rw [e]
    show (stR κ (5, 0) (nI v :: a :: st)).bind (rR κ []) = _
    have e2 : stR κ (5, 0) (nI v :: a :: st) = some (a / nI v :: st) := by
      unfold stR
      rw [if_neg (by decide), if_neg (by decide), if_neg (by decide)]
      show (if (5 : Int32) = 5 ∧ nI v = 0 then none else some (opR 5 a (nI v) :: st)) = _
      rw [if_neg (fun q => n0 q.2)]
      rfl
    rw [e2]; rfl
theorem EV_not {a : Int32} (h : EV κ c0 (a :: st) c) (hb : isB a) : ∃ b, isB b ∧ EV κ c0 (b :: st) (c ++ [(9, 0)]) := by
  refine ⟨1 - a, ?_, EV_st h rfl (rR_1 (by decide) rfl)⟩
  rcases hb with q | q
  · rw [q]; exact Or.inr (by decide)
  · rw [q]; exact Or.inl (by decide)
theorem EV_and {a b : Int32} (h : EV κ c0 (b :: a :: st) c) (ha : isB a) (hb : isB b) : ∃ b, isB b ∧ EV κ c0 (b :: st) (c ++ [(10, 0)]) := by
  rcases ha with qa | qa
  all_goals
    rcases hb with qb | qb
    all_goals
      subst qa
      subst qb
  · exact ⟨0, Or.inl rfl, EV_st h (by rfl) (rR_1 (by decide) (by rfl))⟩
  · exact ⟨0, Or.inl rfl, EV_st h (by rfl) (rR_1 (by decide) (by rfl))⟩
  · exact ⟨0, Or.inl rfl, EV_st h (by rfl) (rR_1 (by decide) (by rfl))⟩
  · exact ⟨1, Or.inr rfl, EV_st h (by rfl) (rR_1 (by decide) (by rfl))⟩
theorem EV_or {a b : Int32} (h : EV κ c0 (b :: a :: st) c) (ha : isB a) (hb : isB b) : ∃ b, isB b ∧ EV κ c0 (b :: st) (c ++ [(11, 0)]) := by
  rcases ha with qa | qa
  all_goals
    rcases hb with qb | qb
    all_goals
      subst qa
      subst qb
  · exact ⟨0, Or.inl rfl, EV_st h (by rfl) (rR_1 (by decide) (by rfl))⟩
  · exact ⟨1, Or.inr rfl, EV_st h (by rfl) (rR_1 (by decide) (by rfl))⟩
  · exact ⟨1, Or.inr rfl, EV_st h (by rfl) (rR_1 (by decide) (by rfl))⟩
  · exact ⟨1, Or.inr rfl, EV_st h (by rfl) (rR_1 (by decide) (by rfl))⟩
end EVS
section EVP
variable {τ : gTk} {n : Nat} {κ : Nat → Int32} {c0 : gSg}
theorem eU (o : okK τ n) {p : Nat} {x : Nat × (Int32 × Int32)} {st : List Int32} {c : gSg} (e : pU τ p = .ok x) (h : EV κ c0 st c) (hs : st.length < 22) : ∃ v, EV κ c0 (v :: st) (c ++ [x.2]) := by
  unfold pU at e
  split at e
  · rename_i q
    have := o.2.2 p q
    cases e
    exact ⟨_, EV_num h hs (by omega)⟩
  · split at e
    · rename_i q
      cases e
      exact ⟨_, EV_ask h hs (by omega)⟩
    · cases e
theorem eW {st : List Int32} {w : Nat} {c : gSg} (h : (w = 0 ∧ ∃ v, EV κ c0 (v :: st) c) ∨ ((w = 2 ∨ w = 3) ∧ ∃ v u, EV κ c0 (v :: u :: st) c)) : ∃ v, EV κ c0 (v :: st) (c ++ wt w) := by
  rcases h with ⟨q, v, h⟩ | ⟨q, v, u, h⟩
  · rw [q, wt_0, List.append_nil]; exact ⟨v, h⟩
  · rw [wt_s (by omega)]
    refine ⟨_, EV_bin h ?_⟩
    rcases q with q | q
    · exact Or.inl (by rw [q]; rfl)
    · exact Or.inr (Or.inl (by rw [q]; rfl))
theorem eS (o : okK τ n) {st : List Int32} (hs : st.length ≤ 19) : ∀ (f w p : Nat) (c : gSg) (y : Nat × gSg), ((w = 0 ∧ ∃ v, EV κ c0 (v :: st) c) ∨ ((w = 2 ∨ w = 3) ∧ ∃ v u, EV κ c0 (v :: u :: st) c)) → pS τ f w p c = .ok y → ∃ v, EV κ c0 (v :: st) y.2 := by
  intro f
  induction f with
  | zero =>
    intro w p c y h e
    rw [pS] at e
    cases e
    exact eW h
  | succ f ih =>
    intro w p c y h e
    rw [pS] at e
    split at e
    · obtain ⟨x, ex, e⟩ := bind_ok e
      obtain ⟨v, hv⟩ := eW h
      obtain ⟨u, hu⟩ := eU o ex hv (by show st.length + 1 < 22; omega)
      exact ih _ _ _ y (Or.inr ⟨by split <;> omega, _, _, hu⟩) e
    · split at e
      · obtain ⟨x, ex, e⟩ := bind_ok e
        refine ih _ _ _ y ?_ e
        rcases h with ⟨q, v, h⟩ | ⟨q, v, u, h⟩
        · obtain ⟨u, hu⟩ := eU o ex h (by show st.length + 1 < 22; omega)
          exact Or.inl ⟨q, _, EV_bin hu (by decide)⟩
        · obtain ⟨z, hz⟩ := eU o ex h (by show st.length + 1 + 1 < 22; omega)
          exact Or.inr ⟨q, _, _, EV_bin hz (by decide)⟩
      · split at e
        · obtain ⟨x, ex, e⟩ := bind_ok e
          obtain ⟨-, -, -, n1, n2, -, -⟩ := bN o ex
          refine ih _ _ _ y ?_ e
          rcases h with ⟨q, v, h⟩ | ⟨q, v, u, h⟩
          · exact Or.inl ⟨q, _, EV_part h (by omega) (by omega) (by omega)⟩
          · exact Or.inr ⟨q, _, _, EV_part h (by show st.length + 1 < 22; omega) (by omega) (by omega)⟩
        · cases e
          exact eW h
theorem eSum (o : okK τ n) {st : List Int32} (hs : st.length ≤ 19) {p : Nat} {c : gSg} {y : Nat × gSg} (h : EV κ c0 st c) (e : pSum τ p c = .ok y) : ∃ v, EV κ c0 (v :: st) y.2 := by
  obtain ⟨x, ex, e⟩ := bind_ok e
  obtain ⟨u, hu⟩ := eU o ex h (by omega)
  exact eS o hs _ _ _ _ y (Or.inl ⟨rfl, _, hu⟩) e
theorem opJ_B {o a b : Int32} (h : o = 6 ∨ o = 7 ∨ o = 8) : isB (opJ o a b) := by
  rcases h with q | q | q
  · rw [q]
    show isB (if a < b then 1 else 0)
    split
    · exact Or.inr rfl
    · exact Or.inl rfl
  · rw [q]
    show isB (if a = b then 1 else 0)
    split
    · exact Or.inr rfl
    · exact Or.inl rfl
  · rw [q]
    show isB (if b < a then 1 else 0)
    split
    · exact Or.inr rfl
    · exact Or.inl rfl
theorem eCmp (o : okK τ n) {st : List Int32} (hs : st.length ≤ 18) {p : Nat} {c : gSg} {y : Nat × gSg} (h : EV κ c0 st c) (e : pCmp τ p c = .ok y) : ∃ v, isB v ∧ EV κ c0 (v :: st) y.2 := by
  obtain ⟨x, ex, e⟩ := bind_ok e
  obtain ⟨a, ha⟩ := eSum o (by omega) h ex
  split at e
  · rename_i q
    obtain ⟨z, ez, e⟩ := bind_ok e
    obtain ⟨b, hb⟩ := eSum o (by show st.length + 1 ≤ 19; omega) ha ez
    have ho : nI (τ.1 x.1 - 54) = 6 ∨ nI (τ.1 x.1 - 54) = 7 ∨ nI (τ.1 x.1 - 54) = 8 := by
      rcases (show τ.1 x.1 = 60 ∨ τ.1 x.1 = 61 ∨ τ.1 x.1 = 62 by omega) with r | r | r
      · rw [r]; exact Or.inl rfl
      · rw [r]; exact Or.inr (Or.inl rfl)
      · rw [r]; exact Or.inr (Or.inr rfl)
    cases e
    exact ⟨_, opJ_B ho, EV_bin hb (by rcases ho with r | r | r <;> rw [r] <;> decide)⟩
  · cases e
theorem eCnd {one : Nat → gSg → pRe (Nat × gSg)} {st : List Int32} (h1 : ∀ (st' : List Int32) p c y, st'.length ≤ st.length + 2 → EV κ c0 st' c → one p c = .ok y → ∃ v, isB v ∧ EV κ c0 (v :: st') y.2) : ∀ (f w p : Nat) (c : gSg) (y : Nat × gSg), ((w = 0 ∧ ∃ v, isB v ∧ EV κ c0 (v :: st) c) ∨ (w = 11 ∧ ∃ v u, isB v ∧ isB u ∧ EV κ c0 (v :: u :: st) c)) → pCnd τ one f w p c = .ok y → ∃ v, isB v ∧ EV κ c0 (v :: st) y.2 := by
  have we : ∀ (w : Nat) (c : gSg), ((w = 0 ∧ ∃ v, isB v ∧ EV κ c0 (v :: st) c) ∨ (w = 11 ∧ ∃ v u, isB v ∧ isB u ∧ EV κ c0 (v :: u :: st) c)) → ∃ v, isB v ∧ EV κ c0 (v :: st) (c ++ wt w) := by
    intro w c h
    rcases h with ⟨q, v, b, h⟩ | ⟨q, v, u, b, b2, h⟩
    · rw [q, wt_0, List.append_nil]; exact ⟨v, b, h⟩
    · rw [q]; exact EV_or h b2 b
  intro f
  induction f with
  | zero =>
    intro w p c y h e
    rw [pCnd] at e
    cases e
    exact we w c h
  | succ f ih =>
    intro w p c y h e
    rw [pCnd] at e
    split at e
    · obtain ⟨x, ex, e⟩ := bind_ok e
      refine ih _ _ _ y ?_ e
      rcases h with ⟨q, v, b, h⟩ | ⟨q, v, u, b, b2, h⟩
      · obtain ⟨z, bz, hz⟩ := h1 _ _ _ _ (by show st.length + 1 ≤ _; omega) h ex
        obtain ⟨r, br, hr⟩ := EV_and hz b bz
        exact Or.inl ⟨q, r, br, hr⟩
      · obtain ⟨z, bz, hz⟩ := h1 _ _ _ _ (by show st.length + 1 + 1 ≤ _; omega) h ex
        obtain ⟨r, br, hr⟩ := EV_and hz b bz
        exact Or.inr ⟨q, r, u, br, b2, hr⟩
    · split at e
      · obtain ⟨x, ex, e⟩ := bind_ok e
        obtain ⟨v, b, hv⟩ := we w c h
        obtain ⟨z, bz, hz⟩ := h1 _ _ _ _ (by show st.length + 1 ≤ _; omega) hv ex
        exact ih _ _ _ y (Or.inr ⟨rfl, z, v, bz, b, hz⟩) e
      · cases e
        exact we w c h
theorem eOne (o : okK τ n) : ∀ (m : Nat) (st : List Int32) (p : Nat) (c : gSg) (y : Nat × gSg), st.length + 2 * m ≤ 18 → EV κ c0 st c → pOne τ m p c = .ok y → ∃ v, isB v ∧ EV κ c0 (v :: st) y.2 := by
  intro m
  induction m with
  | zero =>
    intro st p c y hs h e
    rw [pOne] at e
    split at e
    · cases e
    · exact eCmp o (by omega) h e
  | succ m ih =>
    intro st p c y hs h e
    rw [pOne] at e
    split at e
    · obtain ⟨x, ex, e⟩ := bind_ok e
      obtain ⟨v, b, hv⟩ := ih st _ _ _ (by omega) h ex
      cases e
      exact EV_not hv b
    · split at e
      · obtain ⟨z, ez, e⟩ := bind_ok e
        obtain ⟨x, ex, ez⟩ := bind_ok ez
        obtain ⟨v, b, hv⟩ := ih st _ _ _ (by omega) h ex
        have := eCnd (τ := τ) (st := st) (fun st' p c y hl hh he => ih st' p c y (by omega) hh he) 400 0 _ _ z (Or.inl ⟨rfl, v, b, hv⟩) ez
        obtain ⟨r, er, e⟩ := bind_ok e
        cases e
        exact this
      · exact eCmp o (by omega) h e
theorem eAny (o : okK τ n) {p : Nat} {c : gSg} {y : Nat × gSg} (e : pAny τ 8 p c = .ok y) : ∃ v, isB v ∧ EV κ c [v] y.2 := by
  obtain ⟨x, ex, e⟩ := bind_ok e
  obtain ⟨v, b, hv⟩ := eOne o 8 [] p c x (by decide) EV_0 ex
  exact eCnd (τ := τ) (st := []) (fun st' p c y hl hh he => eOne o 8 st' p c y (by simp at hl; omega) hh he) 400 0 _ _ y (Or.inl ⟨rfl, v, b, hv⟩) e
end EVP
/-- a line's codes, and that both sides tell the same by them -/
theorem eLine {τ : gTk} {n : Nat} (o : okK τ n) {p : Nat} {c : gLw} {y : Nat × gLw} (e : lwL τ p c = .ok y) : ∃ a b, y.2 = (c.1 ++ [(τ.1 p - 100, c.2, c.2 ++ a, c.2 ++ a ++ b)], c.2 ++ a ++ b) ∧ ∀ w, okLn (w, (a, b), (X a, X b)) := by
  obtain ⟨x, ex, e⟩ := bind_ok e
  obtain ⟨z, ez, e⟩ := bind_ok e
  obtain ⟨r, er, e⟩ := bind_ok e
  cases e
  have hv : ∀ κ, ∃ v, EV κ c.2 [v] x.2 := fun κ => eSum o (by decide) EV_0 ex
  obtain ⟨v0, a, ea, -, -⟩ := hv (fun _ => 0)
  have ha : ∀ κ, ∃ v, rC κ a [] = some [v] ∧ rR κ (X a) [] = some [v] := fun κ => by
    obtain ⟨v, a', ea', h1, h2⟩ := hv κ
    have : a' = a := List.append_cancel_left (ea'.symm.trans ea)
    rw [this] at h1 h2
    exact ⟨v, h1, h2⟩
  split at ez
  · have hw : ∀ κ, ∃ v, isB v ∧ EV κ x.2 [v] z.2 := fun κ => eAny o ez
    obtain ⟨v1, -, b, eb, -, -⟩ := hw (fun _ => 0)
    refine ⟨a, b, ?_, fun w => ⟨X_ne, fun κ => ⟨ha κ, fun _ => ?_⟩⟩⟩
    · rw [← ea, ← eb]
    · obtain ⟨v, -, b', eb', h1, h2⟩ := hw κ
      have : b' = b := List.append_cancel_left (eb'.symm.trans eb)
      rw [this] at h1 h2
      exact ⟨v, h1, h2⟩
  · cases ez
    refine ⟨a, [], ?_, fun w => ⟨X_ne, fun κ => ⟨ha κ, fun q => absurd rfl q⟩⟩⟩
    rw [List.append_nil, ← ea]
theorem tkT_ok {s : Nat → Nat} {n : Nat} (hs : ∀ i, i < n → s i < 256) : okK (tK s n, tkV s n, nxp s n) n := by
  refine ⟨fun p hp => nxp_b hp, fun p hp => ?_, fun p hk => ?_⟩
  · show tK s n p = 0
    unfold tK; rw [if_neg (by omega)]
  · have hk : tK s n p = 1 := hk
    unfold tK at hk
    split at hk
    · rename_i hp
      unfold tkK at hk
      split at hk
      · unfold tkW at hk
        split at hk
        · omega
        · cases hk
      · rename_i nl
        split at hk
        · rename_i dg
          split at hk
          · rename_i l4
            show tkV s n p < 10000
            unfold tkV
            have e : tkE s n p = spn (fun j => isDg (s j)) n p := by unfold tkE; rw [if_neg nl, if_pos dg]
            have al : ∀ (m i : Nat), n - i = m → i ≤ n → ∀ j, i ≤ j → j < spn (fun j => isDg (s j)) n i → isDg (s j) = true := by
              intro m
              induction m with
              | zero => intro i hm hi j h1 h2; rw [spn_e (by omega)] at h2; omega
              | succ m ih =>
                intro i hm hi j h1 h2
                by_cases q : isDg (s i) = true
                · rw [spn_s (P := fun j => isDg (s j)) (by omega) q] at h2
                  by_cases z : j = i
                  · rw [z]; exact q
                  · exact ih (i + 1) (by omega) (by omega) j (by omega) h2
                · rw [spn_e (P := fun j => isDg (s j)) (fun z => q z.2)] at h2; omega
            have := dec_lt (s := s) (i := p) (tkE s n p - p) l4 (fun j hj => al _ p rfl (by omega) (p + j) (by omega) (by rw [← e]; omega))
            have h2 : 10 ^ (tkE s n p - p) ≤ 10 ^ 4 := Nat.pow_le_pow_right (by decide) l4
            omega
          · cases hk
        · split at hk
          · rename_i sg
            rw [hk] at sg
            exact absurd sg (by decide)
          · cases hk
    · cases hk
