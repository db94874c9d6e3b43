/-! deeds, as plain functions of the world and the texts -/
abbrev gS : Type := gk_WV × gT
def tB (T : gT) (B : Nat → Int32) : gT := (T.1, T.2.1, T.2.2.1, T.2.2.2.1, T.2.2.2.2.1, B)
def bk4 (B : Nat → Int32) (k : Nat) (a b c d : Int32) : Nat → Int32 := fun i => if i = 4 * k + 3 then d else if i = 4 * k + 2 then c else if i = 4 * k + 1 then b else if i = 4 * k then a else B i
def noteP (th : Bool) (a b c : Int32) (s : gS) : gS := if th = true ∨ ¬ s.1.1 7 < 150 then s else (wF s.1 7 (s.1.1 7 + 1), tB s.2 (bk4 s.2.2.2.2.2.2 (s.1.1 7).toNatClampNeg (s.1.1 5) a b c))
def earnP (v : Int32) (w : gk_WV) : gk_WV := wF w 3 (if w.1 3 + v < 99999 then w.1 3 + v else 99999)
noncomputable def buyP (th : Bool) (p : Nat) (s : gS) : gS := noteP th 0 (nI p) (wor s.1 s.2 p) (wF (wP (wF s.1 3 (s.1.1 3 - wor s.1 s.2 p)) p (wor s.1 s.2 p)) 1 (s.1.1 1 ||| ((1 : Int32) <<< (nI p &&& 31))), s.2)
noncomputable def sellP (th : Bool) (p : Nat) (s : gS) : gS := noteP th 1 (nI p) (wor s.1 s.2 p) (wF (wH (wP (earnP (wor s.1 s.2 p) s.1) p 0) p (-1)) 1 (s.1.1 1 &&& (((1 : Int32) <<< (nI p &&& 31)) ^^^ (-1 : Int32))), s.2)
def hangP (th : Bool) (p r : Nat) (s : gS) : gS := noteP th 2 (nI p) (nI r) (wH s.1 p (nI r), s.2)
def lightP (r v : Nat) (s : gS) : gS := (wL s.1 r (nI v), s.2)
def hoseP (th : Bool) (p r : Nat) (s : gS) : gS := noteP th 3 (nI p) (nI r) (wD (wF s.1 2 (s.1.1 2 ||| ((1 : Int32) <<< (nI p &&& 31)))) p (wrow (s.1.2.1 p) (nI r) 0), s.2)
def wipeP (p c : Nat) (s : gS) : gS := (wD s.1 p (s.1.2.1 p &&& (((1 : Int64) <<< ((nI c).toInt64 &&& 63)) ^^^ (-1 : Int64))), s.2)
def okD (n a p c : Nat) : Prop := a ≤ 5 ∧ (a ≠ 3 → p < n) ∧ (a = 3 → p < 6) ∧ (a = 2 → c < 6) ∧ (a = 3 → c < 10) ∧ (a = 4 → c < 8) ∧ (a = 5 → c < 64)
def isD (n : Nat) (what who v : Int32) (a p c : Nat) : Prop := what = nI a ∧ who = nI p ∧ (2 ≤ a → v = nI c) ∧ okD n a p c
noncomputable def canB (s : gS) (a p c : Nat) : Bool := if a = 0 then (!nb_bit (s.1.1 1) p && !decide (s.1.1 3 < wor s.1 s.2 p)) else if a = 1 ∨ a = 2 then nb_bit (s.1.1 1) p else if a = 5 then (nb_bit (s.1.1 1) p && nb_bitL (s.1.2.1 p) c) else true
noncomputable def doP (th : Bool) (a p c : Nat) (s : gS) : gS := if a = 0 then buyP th p s else if a = 1 then sellP th p s else if a = 2 then hangP th p c s else if a = 3 then lightP p c s else if a = 4 then hoseP th p c s else wipeP p c s
/-- what the day keeps: the count, the years, all texts but the book -/
def gd (n : Nat) (s : gS) : Prop := GW n s.1 ∧ okT n s.2
def sm0 (s s' : gS) : Prop := s'.1.2.2.1 = s.1.2.2.1 ∧ s'.2.1 = s.2.1 ∧ s'.2.2.1 = s.2.2.1 ∧ s'.2.2.2.1 = s.2.2.2.1 ∧ s'.2.2.2.2.1 = s.2.2.2.2.1 ∧ s'.2.2.2.2.2.1 = s.2.2.2.2.2.1
theorem sm0_rf {s : gS} : sm0 s s := ⟨rfl, rfl, rfl, rfl, rfl, rfl⟩
theorem sm0_tr {s t u : gS} (a : sm0 s t) (b : sm0 t u) : sm0 s u := ⟨b.1.trans a.1, b.2.1.trans a.2.1, b.2.2.1.trans a.2.2.1, b.2.2.2.1.trans a.2.2.2.1, b.2.2.2.2.1.trans a.2.2.2.2.1, b.2.2.2.2.2.trans a.2.2.2.2.2⟩
section PURE
variable {n : Nat} {s : gS} {th : Bool}
theorem gd_note {a b c : Int32} (g : gd n s) : gd n (noteP th a b c s) ∧ sm0 s (noteP th a b c s) := by
  unfold noteP
  split
  · exact ⟨g, sm0_rf⟩
  · rename_i q
    obtain ⟨g1, g2⟩ := g
    obtain ⟨k, hk, e⟩ := g1.2.2.2.2
    have k1 : k < 150 := by
      rcases Nat.lt_or_ge k 150 with z | z
      · exact z
      · exact absurd (Or.inr (by rw [e]; exact fun y => by have := (nI_ltI (a := k) (b := 150) (by omega) (by decide)).mp y; omega)) q
    refine ⟨⟨?_, g2⟩, rfl, rfl, rfl, rfl, rfl, rfl⟩
    rw [e, nI_1]
    exact GW_7 (by omega) g1
theorem bit_set {o : Int32} {p : Nat} (hp : p < 10) (q : Nat) : nb_bit (o ||| ((1 : Int32) <<< (nI p &&& 31))) q = if q = p then true else nb_bit o q := by
  rw [bI_or, bI_one (by omega)]
  by_cases e : q = p
  · rw [if_pos e, decide_eq_true e, Bool.or_true]
  · rw [if_neg e, decide_eq_false e, Bool.or_false]
theorem bit_clr {o : Int32} {p : Nat} (hp : p < 10) (q : Nat) (hq : q < 32) : nb_bit (o &&& (((1 : Int32) <<< (nI p &&& 31)) ^^^ (-1 : Int32))) q = if q = p then false else nb_bit o q := by
  rw [bI_and, bI_not, bI_one (by omega), decide_eq_true hq]
  by_cases e : q = p
  · rw [if_pos e, decide_eq_true e]; simp
  · rw [if_neg e, decide_eq_false e]; simp
theorem low_set {o : Int32} {p : Nat} (hn : n ≤ 10) (hp : p < n) (h : ∀ q, n ≤ q → nb_bit o q = false) : ∀ q, n ≤ q → nb_bit (o ||| ((1 : Int32) <<< (nI p &&& 31))) q = false := fun q hq => by rw [bit_set (by omega), if_neg (by omega)]; exact h q hq
theorem low_clr {o x : Int32} (h : ∀ q, n ≤ q → nb_bit o q = false) : ∀ q, n ≤ q → nb_bit (o &&& x) q = false := fun q hq => by rw [bI_and, h q hq]; rfl
theorem GW_own {w : gk_WV} (g : GW n w) : ∀ q, n ≤ q → nb_bit (w.1 1) q = false := fun q hq => (g.2.1 q hq).1
theorem GW_hos {w : gk_WV} (g : GW n w) : ∀ q, n ≤ q → nb_bit (w.1 2) q = false := fun q hq => (g.2.1 q hq).2
theorem gd_do {a p c : Nat} (g : gd n s) (o : okD n a p c) : gd n (doP th a p c s) ∧ sm0 s (doP th a p c s) := by
  obtain ⟨g1, g2⟩ := g
  obtain ⟨o1, o2, o3, o4, o5, o6, o7⟩ := o
  have hn := g1.1.1
  unfold doP
  split
  · rename_i q
    have hp := o2 (by omega)
    have := gd_note (th := th) (n := n) (s := (wF (wP (wF s.1 3 (s.1.1 3 - wor s.1 s.2 p)) p (wor s.1 s.2 p)) 1 (s.1.1 1 ||| ((1 : Int32) <<< (nI p &&& 31))), s.2)) (a := 0) (b := nI p) (c := wor s.1 s.2 p) ⟨GW_1 (low_set hn hp (GW_own g1)) (GW_P hp (GW_F (by decide) g1)), g2⟩
    exact ⟨this.1, sm0_tr ⟨rfl, rfl, rfl, rfl, rfl, rfl⟩ this.2⟩
  · split
    · rename_i q
      have hp := o2 (by omega)
      have := gd_note (th := th) (n := n) (s := (wF (wH (wP (earnP (wor s.1 s.2 p) s.1) p 0) p (-1)) 1 (s.1.1 1 &&& (((1 : Int32) <<< (nI p &&& 31)) ^^^ (-1 : Int32))), s.2)) (a := 1) (b := nI p) (c := wor s.1 s.2 p) ⟨GW_1 (low_clr (GW_own g1)) (GW_H hp (Or.inl rfl) (GW_P hp (GW_F (by decide) g1))), g2⟩
      exact ⟨this.1, sm0_tr ⟨rfl, rfl, rfl, rfl, rfl, rfl⟩ this.2⟩
    · split
      · rename_i q
        have hp := o2 (by omega)
        have := gd_note (th := th) (n := n) (s := (wH s.1 p (nI c), s.2)) (a := 2) (b := nI p) (c := nI c) ⟨GW_H hp (Or.inr ⟨c, o4 q, rfl⟩) g1, g2⟩
        exact ⟨this.1, sm0_tr ⟨rfl, rfl, rfl, rfl, rfl, rfl⟩ this.2⟩
      · split
        · exact ⟨⟨GW_L g1, g2⟩, rfl, rfl, rfl, rfl, rfl, rfl⟩
        · split
          · rename_i q
            have hp := o2 (by omega)
            have := gd_note (th := th) (n := n) (s := (wD (wF s.1 2 (s.1.1 2 ||| ((1 : Int32) <<< (nI p &&& 31)))) p (wrow (s.1.2.1 p) (nI c) 0), s.2)) (a := 3) (b := nI p) (c := nI c) ⟨GW_D hp (GW_2 (low_set hn hp (GW_hos g1)) g1), g2⟩
            exact ⟨this.1, sm0_tr ⟨rfl, rfl, rfl, rfl, rfl, rfl⟩ this.2⟩
          · exact ⟨⟨GW_D (o2 (by omega)) g1, g2⟩, rfl, rfl, rfl, rfl, rfl, rfl⟩
/-! the diary -/
noncomputable def entP (th : Bool) (i : Nat) (s : gS) : gS := if s.2.2.2.1 (4 * i) = s.1.1 5 ∧ canB s (s.2.2.2.1 (4 * i + 1)).toNatClampNeg (s.2.2.2.1 (4 * i + 2)).toNatClampNeg (s.2.2.2.1 (4 * i + 3)).toNatClampNeg = true then doP th (s.2.2.2.1 (4 * i + 1)).toNatClampNeg (s.2.2.2.1 (4 * i + 2)).toNatClampNeg (s.2.2.2.1 (4 * i + 3)).toNatClampNeg s else s
noncomputable def diaP (th : Bool) (s : gS) : Nat → gS
  | 0 => s
  | i + 1 => entP th i (diaP th s i)
theorem dOk_isD {what who v : Int32} (o : dOk n what who v) : isD n what who v what.toNatClampNeg who.toNatClampNeg v.toNatClampNeg := by
  obtain ⟨a, b, c, ⟨e1, e2, e3⟩, h1, h2, h3, h4, h5, h6, h7⟩ := o
  rw [e1, e2, e3, nI_clamp (by omega), nI_clamp (by omega), nI_clamp (by omega)]
  exact ⟨rfl, rfl, fun _ => rfl, by omega, h5, h4, h6, fun _ => h3, h7, fun q => by omega⟩
theorem gd_ent {i : Nat} (hi : i < s.2.1.2.1) (g : gd n s) : gd n (entP th i s) ∧ sm0 s (entP th i s) := by
  unfold entP
  split
  · exact gd_do g (dOk_isD (g.2.2.2.1 i hi)).2.2.2
  · exact ⟨g, sm0_rf⟩
theorem gd_dia (g : gd n s) : ∀ i, i ≤ s.2.1.2.1 → gd n (diaP th s i) ∧ sm0 s (diaP th s i) := by
  intro i
  induction i with
  | zero => intro _; exact ⟨g, sm0_rf⟩
  | succ i ih =>
    intro hi
    obtain ⟨a, b⟩ := ih (by omega)
    have := gd_ent (th := th) (i := i) (s := diaP th s i) (by rw [b.2.1]; omega) a
    exact ⟨this.1, sm0_tr b this.2⟩
/-! a place creeps; comers -/
def drN (x : Int32) : Int32 := (x.toUInt32 >>> ((8 : Int32).toUInt32 &&& Int32.toUInt32 31)).toInt32 - (x.toUInt32 >>> ((8 : Int32).toUInt32 &&& Int32.toUInt32 31)).toInt32 / 1000 * 1000
def nx (x : Int32) : Int32 := 1664525 * x + 1013904223
noncomputable def hitP (th : Bool) (o x : Int32) : Bool × Int32 := if th = true then (!decide (o < 500), x) else if o ≤ 0 then (false, x) else (decide (drN (nx x) < o), nx x)
noncomputable def crL (th : Bool) (s : gS) (p : Nat) : Nat → Int32 × Int64
  | 0 => (s.1.1 6, 0)
  | c + 1 => if nb_bitL (s.1.2.1 p) c = true ∧ wet (nb_bitL (s.1.2.1 p)) c ≠ 0 then (if (hitP th (cre s.1 s.2 p (nI (wet (nb_bitL (s.1.2.1 p)) c))) (crL th s p c).1).1 = true then ((hitP th (cre s.1 s.2 p (nI (wet (nb_bitL (s.1.2.1 p)) c))) (crL th s p c).1).2, (crL th s p c).2 ||| ((1 : Int64) <<< ((nI c).toInt64 &&& 63))) else ((hitP th (cre s.1 s.2 p (nI (wet (nb_bitL (s.1.2.1 p)) c))) (crL th s p c).1).2, (crL th s p c).2)) else crL th s p c
noncomputable def crW (th : Bool) (s : gS) (p : Nat) : gk_WV := wF (wD s.1 p (s.1.2.1 p &&& ((crL th s p 64).2 ^^^ (-1 : Int64)))) 6 (crL th s p 64).1
noncomputable def crN (th : Bool) (s : gS) (p : Nat) : Nat := nb_onesL (crL th s p 64).2
noncomputable def crP (th : Bool) (p : Nat) (s : gS) : gS := if crN th s p = 0 then (crW th s p, s.2) else noteP th 4 (nI p) (nI (crN th s p)) (crW th s p, s.2)
theorem gd_cr {p : Nat} (hp : p < n) (g : gd n s) : gd n (crP th p s) ∧ sm0 s (crP th p s) := by
  have gw : gd n (crW th s p, s.2) := ⟨GW_F (by decide) (GW_D hp g.1), g.2⟩
  unfold crP
  split
  · exact ⟨gw, rfl, rfl, rfl, rfl, rfl, rfl⟩
  · have := gd_note (th := th) (a := 4) (b := nI p) (c := nI (crN th s p)) gw
    exact ⟨this.1, sm0_tr ⟨rfl, rfl, rfl, rfl, rfl, rfl⟩ this.2⟩
def shB (w : gk_WV) (p : Nat) : Bool := nb_bit (w.1 1) p && !decide (w.2.2.2.1 p = -1)
noncomputable def crA (th : Bool) (s : gS) : Nat → Int32 × gS
  | 0 => (0, s)
  | p + 1 => if shB (crA th s p).2.1 p = true then ((crA th s p).1 + nI (crN th (crA th s p).2 p), crP th p (crA th s p).2) else crA th s p
theorem gd_crA (g : gd n s) : ∀ p, p ≤ n → gd n (crA th s p).2 ∧ sm0 s (crA th s p).2 := by
  intro p
  induction p with
  | zero => intro _; exact ⟨g, sm0_rf⟩
  | succ p ih =>
    intro hp
    obtain ⟨a, b⟩ := ih (by omega)
    rw [crA]
    split
    · have := gd_cr (th := th) (p := p) (by omega) a
      exact ⟨this.1, sm0_tr b this.2⟩
    · exact ⟨a, b⟩
noncomputable def rcW (s : gS) (p : Nat) : gk_WV := earnP (com s.1 s.2 p) (wF s.1 4 (s.1.1 4 + com s.1 s.2 p))
noncomputable def rcP (th : Bool) (p : Nat) (s : gS) : gS := if com s.1 s.2 p ≤ 0 then (rcW s p, s.2) else noteP th 5 (nI p) (com s.1 s.2 p) (rcW s p, s.2)
theorem gd_rc {p : Nat} (g : gd n s) : gd n (rcP th p s) ∧ sm0 s (rcP th p s) := by
  have gw : gd n (rcW s p, s.2) := ⟨GW_F (by decide) (GW_F (by decide) g.1), g.2⟩
  unfold rcP
  split
  · exact ⟨gw, rfl, rfl, rfl, rfl, rfl, rfl⟩
  · have := gd_note (th := th) (a := 5) (b := nI p) (c := com s.1 s.2 p) gw
    exact ⟨this.1, sm0_tr ⟨rfl, rfl, rfl, rfl, rfl, rfl⟩ this.2⟩
noncomputable def rcA (th : Bool) (s : gS) : Nat → gS
  | 0 => s
  | p + 1 => if shB (rcA th s p).1 p = true then rcP th p (rcA th s p) else rcA th s p
theorem gd_rcA (g : gd n s) : ∀ p, gd n (rcA th s p) ∧ sm0 s (rcA th s p) := by
  intro p
  induction p with
  | zero => exact ⟨g, sm0_rf⟩
  | succ p ih =>
    obtain ⟨a, b⟩ := ih
    rw [rcA]
    split
    · have := gd_rc (th := th) (p := p) a
      exact ⟨this.1, sm0_tr b this.2⟩
    · exact ⟨a, b⟩
/-- a day: how many cells crept, and what is then -/
noncomputable def dayC (th : Bool) (n : Nat) (s : gS) : Int32 × gS := crA th (diaP th s s.2.1.2.1) n
noncomputable def dayR (th : Bool) (n : Nat) (s : gS) : gS := rcA th (dayC th n s).2 n
noncomputable def dayS (th : Bool) (n : Nat) (s : gS) : gS := (wF (dayR th n s).1 5 ((dayR th n s).1.1 5 + 1), (dayR th n s).2)
theorem gd_day (g : gd n s) : gd n (dayS th n s) ∧ sm0 s (dayS th n s) := by
  have a := gd_dia (th := th) g _ (Nat.le_refl _)
  have b := gd_crA (th := th) a.1 n (Nat.le_refl _)
  have c := gd_rcA (th := th) b.1 n
  exact ⟨⟨GW_F (by decide) c.1.1, c.1.2⟩, sm0_tr a.2 (sm0_tr b.2 (sm0_tr c.2 ⟨rfl, rfl, rfl, rfl, rfl, rfl⟩))⟩
end PURE
