/-! the law's lines, seen from both places; texts told anew -/
theorem sg_take {op ar : Nat → Int32} {a : Nat} {A : gSg} (h : ∀ i x, A[i]? = some x → op (a + i) = x.1 ∧ ar (a + i) = x.2) : ∀ n, n ≤ A.length → sg op ar a n = A.take n := by
  intro n
  induction n with
  | zero => intro _; rfl
  | succ n ih =>
    intro hn
    have hx : A[n]? = some A[n] := List.getElem?_eq_getElem (by omega)
    obtain ⟨e1, e2⟩ := h n _ hx
    rw [sg, ih (by omega), e1, e2, List.take_add_one, hx]
    rfl
theorem sg_mid {op ar : Nat → Int32} {C P A R : gSg} (e : C = P ++ (A ++ R)) (h : ∀ i x, C[i]? = some x → op i = x.1 ∧ ar i = x.2) : sg op ar P.length A.length = A := by
  have k : ∀ i x, A[i]? = some x → op (P.length + i) = x.1 ∧ ar (P.length + i) = x.2 := by
    intro i x hx
    obtain ⟨hi, -⟩ := List.getElem?_eq_some_iff.mp hx
    refine h _ _ ?_
    rw [e, List.getElem?_append_right (Nat.le_add_right _ _), Nat.add_sub_cancel_left, List.getElem?_append_left hi]
    exact hx
  rw [sg_take k A.length (Nat.le_refl _), List.take_length]
def lnOf (e : gLe) : gLn := (nI e.1, (e.2.2.1.drop e.2.1.length, e.2.2.2.drop e.2.2.1.length), (X (e.2.2.1.drop e.2.1.length), X (e.2.2.2.drop e.2.2.1.length)))
theorem lnOf_eq {e : gLe} {A B : gSg} (e1 : e.2.2.1 = e.2.1 ++ A) (e2 : e.2.2.2 = e.2.1 ++ A ++ B) : lnOf e = (nI e.1, (A, B), (X A, X B)) := by
  unfold lnOf
  rw [e2, e1, List.drop_left, List.drop_left]
theorem cLaw_mk {ln us : Int32} {wd va wh st op ar : Nat → Int32} {L : List gLe} {c : gSg} (hL : L.length ≤ 16) (hc : c.length ≤ 400) (ok : ∀ e, e ∈ L → okE c e) (eln : ln = nI L.length) (eus : us = nI c.length) (co : ∀ i x, c[i]? = some x → op i = x.1 ∧ ar i = x.2) (li : ∀ l e, L[l]? = some e → wd l = nI e.1 ∧ va l = nI e.2.1.length ∧ wh l = nI e.2.2.1.length ∧ st l = nI e.2.2.2.length) : cLaw ln us wd va wh st op ar (L.map lnOf) := by
  refine ⟨⟨by rw [List.length_map]; exact hL, by rw [List.length_map]; exact eln⟩, c.length, ⟨hc, eus⟩, fun l x hx => ?_⟩
  rw [List.getElem?_map] at hx
  cases q : L[l]? with
  | none => rw [q] at hx; cases hx
  | some e =>
    rw [q] at hx
    have hx : some (lnOf e) = some x := hx
    have hx : lnOf e = x := Option.some.inj hx
    obtain ⟨A, B, r, g1, g2, g3, g4, g5⟩ := ok e (List.mem_of_getElem? q)
    obtain ⟨w1, w2, w3, w4⟩ := li l e q
    rw [← hx, lnOf_eq g1 g2]
    have l1 : e.2.2.1.length = e.2.1.length + A.length := by rw [g1, List.length_append]
    have l2 : e.2.2.2.length = e.2.1.length + A.length + B.length := by rw [g2, List.length_append, List.length_append]
    have l3 : c.length = e.2.1.length + A.length + B.length + r.length := by rw [g3, List.length_append, List.length_append, List.length_append]
    refine ⟨e.2.1.length, e.2.2.1.length, e.2.2.2.length, ⟨by omega, by omega, by omega⟩, ⟨w1, w2, w3, w4⟩, ?_, ?_⟩
    · rw [show e.2.2.1.length - e.2.1.length = A.length by omega]
      exact sg_mid (R := B ++ r) (by rw [g3]; simp only [List.append_assoc]) co
    · rw [show e.2.2.2.length - e.2.2.1.length = B.length by omega, show e.2.2.1.length = (e.2.1 ++ A).length by rw [g1]]
      exact sg_mid (P := e.2.1 ++ A) (R := r) (by rw [g3]; simp only [List.append_assoc]) co
theorem mLaw_mk {ln : Int32} {wd fo wh to op ar : Nat → Int32} {L : List gLe} {c : gSg} (hL : L.length ≤ 16) (hc : (X c).length ≤ 400) (ok : ∀ e, e ∈ L → okE c e) (eln : ln = nI L.length) (co : ∀ i x, (X c)[i]? = some x → op i = x.1 ∧ ar i = x.2) (li : ∀ l e, L[l]? = some e → wd l = nI e.1 ∧ fo l = nI (X e.2.1).length ∧ wh l = nI (X e.2.2.1).length ∧ to l = nI (X e.2.2.2).length) : mLaw ln wd fo wh to op ar (L.map lnOf) := by
  refine ⟨⟨by rw [List.length_map]; exact hL, by rw [List.length_map]; exact eln⟩, fun l x hx => ?_⟩
  rw [List.getElem?_map] at hx
  cases q : L[l]? with
  | none => rw [q] at hx; cases hx
  | some e =>
    rw [q] at hx
    have hx : some (lnOf e) = some x := hx
    have hx : lnOf e = x := Option.some.inj hx
    obtain ⟨A, B, r, g1, g2, g3, g4, g5⟩ := ok e (List.mem_of_getElem? q)
    obtain ⟨w1, w2, w3, w4⟩ := li l e q
    rw [← hx, lnOf_eq g1 g2]
    have x1 : X e.2.2.1 = X e.2.1 ++ X A := by rw [g1, X_app]
    have x2 : X e.2.2.2 = X e.2.1 ++ X A ++ X B := by rw [g2, X_app, X_app]
    have x3 : X c = X e.2.1 ++ X A ++ X B ++ X r := by rw [g3, X_app, X_app, X_app]
    have l1 : (X e.2.2.1).length = (X e.2.1).length + (X A).length := by rw [x1, List.length_append]
    have l2 : (X e.2.2.2).length = (X e.2.1).length + (X A).length + (X B).length := by rw [x2, List.length_append, List.length_append]
    have l3 : (X c).length = (X e.2.1).length + (X A).length + (X B).length + (X r).length := by rw [x3, List.length_append, List.length_append, List.length_append]
    refine ⟨(X e.2.1).length, (X e.2.2.1).length, (X e.2.2.2).length, ⟨by omega, by omega, by omega⟩, ⟨w1, w2, w3, w4⟩, ?_, ?_⟩
    · rw [show (X e.2.2.1).length - (X e.2.1).length = (X A).length by omega]
      exact sg_mid (R := X B ++ X r) (by rw [x3]; simp only [List.append_assoc]) co
    · rw [show (X e.2.2.2).length - (X e.2.2.1).length = (X B).length by omega, show (X e.2.2.1).length = (X e.2.1 ++ X A).length by rw [x1]]
      exact sg_mid (P := X e.2.1 ++ X A) (R := X r) (by rw [x3]; simp only [List.append_assoc]) co
def tW (T : gT) (L : List gLn) : gT := (T.1, T.2.1, T.2.2.1, T.2.2.2.1, L, T.2.2.2.2.2)
def tP (T : gT) (k : Nat) (a : Nat → Nat) : gT := ((k, T.1.2.1, T.1.2.2), (fun i => nI (a i)), T.2.2.1, T.2.2.2.1, T.2.2.2.2.1, T.2.2.2.2.2)
def tD (T : gT) (L : List gDe) : gT := ((T.1.1, L.length, T.1.2.2), T.2.1, dF L, T.2.2.2.1, T.2.2.2.2.1, T.2.2.2.2.2)
def tV (T : gT) (k : Nat) (a : Nat → Int32) : gT := ((T.1.1, T.1.2.1, k), T.2.1, T.2.2.1, a, T.2.2.2.2.1, T.2.2.2.2.2)
section OKT
variable {s : Nat → Nat} {n N : Nat} {T : gT}
theorem okT_W (o : okK (tkT s n) n) (ok : okT N T) {x : Nat × gLw} (e : pTx (tkT s n) begL (lwL (tkT s n)) 17 0 (pos s n 0) ([], []) = .ok x) : okT N (tW T (x.2.1.map lnOf)) := by
  obtain ⟨⟨i1, i2⟩, i3⟩ := law_I o e
  obtain ⟨o1, o2, o3, o4, o5⟩ := ok
  refine ⟨o1, o2, o3, o4, fun y hy => ?_⟩
  obtain ⟨e, he, ee⟩ := List.mem_map.mp hy
  obtain ⟨A, B, r, g1, g2, g3, g4, g5⟩ := i2 e he
  rw [← ee, lnOf_eq g1 g2]
  exact g4 _
theorem pas_P (o : okK (tkT s n) n) {f p : Nat} {y : Nat × (Nat → Nat)} (e : pTx (tkT s n) (fun x => x == 111) (psL (tkT s n)) f 0 p (fun _ => 0) = .ok y) : psI y.2 ∧ y.1 ≤ 16 := by
  refine pTx_inv (fun _ a => psI a) ?_ f 0 p (fun _ => 0) y (by decide) ⟨fun _ _ _ _ => rfl, fun _ _ => Nat.zero_le _⟩ e
  intro p a k x b hk iv ex
  unfold psL at ex
  obtain ⟨x1, e1, ex⟩ := bind_ok ex
  obtain ⟨x2, e2, ex⟩ := bind_ok ex
  obtain ⟨x3, e3, ex⟩ := bind_ok ex
  obtain ⟨x4, e4, ex⟩ := bind_ok ex
  cases ex
  obtain ⟨-, b1, -, -⟩ := bTN o e1
  obtain ⟨-, b2, -, -⟩ := bTN o e2
  obtain ⟨-, b3, -, -⟩ := bTN o e3
  exact psI_A b1 b2 b3 iv
theorem okT_P (o : okK (tkT s n) n) (ok : okT N T) {x : Nat × (Nat → Nat)} (e : pTx (tkT s n) (fun x => x == 111) (psL (tkT s n)) 17 0 (pos s n 0) (fun _ => 0) = .ok x) : okT N (tP T x.1 x.2) := by
  obtain ⟨i1, i2⟩ := pas_P o e
  obtain ⟨o1, o2, o3, o4, o5⟩ := ok
  exact ⟨⟨i2, o1.2⟩, fun k hk => ⟨x.2 k, i1.2 k hk, rfl⟩, o3, o4, o5⟩
theorem okT_V (hN : N ≤ 10) (o : okK (tkT s n) n) (ok : okT N T) {x : Nat × (Nat → Int32)} (e : pTx (tkT s n) (fun x => x == 123) (vcL (tkT s n) N) 17 0 (pos s n 0) (fun _ => 0) = .ok x) : okT N (tV T x.1 x.2) := by
  obtain ⟨i1, i2⟩ := vou_I hN o e
  obtain ⟨o1, o2, o3, o4, o5⟩ := ok
  exact ⟨⟨o1.1, o1.2.1, i2⟩, o2, o3, i1, o5⟩
theorem dF_at {L : List gDe} {i r : Nat} {e : gDe} (h : L[i]? = some e) (hr : r < 4) : dF L (4 * i + r) = if r = 0 then nI e.1 else if r = 1 then nI e.2.1 else if r = 2 then nI e.2.2.1 else nI e.2.2.2 := by
  have e1 : (4 * i + r) / 4 = i := by omega
  have e2 : (4 * i + r) % 4 = r := by omega
  unfold dF
  rw [e1, e2, h]
theorem okT_D (hN : N ≤ 10) (o : okK (tkT s n) n) (ok : okT N T) {x : Nat × List gDe} (e : pTx (tkT s n) (fun x => x == 117) (dyL (tkT s n) N) 17 0 (pos s n 0) [] = .ok x) : okT N (tD T x.2) := by
  obtain ⟨⟨i1, i2⟩, i3⟩ := dia_I hN o e
  obtain ⟨o1, o2, o3, o4, o5⟩ := ok
  refine ⟨⟨o1.1, by show x.2.length ≤ 16; omega, o1.2.2⟩, o2, fun i hi => ?_, o4, o5⟩
  have hi : i < x.2.length := hi
  have hx : x.2[i]? = some x.2[i] := List.getElem?_eq_getElem hi
  show dOk N (dF x.2 (4 * i + 1)) (dF x.2 (4 * i + 2)) (dF x.2 (4 * i + 3))
  rw [dF_at hx (by decide), dF_at hx (by decide), dF_at hx (by decide)]
  exact ⟨_, _, _, ⟨rfl, rfl, rfl⟩, i2 _ (List.getElem_mem hi)⟩
end OKT
