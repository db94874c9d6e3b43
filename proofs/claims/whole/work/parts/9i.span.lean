/-! runs of signs; blanks -/
def spF (P : Nat → Bool) (n : Nat) : Nat → Nat → Nat
  | 0, i => i
  | f + 1, i => if i < n ∧ P i = true then spF P n f (i + 1) else i
def spn (P : Nat → Bool) (n i : Nat) : Nat := spF P n (n - i) i
theorem spn_e {P : Nat → Bool} {n i : Nat} (h : ¬ (i < n ∧ P i = true)) : spn P n i = i := by
  unfold spn
  cases n - i with
  | zero => rfl
  | succ f => rw [spF, if_neg h]
theorem spn_s {P : Nat → Bool} {n i : Nat} (h : i < n) (p : P i = true) : spn P n i = spn P n (i + 1) := by
  unfold spn
  obtain ⟨f, e⟩ : ∃ f, n - i = f + 1 := ⟨n - i - 1, by omega⟩
  rw [e, spF, if_pos ⟨h, p⟩, show n - (i + 1) = f by omega]
theorem spn_le {P : Nat → Bool} {n : Nat} : ∀ (k i : Nat), n - i = k → i ≤ n → i ≤ spn P n i ∧ spn P n i ≤ n ∧ ¬ (spn P n i < n ∧ P (spn P n i) = true) := by
  intro k
  induction k with
  | zero => intro i hk hi; rw [spn_e (by omega)]; exact ⟨Nat.le_refl _, hi, by omega⟩
  | succ k ih =>
    intro i hk hi
    by_cases q : i < n ∧ P i = true
    · rw [spn_s q.1 q.2]
      obtain ⟨a, b, c⟩ := ih (i + 1) (by omega) (by omega)
      exact ⟨by omega, b, c⟩
    · rw [spn_e q]; exact ⟨Nat.le_refl _, hi, q⟩
def bl (c : Nat) : Bool := c == 32 || c == 10
/-- the class's tape: n signs s -/
def TCs (h : gk_H) (n : Nat) (s : Nat → Nat) : Prop := n ≤ 400 ∧ h.1 58 4 = nI n ∧ ∀ i, i < n → s i < 256 ∧ h.2.1 59 i = nI (s i)
theorem s_ta_skipBlanks {E : gk_E} {d : Nat} {h : gk_H} {K : gk_H → Prop} {n i : Nat} {s : Nat → Nat} (t : TCs h n s) (hi : i ≤ n) (e : h.1 58 5 = nI i) (k : K (gk_hf h 58 5 (nI (spn (fun j => bl (s j)) n i)))) : gk_cv E (d + 1) jta_skipBlanks [.ref 58] h K := by
  have key : ∀ (m i : Nat) (u : gk_H), n - i = m → i ≤ n → TCs u n s → u.1 58 5 = nI i → K (gk_hf u 58 5 (nI (spn (fun j => bl (s j)) n i))) → w_ta_skipBlanks_0 E d (gk_qv K) u := by
    intro m
    induction m with
    | zero =>
      intro i u hm hi tu eu ku
      rw [spn_e (by omega)] at ku
      have : gk_hf u 58 5 (nI i) = u := by
        refine Prod.ext (funext fun k => funext fun j => ?_) rfl
        rw [hf_f]
        by_cases q : k = 58 ∧ j = 5
        · rw [if_pos q, q.1, q.2, eu]
        · rw [if_neg q]
      rw [this] at ku
      exact pk_le n i (fun _ => ku) (fun q => by omega) (hx := tu.2.1) (hy := eu) (ha := by have := tu.1; omega) (hb := by have := tu.1; omega)
    | succ m ih =>
      intro i u hm hi tu eu ku
      have h4 := tu.1
      have hl : i < n := by omega
      obtain ⟨c1, c2⟩ := tu.2.2 i hl
      unfold w_ta_skipBlanks_0
      rw [eu]
      refine pk_le n i (fun q => by omega) (fun _ => ⟨vp_in_nI (by omega) (by decide), ?_⟩) (hx := tu.2.1)
      rw [nI_clamp (by omega), c2, nI_1]
      have nxt : bl (s i) = true → g_ta_skipBlanks_0 E d (gk_qv K) (gk_hf u 58 5 (nI (i + 1))) := fun b => by
        refine x_ta_skipBlanks_0 (ih (i + 1) _ (by omega) (by omega) ⟨tu.1, by rw [hf_f, if_neg (by decide)]; exact tu.2.1, tu.2.2⟩ (by rw [hf_f, if_pos ⟨rfl, rfl⟩]) ?_)
        rw [spn_s hl b] at ku
        have : gk_hf (gk_hf u 58 5 (nI (i + 1))) 58 5 (nI (spn (fun j => bl (s j)) n (i + 1))) = gk_hf u 58 5 (nI (spn (fun j => bl (s j)) n (i + 1))) := by
          refine Prod.ext (funext fun k => funext fun j => ?_) rfl
          rw [hf_f, hf_f, hf_f]
          by_cases q : k = 58 ∧ j = 5
          · rw [if_pos q, if_pos q]
          · rw [if_neg q, if_neg q, if_neg q]
        rw [this]; exact ku
      refine pk_eq (s i) 32 (fun q => nxt (by unfold bl; rw [q]; decide)) (fun q => ⟨vp_in_nI (by omega) (by decide), ?_⟩)
      have sw := pk_eq (x := nI (s i)) (y := 10) (A := g_ta_skipBlanks_0 E d (gk_qv K) (gk_hf u 58 5 (nI (i + 1)))) (B := gk_qv K none u) (s i) 10 (fun q2 => nxt (by unfold bl; rw [q2]; decide)) (fun q2 => by
        rw [spn_e (fun z => by have := z.2; unfold bl at this; simp [q, q2] at this)] at ku
        have : gk_hf u 58 5 (nI i) = u := by
          refine Prod.ext (funext fun k => funext fun j => ?_) rfl
          rw [hf_f]
          by_cases z : k = 58 ∧ j = 5
          · rw [if_pos z, z.1, z.2, eu]
          · rw [if_neg z]
        rw [this] at ku
        exact ku)
      exact ⟨sw.2, sw.1⟩
  exact gk_cv_mk (x_ta_skipBlanks (key (n - i) i h rfl hi t e k))
