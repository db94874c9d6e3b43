/-! the shape of the invariant, and undo -/
def InvU {P : Type} (Rl : P → gk_WV → (Nat → Int32) → Prop) (Rest : P → gk_H → Prop) (h : gk_H) : Prop := ∃ (c : P) (f n : Nat) (ws : Nat → gk_WV) (rs : Nat → Nat → Int32), cU h f n ws ∧ mU h n rs ∧ (∀ i, i < n → Rl c (ws i) (rs i)) ∧ Rl c (wv h 1) (rv h 113 0) ∧ Rest c h
theorem cU_fr {S : Nat → Prop} {h h' : gk_H} {f n : Nat} {ws : Nat → gk_WV} (hS : ∀ k, S_ring k → ¬ S k) (a : fr S h h') (u : cU h f n ws) : cU h' f n ws := by
  obtain ⟨hf, hn, e1, e2, hw⟩ := u
  have e0 := (a 20 (hS 20 (Or.inl rfl))).1
  refine ⟨hf, hn, by rw [e0]; exact e1, by rw [e0]; exact e2, fun i hi => ?_⟩
  have hr : (f + i) % 6 < 6 := Nat.mod_lt _ (by decide)
  rw [wv_fr a (fun j hj => hS _ (Or.inr (by omega)))]
  exact hw i hi
theorem mU_of {h h' : gk_H} {n : Nat} {rs : Nat → Nat → Int32} (e : h'.1 112 3 = h.1 112 3) (e2 : h'.2.1 114 = h.2.1 114) (u : mU h n rs) : mU h' n rs := by
  refine ⟨u.1, e.trans u.2.1, fun i hi => ?_⟩
  rw [← u.2.2 i hi]
  exact rv_eq fun j _ => by rw [e2]
theorem lc_undo {E : gk_E} {d : Nat} {P : Type} {Rl : P → gk_WV → (Nat → Int32) → Prop} {Rest : P → gk_H → Prop} (hR : ∀ c h h', Rest c h → fr (fun k => S_back k ∨ S_mback k) h h' → (∀ s, ¬ s = 0 → ¬ s = 3 → h'.1 112 s = h.1 112 s) → Rest c h') : lc_ok E (d + 4) (InvU Rl Rest) jdp_undo jmo_undo [] := by
  intro h hI
  obtain ⟨c, f, n, ws, rs, hc, hm, hr, hw, hrest⟩ := hI
  refine ⟨fun r h1 => (n = 0 ∧ r = 0 ∧ h1 = h) ∨ ∃ m, n = m + 1 ∧ r = 1 ∧ cU h1 f m ws ∧ wv h1 1 = ws m ∧ fr S_back h h1, fun K1 hK => ?_, fun r h1 hM K2 hK => ?_⟩
  · exact S_undo hc (fun e => hK _ _ (Or.inl ⟨e, rfl, rfl⟩)) (fun m h' e a b g => hK _ _ (Or.inr ⟨m, e, rfl, a, b, g⟩))
  · rcases hM with ⟨e, er, eh⟩ | ⟨m, e, er, a, b, g⟩
    · rw [er] at hK
      rw [eh]
      refine M_undo (d := d + 3) hm (fun _ => hK _ ?_) (fun m h' e' => by omega)
      have fq : fr (fun k => k = 112) h (gk_hf h 112 0 0) := fr_hf rfl
      refine ⟨c, f, n, ws, rs, cU_fr (fun k hk q => ?_) fq hc, mU_of (by rw [hf_f, if_neg (by decide)]) rfl hm, hr, ?_, hR c h _ hrest (fr_mo fq (fun k q => Or.inr (Or.inl q))) (fun s h0 _ => by rw [hf_f, if_neg (fun q => h0 q.2)])⟩
      · rcases hk with q2 | q2
        · rw [q2] at q; exact absurd q (by decide)
        · rw [q] at q2; exact absurd q2.2 (by decide)
      · rw [wv_hf (by decide)]
        exact hw
    · rw [er] at hK
      have n112 : ¬ S_back 112 := fun q => by rcases q with q | q <;> omega
      have n114 : ¬ S_back 114 := fun q => by rcases q with q | q <;> omega
      have hm1 : mU h1 n rs := mU_of (by rw [(g 112 n112).1]) (g 114 n114).2.1 hm
      refine M_undo (d := d + 3) hm1 (fun e0 => by omega) (fun m' h' e' u v z0 zs gz => hK _ ?_)
      have em : m' = m := by omega
      rw [em] at u v
      refine ⟨c, f, m, ws, rs, cU_fr (fun k hk q => ?_) gz a, u, fun i hi => hr i (by omega), ?_, ?_⟩
      · rcases hk with q2 | q2 <;> rcases q with q | q <;> omega
      · rw [v, wv_fr gz (fun i hi q => by rcases q with q | q <;> omega), b]
        exact hr m (by omega)
      · refine hR c h h' hrest (fr_tr (fr_mo g (fun k q => Or.inl q)) (fr_mo gz (fun k q => Or.inr q))) (fun s h0 h3 => ?_)
        rw [zs s h0 h3, (g 112 n112).1]
