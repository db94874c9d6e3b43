/-! keeping and going back over views -/
def fr (S : Nat → Prop) (h h' : gk_H) : Prop := ∀ k, ¬ S k → h'.1 k = h.1 k ∧ h'.2.1 k = h.2.1 k ∧ h'.2.2 k = h.2.2 k
theorem fr_rf {S : Nat → Prop} {h : gk_H} : fr S h h := fun _ _ => ⟨rfl, rfl, rfl⟩
theorem fr_tr {S : Nat → Prop} {h1 h2 h3 : gk_H} (a : fr S h1 h2) (b : fr S h2 h3) : fr S h1 h3 := fun k hk => ⟨(b k hk).1.trans (a k hk).1, (b k hk).2.1.trans (a k hk).2.1, (b k hk).2.2.trans (a k hk).2.2⟩
theorem fr_mo {S T : Nat → Prop} {h1 h2 : gk_H} (a : fr S h1 h2) (hs : ∀ k, S k → T k) : fr T h1 h2 := fun k hk => a k (fun q => hk (hs k q))
theorem fr_hf {S : Nat → Prop} {h : gk_H} {k i : Nat} {x : Int32} (hk : S k) : fr S h (gk_hf h k i x) := by
  intro k' hk'
  have e : ¬ k' = k := fun q => hk' (q ▸ hk)
  exact ⟨funext fun s => by rw [hf_f, if_neg (fun q => e q.1)], rfl, rfl⟩
theorem fr_ha {S : Nat → Prop} {h : gk_H} {k i : Nat} {x : Int32} (hk : S k) : fr S h (gk_ha h k i x) := by
  intro k' hk'
  have e : ¬ k' = k := fun q => hk' (q ▸ hk)
  exact ⟨rfl, funext fun s => by rw [ha_a, if_neg (fun q => e q.1)], rfl⟩
theorem fr_cp {S : Nat → Prop} {h : gk_H} {k k0 o t n : Nat} (hk : S k) : fr S h (h_cp h k k0 o t n) := by
  intro k' hk'
  have e : ¬ k' = k := fun q => hk' (q ▸ hk)
  exact ⟨rfl, funext fun s => by simp only [h_cp]; rw [if_neg (fun q => e q.1)], rfl⟩
theorem fr_copy {S : Nat → Prop} {h : gk_H} {a b : Nat} (hab : a + 5 < b ∨ b + 5 < a) (hS : ∀ i, i ≤ 5 → S (a + i)) : fr S h (hv_copy h a b) := by
  intro k hk
  have n : ∀ i, i ≤ 5 → ¬ k = a + i := fun i hi q => hk (q ▸ hS i hi)
  refine ⟨funext fun s => ?_, funext fun s => ?_, funext fun s => ?_⟩
  · rw [cp_f (by omega), if_neg (fun q => n 0 (by decide) q.1)]
  · rw [cp_a hab, if_neg (fun q => n 2 (by decide) q.1), if_neg (fun q => n 3 (by decide) q.1), if_neg (fun q => n 4 (by decide) q.1), if_neg (fun q => n 5 (by decide) q.1)]
  · rw [cp_l, if_neg (fun q => n 1 (by decide) q.1)]
theorem wv_fr {S : Nat → Prop} {h h' : gk_H} {a : Nat} (f : fr S h h') (hS : ∀ i, i ≤ 5 → ¬ S (a + i)) : wv h' a = wv h a :=
  wv_eq (fun s _ => by rw [(f a (hS 0 (by decide))).1]) (fun s _ => by rw [(f _ (hS 1 (by decide))).2.2]) (fun s _ => by rw [(f _ (hS 2 (by decide))).2.1]) (fun s _ => by rw [(f _ (hS 3 (by decide))).2.1]) (fun s _ => by rw [(f _ (hS 4 (by decide))).2.1]) (fun s _ => by rw [(f _ (hS 5 (by decide))).2.1])
/-- the cells of the class's ring -/
def S_ring (k : Nat) : Prop := k = 20 ∨ (22 ≤ k ∧ k < 58)
theorem S_keep {E : gk_E} {d : Nat} {h : gk_H} {K : gk_H → Prop} {f n : Nat} {ws : Nat → gk_WV} (hU : cU h f n ws) (k : ∀ f' h', cU h' f' (kpN n) (kpS n ws (wv h 1)) → fr S_ring h h' → K h') : gk_cv E (d + 3) jps_keep [.ref 20, .ref 1] h K := by
  obtain ⟨hf, hn, e1, e2, hw⟩ := hU
  refine s_ps_keep hf hn e1 e2 (fun hn6 => k f _ ?_ ?_) (fun hn6 => k ((f + 1) % 6) _ ?_ ?_)
  · have q6 : ¬ n = 6 := by omega
    have hr : (f + n) % 6 < 6 := Nat.mod_lt _ (by decide)
    refine ⟨hf, by unfold kpN; rw [if_neg q6]; omega, ?_, ?_, fun i hi => ?_⟩
    · rw [hf_f, if_neg (by decide), cp_f (by omega), if_neg (fun q => absurd q.1 (by omega)), e1]
    · unfold kpN
      rw [hf_f, if_pos ⟨rfl, rfl⟩, if_neg q6]
    · unfold kpN at hi
      rw [if_neg q6] at hi
      rw [wv_hf (by omega)]
      unfold kpS
      rw [if_neg q6]
      by_cases q : i = n
      · rw [if_pos q, q]
        exact wv_copy_self (by omega)
      · rw [if_neg q, wv_copy_other (by omega) (by omega)]
        exact hw i (by omega)
  · have hr : (f + n) % 6 < 6 := Nat.mod_lt _ (by decide)
    exact fr_tr (fr_copy (by omega) (fun i hi => Or.inr (by omega))) (fr_hf (Or.inl rfl))
  · have hr : ((f + 1) % 6 + 5) % 6 < 6 := Nat.mod_lt _ (by decide)
    refine ⟨Nat.mod_lt _ (by decide), by unfold kpN; rw [if_pos hn6]; decide, ?_, ?_, fun i hi => ?_⟩
    · rw [hf_f, if_neg (by decide), cp_f (by omega), if_neg (fun q => absurd q.1 (by omega)), hf_f, if_neg (by decide), hf_f, if_pos ⟨rfl, rfl⟩]
    · unfold kpN
      rw [hf_f, if_pos ⟨rfl, rfl⟩, if_pos hn6]
    · unfold kpN at hi
      rw [if_pos hn6] at hi
      rw [wv_hf (by omega)]
      unfold kpS
      rw [if_pos hn6]
      by_cases q : i < 5
      · rw [if_pos q, wv_copy_other (by omega) (by omega), wv_hf (by omega), wv_hf (by omega)]
        have e : ((f + 1) % 6 + i) % 6 = (f + (i + 1)) % 6 := by omega
        rw [e]
        exact hw (i + 1) (by omega)
      · rw [if_neg q, show i = 5 by omega, wv_copy_self (by omega), wv_hf (by omega), wv_hf (by omega)]
  · have hr : ((f + 1) % 6 + 5) % 6 < 6 := Nat.mod_lt _ (by decide)
    exact fr_tr (fr_tr (fr_hf (Or.inl rfl)) (fr_hf (Or.inl rfl))) (fr_tr (fr_copy (by omega) (fun i hi => Or.inr (by omega))) (fr_hf (Or.inl rfl)))
