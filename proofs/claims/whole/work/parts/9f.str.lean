/-! the tape's words and signs -/
theorem wd_ch : ∀ i, i < 119 → ((((gk_byt.getD 0 []).getD i 0) &&& (255 : Int32)).toUInt32 % 65536).toInt32 = nI (wdN.getD (i + 1) 0) := by decide +kernel
theorem wd_nar : ∀ i, i < 120 → narrow .char (.int (nI (wdN.getD i 0))) = .int (nI (wdN.getD i 0)) := by
  intro i hi
  have : ∀ i, i < 120 → wdN.getD i 0 < 65536 := by decide +kernel
  have h1 := this i hi
  have h2 : ∀ v, v < 65536 → ((nI v).toUInt32 % 65536).toInt32 = nI v := by
    intro v hv
    refine Int32.toBitVec_inj.mp (BitVec.eq_of_toNat_eq ?_)
    have e1 : (nI v).toBitVec.toNat = v := pk_tn (by omega)
    show (((nI v).toUInt32 % 65536).toBitVec).toNat = _
    rw [e1]
    have e2 : (nI v).toUInt32.toNat = v := e1
    show ((nI v).toUInt32 % 65536).toNat = v
    rw [UInt32.toNat_mod, e2]
    show v % 65536 = v
    omega
  show Value.int _ = Value.int _
  congr 1
  exact h2 _ h1
def isSg (c : Nat) : Bool := c == 59 || c == 43 || c == 45 || c == 42 || c == 47 || c == 40 || c == 41 || c == 60 || c == 61 || c == 62
theorem sg_byt : ∀ i, i < 10 → (gk_byt.getD 1 []).getD i 0 = nI ([59, 43, 45, 42, 47, 40, 41, 60, 61, 62].getD i 0) := by decide +kernel
theorem sg_eq : ∀ c, c < 256 → ∀ i, i < 10 → (((gk_byt.getD 1 []).getD i 0 = (nI c).toInt8.toInt32) ↔ [59, 43, 45, 42, 47, 40, 41, 60, 61, 62].getD i 0 = c) := by decide +kernel
theorem sg_is : ∀ c, c < 256 → (isSg c = true ↔ ∃ i, i < 10 ∧ [59, 43, 45, 42, 47, 40, 41, 60, 61, 62].getD i 0 = c) := by decide +kernel
section STR
variable {E : gk_E} {d : Nat} {h : gk_H} {K : Int32 → gk_H → Prop}
theorem s_js_length (hk : K 119 h) : gk_ci E (d + 2) jjs_length [.ref 1000001] h K := by
  refine gk_ci_mk (x_js_length_1000001 (gk_ci_mk (x_js_coder_1000001 (yF (by decide) ⟨rfl, ?_⟩))))
  have e : ((OfNat.ofNat (gk_len.getD 0 0) : Int32) >>> ((0 : Int32) &&& 31)) = 119 := by decide +kernel
  show K _ h
  rw [e]
  exact hk
theorem s_js_checkIndex {K : gk_H → Prop} {i n : Nat} (hi : i < n) (hn : n < 2 ^ 31) (hk : K h) : gk_cv E (d + 2) jjs_checkIndex [.int (nI i), .int (nI n)] h K := by
  have k1 : ¬ nI i < 0 := nI_pos (by omega)
  have k2 : nI i < nI n := (nI_ltI (by omega) hn).mpr hi
  refine gk_cv_mk (x_js_checkIndex ?_)
  unfold w_js_checkIndex
  cases E.1.2 with
  | true => exact gk_ci_mk (x_jp_checkIndex_1000005 (yF k1 (yT k2 hk)))
  | false => exact gk_ci_mk (x_jp_checkIndex_n (yF k1 (yT k2 hk)))
theorem s_js_charAt {i : Nat} (hi : i < 119) (hk : K (nI (wdN.getD (i + 1) 0)) h) : gk_ci E (d + 4) jjs_charAt [.ref 1000001, .int (nI i)] h K := by
  refine gk_ci_mk (x_js_charAt (gk_ci_mk (x_js_isLatin1_1000001 (yF (by decide) (zT rfl ⟨Or.inr rfl, yF (by decide) ?_⟩)))))
  refine gk_ci_mk (x_jt_charAt (s_js_checkIndex (i := i) (n := 119) hi (by decide) ?_))
  rw [nI_clamp (by omega), wd_ch i hi]
  exact ⟨vp_in_nI hi (by decide), wd_nar (i + 1) (by omega), wd_nar (i + 1) (by omega), hk⟩
theorem s_js_indexOf {c : Nat} (hc : c < 256) (k0 : isSg c = false → K (-1) h) (k1 : ∀ j, j < 10 → isSg c = true → K (nI j) h) : gk_ci E (d + 5) jjs_indexOf [.ref 1000002, .int (nI c)] h K := by
  have el : ((OfNat.ofNat (gk_len.getD 1 0) : Int32) >>> ((0 : Int32) &&& 31)) = 10 := by decide +kernel
  refine gk_ci_mk (x_js_indexOf (gk_ci_mk (x_js_indexOf2 (gk_ci_mk (x_js_isLatin1_1000002 (yF (by decide) (zT rfl ⟨Or.inr rfl, yF (by decide) ?_⟩)))))))
  refine gk_ci_mk (x_js_length_1000002 (gk_ci_mk (x_js_coder_1000002 (yF (by decide) ⟨rfl, ?_⟩))))
  show gk_ci E _ jjt_indexOf [.ref 1000004, .int (nI c), .int 0, .int ((OfNat.ofNat (gk_len.getD 1 0) : Int32) >>> ((0 : Int32) &&& 31))] h _
  rw [el]
  refine gk_ci_mk (x_jt_indexOf (gk_ci_mk (x_jt_canEncode (yF (nI_pos (by omega)) (yF (fun q => by have := (nI_ltI (a := 255) (b := c) (by decide) (by omega)).mp q; omega) ⟨Or.inr rfl, zF (by decide) ⟨by omega, fe ⟨by omega, fe (yT (by decide) ?_)⟩⟩⟩)))))
  refine gk_ci_mk (x_jt_indexOfChar (fe (fe ?_)))
  refine lp_up (N := 10) (fun i (_ : Unit) => g_jt_indexOfChar_7 E (d + 1) (gk_qi K) 10 (nI c).toInt8.toInt32 (nI i) h) (fun i _ => ∀ j, j < i → ¬ [59, 43, 45, 42, 47, 40, 41, 60, 61, 62].getD j 0 = c) ?_ ?_ 0 () (by decide) (fun j hj => absurd hj (Nat.not_lt_zero _))
  · intro i _ hi no ih
    refine x_jt_indexOfChar_7 (pk_le 10 i (fun q => by omega) (fun _ => ⟨vp_in_nI hi (by decide), ?_⟩))
    rw [nI_clamp (by omega), sg_eq c hc i hi, nI_1]
    refine ⟨fun q => fe (ih () fun j hj => ?_), fun q => k1 i hi ((sg_is c hc).mpr ⟨i, hi, q⟩)⟩
    by_cases z : j = i
    · rw [z]; exact q
    · exact no j (by omega)
  · intro _ no
    refine x_jt_indexOfChar_7 (pk_le 10 10 (fun _ => k0 ?_) (fun q => by omega))
    cases e : isSg c with
    | false => rfl
    | true =>
      obtain ⟨i, hi, q⟩ := (sg_is c hc).mp e
      exact absurd q (no i hi)
end STR
