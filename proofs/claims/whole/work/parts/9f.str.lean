/-! the tape's words and signs -/
theorem wd_ch : ∀ i, i < 119 → ((((gk_byt.getD 0 []).getD i 0) &&& (255 : Int32)).toUInt32 % 65536).toInt32 = nI (wdN.getD (i + 1) 0) := by decide +kernel
theorem wd_nar : ∀ i, i < 120 → narrow .char (.int (nI (wdN.getD i 0))) = .int (nI (wdN.getD i 0)) := by
  intro i hi
  have : ∀ i, i < 120 → wdN.getD i 0 < 65536 := by decide +kernel
  have h1 := this i hi
  have h2 : ∀ v, v < 65536 → ((nI v).toUInt32 % 65536).toInt32 = nI v := by
    intro v hv
    refine Int32.toBitVec_inj.mp (BitVec.eq_of_toNat_eq ?_)
    have e1 : (nI v).toBitVec.toNat = v := pk_tn (by omega)
    show (((nI v).toUInt32 % 65536).toBitVec).toNat = _
    rw [e1]
    have e2 : (nI v).toUInt32.toNat = v := e1
    show ((nI v).toUInt32 % 65536).toNat = v
    rw [UInt32.toNat_mod, e2]
    show v % 65536 = v
    omega
  show Value.int _ = Value.int _
  congr 1
  exact h2 _ h1
def isSg (c : Nat) : Bool := c == 59 || c == 43 || c == 45 || c == 42 || c == 47 || c == 40 || c == 41 || c == 60 || c == 61 || c == 62
theorem sg_byt : ∀ i, i < 10 → (gk_byt.getD 1 []).getD i 0 = nI ([59, 43, 45, 42, 47, 40, 41, 60, 61, 62].getD i 0) := by decide +kernel
section STR
variable {E : gk_E} {d : Nat} {h : gk_H} {K : Int32 → gk_H → Prop}
theorem s_js_length (hk : K 119 h) : gk_ci E (d + 2) jjs_length [.ref 1000001] h K := by
  refine gk_ci_mk (x_js_length_1000001 (gk_ci_mk (x_js_coder_1000001 (yF (by decide) ⟨rfl, ?_⟩))))
  have e : ((OfNat.ofNat (gk_len.getD 0 0) : Int32) >>> ((0 : Int32) &&& 31)) = 119 := by decide +kernel
  show K _ h
  rw [e]
  exact hk
theorem s_js_checkIndex {K : gk_H → Prop} {i n : Nat} (hi : i < n) (hn : n < 2 ^ 31) (hk : K h) : gk_cv E (d + 2) jjs_checkIndex [.int (nI i), .int (nI n)] h K := by
  have k1 : ¬ nI i < 0 := nI_pos (by omega)
  have k2 : nI i < nI n := (nI_ltI (by omega) hn).mpr hi
  refine gk_cv_mk (x_js_checkIndex ?_)
  unfold w_js_checkIndex
  cases E.1.2 with
  | true => exact gk_ci_mk (x_jp_checkIndex_1000005 (yF k1 (yT k2 hk)))
  | false => exact gk_ci_mk (x_jp_checkIndex_n (yF k1 (yT k2 hk)))
theorem s_js_charAt {i : Nat} (hi : i < 119) (hk : K (nI (wdN.getD (i + 1) 0)) h) : gk_ci E (d + 4) jjs_charAt [.ref 1000001, .int (nI i)] h K := by
  refine gk_ci_mk (x_js_charAt (gk_ci_mk (x_js_isLatin1_1000001 (yF (by decide) (zT rfl ⟨Or.inr rfl, yF (by decide) ?_⟩)))))
  refine gk_ci_mk (x_jt_charAt (s_js_checkIndex (i := i) (n := 119) hi (by decide) ?_))
  rw [nI_clamp (by omega), wd_ch i hi]
  exact ⟨vp_in_nI hi (by decide), wd_nar (i + 1) (by omega), wd_nar (i + 1) (by omega), hk⟩
end STR
