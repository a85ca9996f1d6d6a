/-! the calls that only tell -/
theorem told_ok {lay : List Nat} (hwf : wfB lay = true) (d : Nat) {μ : Mem} {x : Nat} {S : XS} (h : XAt μ x S) (v : Int32) : Rn lay (d + 10) mX_told [rf 15 x, vi v] μ (if v = nI 0 then PX x S.2.2.1 S else if v = nI 1 then PX x S.2.2.2.1 S else if v = nI 2 then PX x S.2.2.2.2 S else if v = nI 3 then PX x (nI S.1.1.length) S else if v = nI 4 then PX x (nI S.1.2.1) S else if v = nI 5 then PX x (nI (cvT S.1).length) S else if v = nI 6 then PX x (nI S.2.1.length) S else if v = nI 7 then PX x (nI (1000 * S.1.2.2.getD 0 0 + 100 * S.1.2.2.getD 1 0 + 10 * S.1.2.2.getD 2 0 + S.1.2.2.getD 3 0)) S else PX x (mI 1) (xBad S)) := by
  refine Rn_intro ok_X_told hwf rfl (fun G hC => g_X_told_0 hC ?_)
  refine ⟨fun q => ?_, fun q0 => ⟨fun q => ?_, fun q1 => ⟨fun q => ?_, fun q2 => ⟨fun q => ?_, fun q3 => ⟨fun q => ?_, fun q4 => ⟨fun q => ?_, fun q5 => ⟨fun q => ?_, fun q6 => ⟨fun q => ?_, fun q7 => ?_⟩⟩⟩⟩⟩⟩⟩⟩
  · rw [if_pos q]
    exact ⟨_, rfl, h.2.2.1, h⟩
  · rw [if_neg q0, if_pos q]
    exact ⟨_, rfl, h.2.2.2.1, h⟩
  · rw [if_neg q0, if_neg q1, if_pos q]
    exact ⟨_, rfl, h.2.2.2.2.1, h⟩
  · rw [if_neg q0, if_neg q1, if_neg q2, if_pos q]
    exact ⟨_, rfl, h.1.1, h⟩
  · rw [if_neg q0, if_neg q1, if_neg q2, if_neg q3, if_pos q]
    exact ⟨_, rfl, h.1.2.1, h⟩
  · rw [if_neg q0, if_neg q1, if_neg q2, if_neg q3, if_neg q4, if_pos q]
    exact useNest hwf d h (fun μ1 q r => ⟨_, rfl, r.1.2.1, q⟩)
  · rw [if_neg q0, if_neg q1, if_neg q2, if_neg q3, if_neg q4, if_neg q5, if_pos q]
    have hl : μ.1 (x + 11) 2 = nI S.2.1.length := by
      obtain ⟨nx, a, b, c, _⟩ := h.2.1
      exact c
    exact ⟨_, rfl, hl, h⟩
  · rw [if_neg q0, if_neg q1, if_neg q2, if_neg q3, if_neg q4, if_neg q5, if_neg q6, if_pos q]
    exact useV (ranksAsOne_ok hwf _ h.1) ⟨_, rfl, rfl, h⟩
  · rw [if_neg q0, if_neg q1, if_neg q2, if_neg q3, if_neg q4, if_neg q5, if_neg q6, if_neg q7]
    exact useBad hwf _ h
theorem section_ok {lay : List Nat} (hwf : wfB lay = true) (d : Nat) {μ : Mem} {x : Nat} {S : XS} (h : XAt μ x S) (s v : Int32) : Rn lay (d + 10) mX_section [rf 15 x, vi s, vi v] μ (if 0 ≤ s.toInt ∧ s.toInt < (cvT S.1).length then (if v = nI 0 then PX x (nI ((csT S.1).getD (tN s) 0)) S else if v = nI 1 then PX x (nI ((csT S.1).getD (tN s + 1) 0)) S else if v = nI 2 then PX x (nI (popN ((cvT S.1).getD (tN s) 0))) S else PX x (mI 1) (xBad S)) else PX x (mI 1) (xBad S)) := by
  refine Rn_intro ok_X_section hwf rfl (fun G hC => g_X_section_0 hC ?_)
  have hw := h.2.2.2.2.2.1.1
  have hn := hw.1.1
  have hok : okC (cvT S.1) := okC_cv hn h.2.2.2.2.2.1.2.1 8 (csT S.1)
  have hcl : (csT S.1).length ≤ 16 := csT_len hw 8
  have hcvl : (cvT S.1).length = (csT S.1).length - 1 := cvL_len S.1.1 8 (csT S.1)
  refine useNest hwf d h (fun μ1 h1 r => ?_)
  refine useV (seHas_ok hwf _ r.1 (by omega) s) ?_
  rw [bI_eq0]
  refine ⟨fun q => ?_, fun q => ?_⟩
  · have q := Classical.not_not.mp q
    rw [if_pos q]
    obtain ⟨j, j1, j2, j3⟩ := ix_of q (by omega)
    have ej : tN s = j := j3
    rw [ej, j2, nI_add, nx_in' (by omega) (by omega), nx_in' (by omega) (by omega), nx_in' (by omega) (by omega), nx_cl (by omega), nx_cl (by omega)]
    refine ⟨fun q => ?_, fun q0 => ⟨fun q => ?_, fun q1 => ⟨fun q => ?_, fun q2 => ?_⟩⟩⟩
    · rw [if_pos q]
      exact ⟨by omega, _, rfl, r.1.1.2 j (by omega), h1⟩
    · rw [if_neg q0, if_pos q]
      exact ⟨by omega, _, rfl, r.1.1.2 (j + 1) (by omega), h1⟩
    · rw [if_neg q0, if_neg q1, if_pos q]
      rw [r.1.2.2.1 j j1]
      exact ⟨by omega, useV (bitCount_ok hwf _ (hok.at j1).1 μ1) ⟨_, rfl, rfl, h1⟩⟩
    · rw [if_neg q0, if_neg q1, if_neg q2]
      exact useBad hwf _ h1
  · rw [if_neg q]
    exact useBad hwf _ h1
theorem zs_ok {T : TS} (hw : WT T) (hnc : NC T.1) {q : Nat} (hq : q < (cvT T).length) : isSt ((cvT T).getD q 0) ((zsT T).getD q []) ∧ oks ((zsT T).getD q []) := by
  have hn := hw.1.1
  have hrk : ∀ r, r < 8 → rkO T r < 4 := fun r _ => rkT_lt hw false r
  have hok : okC (cvT T) := okC_cv hn hnc 8 (csT T)
  have hcl : (csT T).length ≤ 16 := csT_len hw 8
  have hcvl : (cvT T).length = (csT T).length - 1 := cvL_len T.1 8 (csT T)
  have h100 : (cvT T).length ≤ 100 := by omega
  have hfe := feas_first hrk hok h100
  have hz : isSt ((cvT T).getD q 0) ((zsT T).getD q []) := stk_st (hok.at hq).1 (chs_in hrk _ _ _ hok h100 hfe q hq)
  exact ⟨hz, hz.ok (hok.at hq).2⟩
theorem stack_ok {lay : List Nat} (hwf : wfB lay = true) (d : Nat) {μ : Mem} {x : Nat} {S : XS} (h : XAt μ x S) (s v : Int32) : Rn lay (d + 10) mX_stack [rf 15 x, vi s, vi v] μ (if (0 ≤ s.toInt ∧ s.toInt < (cvT S.1).length) ∧ 0 ≤ v.toInt then PX x (atI ((zsT S.1).getD (tN s) []) (tN v)) S else PX x (mI 1) (xBad S)) := by
  refine Rn_intro ok_X_stack hwf rfl (fun G hC => g_X_stack_0 hC ?_)
  have hw := h.2.2.2.2.2.1.1
  have hcl : (csT S.1).length ≤ 16 := csT_len hw 8
  have hcvl : (cvT S.1).length = (csT S.1).length - 1 := cvL_len S.1.1 8 (csT S.1)
  refine useNest hwf d h (fun μ1 h1 r => ?_)
  refine useV (seHas_ok hwf _ r.1 (by omega) s) ?_
  rw [bI_eq0]
  refine ⟨fun q => ?_, fun q => ⟨fun q2 => ?_, fun q2 => ?_⟩⟩
  · rw [if_neg (fun z => q z.1)]
    exact useBad hwf _ h1
  · have q := Classical.not_not.mp q
    rw [i_le, i_0] at q2
    rw [if_pos ⟨q, q2⟩]
    obtain ⟨j, j1, j2, j3⟩ := ix_of q (by omega)
    obtain ⟨k, k1, k2, k3⟩ := nat_of q2
    have ej : tN s = j := j3
    have ek : tN v = k := by unfold tN; rw [k3]; rfl
    rw [ej, ek, j2, k2, nx_in' (by omega) (by omega), nx_cl (by omega), r.2.1 j j1]
    exact ⟨by omega, useV (at_ok hwf _ (zs_ok hw h.2.2.2.2.2.1.2.1 j1).2 k1 μ1) ⟨_, rfl, rfl, h1⟩⟩
  · rw [i_le, i_0] at q2
    rw [if_neg (fun z => q2 z.2)]
    exact useBad hwf _ h1
