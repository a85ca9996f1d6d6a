/-! without -/
def wo (T : TS) : Nat → Int32 × Int32
  | 0 => (mI 0, mI 0)
  | i + 1 => if (wo T i).1 = mI 0 then (nI i, nI (few (rkT T false) (cvL T.1 i (cutsOf T.1 i)))) else if (wo T i).2 ≤ nI (few (rkT T false) (cvL T.1 i (cutsOf T.1 i))) then wo T i else (nI i, nI (few (rkT T false) (cvL T.1 i (cutsOf T.1 i))))
theorem wo_s (T : TS) (i : Nat) : wo T (i + 1) = if (wo T i).1 = mI 0 then (nI i, nI (few (rkT T false) (cvL T.1 i (cutsOf T.1 i)))) else if (wo T i).2 ≤ nI (few (rkT T false) (cvL T.1 i (cutsOf T.1 i))) then wo T i else (nI i, nI (few (rkT T false) (cvL T.1 i (cutsOf T.1 i)))) := rfl
theorem without_ok {lay : List Nat} (hwf : wfB lay = true) (d : Nat) {μ : Mem} {x : Nat} {S : XS} (h : XAt μ x S) (v : Int32) : Rn lay (d + 10) mX_without [rf 15 x, vi v, un, un, un, un] μ (if 0 ≤ v.toInt ∧ v.toInt ≤ 1 then PX x (if v = 0 then (wo S.1 S.1.1.length).1 else (wo S.1 S.1.1.length).2) S else PX x (mI 1) (xBad S)) := by
  refine Rn_intro ok_X_without hwf rfl (fun G hC => g_X_without_0 hC ?_)
  have e1 : (nI 1).toInt = 1 := by decide
  have hw := h.2.2.2.2.2.1.1
  have hn := hw.1.1
  refine ⟨fun q => ?_, fun q => ⟨fun q3 => ?_, fun q3 => ?_⟩⟩
  · rw [i_lt, i_0] at q
    rw [if_neg (by omega)]
    exact useBad hwf _ h
  · rw [i_lt, i_0] at q
    rw [i_le, e1] at q3
    rw [if_pos (by omega)] at hC
    have loop : ∀ k i (μ' : Mem), i + k = S.1.1.length → XAt μ' x S → G 21 [rf 15 x, vi v, vi (wo S.1 i).1, vi (wo S.1 i).2, vi (nI i), un] [] μ' := by
      intro k
      induction k with
      | zero =>
        intro i μ' hi hx
        refine g_X_without_21 hC ?_
        rw [hx.1.1, nx_le (by omega) (by omega)]
        refine ⟨fun _ => ?_, fun z => absurd (by omega) z⟩
        refine g_X_without_72 hC ?_
        have hi : i = S.1.1.length := by omega
        subst hi
        exact ⟨fun z => ⟨_, rfl, by rw [if_neg z], hx⟩, fun z => ⟨_, rfl, by rw [if_pos z], hx⟩⟩
      | succ k ih =>
        intro i μ' hi hx
        refine g_X_without_21 hC ?_
        rw [hx.1.1, nx_le (by omega) (by omega), nx_le (by omega) (by omega)]
        refine ⟨fun z => absurd z (by omega), fun _ => ⟨fun z => absurd z (by omega), fun _ => ?_⟩⟩
        have es : skI i = nI i := by unfold skI; rw [if_pos (by omega)]
        have hf := fewestWithout_ok hwf d hx.1 hw h.2.2.2.2.2.1.2.1 i false
        rw [es] at hf
        refine useQ hf (fun y μ1 hp => ?_)
        obtain ⟨p1, p2⟩ := hp
        subst p1
        have nxt := ih (i + 1) μ1 (by omega) (hx.side p2)
        rw [wo_s] at nxt
        rw [nI_add]
        refine ⟨fun z => ?_, fun z => ⟨fun z2 => ?_, fun z2 => ?_⟩⟩
        · rw [if_pos z] at nxt
          exact nxt
        · rw [if_neg z, if_pos z2] at nxt
          exact nxt
        · rw [if_neg z, if_neg z2] at nxt
          exact nxt
    exact loop S.1.1.length 0 μ (by omega) h
  · rw [i_le, e1] at q3
    rw [if_neg (by omega)]
    exact useBad hwf _ h
