/-! the calls that look at nodes -/
/-- the answer of node k at what v (0 to 4) -/
def ndI (n : Nd) (v : Nat) : Int32 := if v = 0 then nI n.1 else if v = 1 then nI n.2.1 else if v = 2 then nI n.2.2.1 else if v = 3 then nI n.2.2.2.1 else oI n.2.2.2.2
theorem node_ok {lay : List Nat} (hwf : wfB lay = true) (d : Nat) {μ : Mem} {x : Nat} {S : XS} (h : XAt μ x S) (hB : (ndT S.1).length ≤ 83) (n v : Int32) : Rn lay (d + 10) mX_node [rf 15 x, vi n, vi v] μ (if 0 ≤ n.toInt ∧ 0 ≤ v.toInt ∧ v.toInt ≤ 4 then (if tN n < (ndT S.1).length then PX x (ndI ((ndT S.1).getD (tN n) nd0) (tN v)) S else PX x (mI 0) S) else PX x (mI 1) (xBad S)) := by
  refine Rn_intro ok_X_node hwf rfl (fun G hC => g_X_node_0 hC ?_)
  have e4 : (nI 4).toInt = 4 := by decide
  refine ⟨fun q => ?_, fun q => ⟨fun q2 => ?_, fun q2 => ⟨fun q3 => ?_, fun q3 => ?_⟩⟩⟩
  · rw [i_lt, i_0] at q
    rw [if_neg (by omega)]
    exact useBad hwf _ h
  · rw [i_lt, i_0] at q2
    rw [if_neg (by omega)]
    exact useBad hwf _ h
  · rw [i_lt, i_0] at q
    rw [i_lt, i_0] at q2
    rw [i_le, e4] at q3
    rw [if_pos (by omega)]
    obtain ⟨j, j1, j2, j3⟩ := nat_of (v := n) (by omega)
    obtain ⟨k, k1, k2, k3⟩ := nat_of (v := v) (by omega)
    have ej : tN n = j := by unfold tN; rw [j3]; rfl
    have ek : tN v = k := by unfold tN; rw [k3]; rfl
    rw [k3] at q3
    rw [ej, ek, j2, k2]
    refine useNest hwf d h (fun μ1 h1 r => ?_)
    obtain ⟨r1, r2⟩ := r.2.2.1
    rw [r1, nx_lt (by omega) (by omega), nx_cl (by omega), nx_in' (by omega) (by omega), nx_eq (by omega) (by omega), nx_eq (by omega) (by omega), nx_eq (by omega) (by omega), nx_eq (by omega) (by omega)]
    refine ⟨fun z => ?_, fun z => ?_⟩
    · rw [if_pos z]
      obtain ⟨s1, s2, s3, s4, s5⟩ := r2 j z
      refine ⟨fun y => ⟨by omega, _, rfl, ?_, h1⟩, fun y0 => ⟨fun y => ⟨by omega, _, rfl, ?_, h1⟩, fun y1 => ⟨fun y => ⟨by omega, _, rfl, ?_, h1⟩, fun y2 => ⟨fun y => ⟨by omega, _, rfl, ?_, h1⟩, fun y3 => ⟨by omega, _, rfl, ?_, h1⟩⟩⟩⟩⟩
      · unfold ndI
        rw [if_pos y]
        exact s1
      · unfold ndI
        rw [if_neg y0, if_pos y]
        exact s2
      · unfold ndI
        rw [if_neg y0, if_neg y1, if_pos y]
        exact s3
      · unfold ndI
        rw [if_neg y0, if_neg y1, if_neg y2, if_pos y]
        exact s4
      · unfold ndI
        rw [if_neg y0, if_neg y1, if_neg y2, if_neg y3]
        exact s5
    · rw [if_neg z]
      exact ⟨_, rfl, rfl, h1⟩
  · rw [i_le, e4] at q3
    rw [if_neg (by omega)]
    exact useBad hwf _ h
theorem of_ok {lay : List Nat} (hwf : wfB lay = true) (d : Nat) {μ : Mem} {x : Nat} {S : XS} (h : XAt μ x S) (hB : ndB S.1.2.1 (ndT S.1)) (r v : Int32) : Rn lay (d + 10) mX_of [rf 15 x, vi r, vi v] μ (if 0 ≤ r.toInt ∧ r.toInt < S.1.1.length then (if v = nI 0 then PX x (nI (kd S.1.1 (tN r))) S else if v = nI 1 then PX x (nI (ra S.1.1 (tN r))) S else if v = nI 2 then PX x (nI (rb S.1.1 (tN r))) S else if v = nI 3 then PX x (nI (fS (pcF (tN r)) (ndT S.1) (ndT S.1).length)) S else if v = nI 4 then PX x (nI (xsU S.1.1 (tN r) S.1.1.length)) S else PX x (mI 1) (xBad S)) else PX x (mI 1) (xBad S)) := by
  refine Rn_intro ok_X_of hwf rfl (fun G hC => g_X_of_0 hC ?_)
  have hw := h.2.2.2.2.2.1.1
  have hn := hw.1.1
  refine useV (has_ok hwf _ h.1 hw r) ?_
  rw [bI_eq0]
  refine ⟨fun q => ?_, fun q => ?_⟩
  · have q := Classical.not_not.mp q
    rw [if_pos q]
    obtain ⟨j, j1, j2, j3⟩ := ix_of q (by omega)
    have ej : tN r = j := j3
    rw [ej, j2, nx_in' (by omega) (by omega), nx_cl (by omega)]
    obtain ⟨e1, e2, e3⟩ := h.1.2.2.1 j j1
    refine ⟨fun q => ?_, fun q0 => ⟨fun q => ?_, fun q1 => ⟨fun q => ?_, fun q2 => ⟨fun q => ?_, fun q3 => ⟨fun q => ?_, fun q4 => ?_⟩⟩⟩⟩⟩
    · rw [if_pos q]
      exact ⟨by omega, _, rfl, e1, h⟩
    · rw [if_neg q0, if_pos q]
      exact ⟨by omega, _, rfl, e2, h⟩
    · rw [if_neg q0, if_neg q1, if_pos q]
      exact ⟨by omega, _, rfl, e3, h⟩
    · rw [if_neg q0, if_neg q1, if_neg q2, if_pos q]
      exact useNest hwf d h (fun μ1 h1 r => useV (piecesOf_ok hwf _ r.2.2.1 hB hw.2.1 (by omega)) ⟨_, rfl, rfl, h1⟩)
    · rw [if_neg q0, if_neg q1, if_neg q2, if_neg q3, if_pos q]
      exact useV (howManyAcross_ok hwf _ h.1 hw j1) ⟨_, rfl, rfl, h⟩
    · rw [if_neg q0, if_neg q1, if_neg q2, if_neg q3, if_neg q4]
      exact useBad hwf _ h
  · rw [if_neg q]
    exact useBad hwf _ h
/-- the five sums over all nodes -/
def allN (ns : List Nd) (v : Nat) : Nat := if v = 0 then fM (fun x => x.2.2.2.1) ns ns.length else if v = 1 then fS (fun x => x.2.2.2.1) ns ns.length else if v = 2 then fS emF ns ns.length else if v = 3 then fM (fun x => x.2.2.1 - x.2.1) ns ns.length else fS noF ns ns.length
theorem all_ok {lay : List Nat} (hwf : wfB lay = true) (d : Nat) {μ : Mem} {x : Nat} {S : XS} (h : XAt μ x S) (hB : ndB S.1.2.1 (ndT S.1)) (v : Int32) : Rn lay (d + 10) mX_all [rf 15 x, vi v] μ (if 0 ≤ v.toInt ∧ v.toInt ≤ 4 then PX x (nI (allN (ndT S.1) (tN v))) S else PX x (mI 1) (xBad S)) := by
  refine Rn_intro ok_X_all hwf rfl (fun G hC => g_X_all_0 hC ?_)
  have e4 : (nI 4).toInt = 4 := by decide
  have hL := h.2.2.2.2.2.1.1.2.1
  refine ⟨fun q => ?_, fun q => ⟨fun q3 => ?_, fun q3 => ?_⟩⟩
  · rw [i_lt, i_0] at q
    rw [if_neg (by omega)]
    exact useBad hwf _ h
  · rw [i_lt, i_0] at q
    rw [i_le, e4] at q3
    rw [if_pos (by omega)]
    obtain ⟨k, k1, k2, k3⟩ := nat_of (v := v) (by omega)
    have ek : tN v = k := by unfold tN; rw [k3]; rfl
    rw [ek, k2]
    refine useNest hwf d h (fun μ1 h1 r => ?_)
    rw [nx_eq (by omega) (by omega), nx_eq (by omega) (by omega), nx_eq (by omega) (by omega), nx_eq (by omega) (by omega)]
    unfold allN
    refine ⟨fun y => ?_, fun y0 => ⟨fun y => ?_, fun y1 => ⟨fun y => ?_, fun y2 => ⟨fun y => ?_, fun y3 => ?_⟩⟩⟩⟩
    · rw [if_pos y]
      exact useV (greatestDepth_ok hwf _ r.2.2.1 hB) ⟨_, rfl, rfl, h1⟩
    · rw [if_neg y0, if_pos y]
      exact useV (depthsTogether_ok hwf _ r.2.2.1 hB) ⟨_, rfl, rfl, h1⟩
    · rw [if_neg y0, if_neg y1, if_pos y]
      exact useV (howManyEmpty_ok hwf _ r.2.2.1 hB hL) ⟨_, rfl, rfl, h1⟩
    · rw [if_neg y0, if_neg y1, if_neg y2, if_pos y]
      exact useV (longest_ok hwf _ r.2.2.1 hB hL) ⟨_, rfl, rfl, h1⟩
    · rw [if_neg y0, if_neg y1, if_neg y2, if_neg y3]
      exact useV (howManyInNone_ok hwf _ r.2.2.1 hB) ⟨_, rfl, rfl, h1⟩
  · rw [i_le, e4] at q3
    rw [if_neg (by omega)]
    exact useBad hwf _ h
