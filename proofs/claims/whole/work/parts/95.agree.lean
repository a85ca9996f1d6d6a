/-! both sides of a call: the same answer, the same state behind it -/
def Ag (P N : PT) : Prop := ∃ v S', P = PX 0 v S' ∧ N = PM 0 v S'
theorem Ag.rf {v : Int32} {S : XS} : Ag (PX 0 v S) (PM 0 v S) := ⟨v, S, rfl, rfl⟩
theorem Ag.ite {q : Prop} [Decidable q] {P1 P2 N1 N2 : PT} (h1 : Ag P1 N1) (h2 : Ag P2 N2) : Ag (if q then P1 else P2) (if q then N1 else N2) := by
  by_cases h : q
  · rw [if_pos h, if_pos h]; exact h1
  · rw [if_neg h, if_neg h]; exact h2
def AgC (dX dM MX MM : Nat) (vs : List Int32) (μX μM : Mem) : Prop := ∃ v S', Rn layX dX MX (rf 15 0 :: vs.map vi) μX (PX 0 v S') ∧ Rn layM dM MM (rf 16 0 :: vs.map vi) μM (PM 0 v S')
theorem agOf {dX dM MX MM : Nat} {vs : List Int32} {μX μM : Mem} {P N : PT} (hX : Rn layX dX MX (rf 15 0 :: vs.map vi) μX P) (hM : Rn layM dM MM (rf 16 0 :: vs.map vi) μM N) (h : Ag P N) : AgC dX dM MX MM vs μX μM := by
  obtain ⟨v, S', e1, e2⟩ := h
  rw [e1] at hX
  rw [e2] at hM
  exact ⟨v, S', hX, hM⟩
theorem ag_anew {μX μM : Mem} {S : XS} (hx : XAt μX 0 S) (hm : MAt μM 0 S) (a : Int32) : AgC 1 1 mX_anew mM_anew [a] μX μM := by
  refine agOf (anew_ok wfX 0 hx a) (mAnew_ok wfM 0 hm a) ?_
  repeat (first | exact Ag.rf | refine Ag.ite ?_ ?_)
theorem ag_range {μX μM : Mem} {S : XS} (hx : XAt μX 0 S) (hm : MAt μM 0 S) (a b c : Int32) : AgC 3 2 mX_range mM_range [a, b, c] μX μM := by
  refine agOf (range_ok wfX 0 hx a b c) (mRange_ok wfM 0 hm a b c) ?_
  repeat (first | exact Ag.rf | refine Ag.ite ?_ ?_)
theorem ag_drop {μX μM : Mem} {S : XS} (hx : XAt μX 0 S) (hm : MAt μM 0 S) (a : Int32) : AgC 3 2 mX_drop mM_drop [a] μX μM := by
  refine agOf (drop_ok wfX 0 hx a) (mDrop_ok wfM 0 hm a) ?_
  repeat (first | exact Ag.rf | refine Ag.ite ?_ ?_)
theorem ag_moves {μX μM : Mem} {S : XS} (hx : XAt μX 0 S) (hm : MAt μM 0 S) (a b c : Int32) : AgC 3 2 mX_moves mM_moves [a, b, c] μX μM := by
  refine agOf (moves_ok2 wfX 0 hx a b c) (mMoves_ok wfM 0 hm a b c) ?_
  repeat (first | exact Ag.rf | refine Ag.ite ?_ ?_)
theorem ag_kind {μX μM : Mem} {S : XS} (hx : XAt μX 0 S) (hm : MAt μM 0 S) (a b : Int32) : AgC 3 2 mX_kind mM_kind [a, b] μX μM := by
  refine agOf (kind_ok2 wfX 0 hx a b) (mKind_ok wfM 0 hm a b) ?_
  repeat (first | exact Ag.rf | refine Ag.ite ?_ ?_)
theorem ag_rank {μX μM : Mem} {S : XS} (hx : XAt μX 0 S) (hm : MAt μM 0 S) (a b : Int32) : AgC 3 2 mX_rank mM_rank [a, b] μX μM := by
  refine agOf (rank_ok2 wfX 0 hx a b) (mRank_ok wfM 0 hm a b) ?_
  repeat (first | exact Ag.rf | refine Ag.ite ?_ ?_)
theorem ag_puts {μX μM : Mem} {S : XS} (hx : XAt μX 0 S) (hm : MAt μM 0 S) (a b : Int32) : AgC 3 2 mX_puts mM_puts [a, b] μX μM := by
  refine agOf (puts_ok wfX 0 hx a b) (mPuts_ok wfM 0 hm a b) ?_
  repeat (first | exact Ag.rf | refine Ag.ite ?_ ?_)
theorem ag_takes {μX μM : Mem} {S : XS} (hx : XAt μX 0 S) (hm : MAt μM 0 S) (a b : Int32) : AgC 3 2 mX_takes mM_takes [a, b] μX μM := by
  refine agOf (takes_ok wfX 0 hx a b) (mTakes_ok wfM 0 hm a b) ?_
  repeat (first | exact Ag.rf | refine Ag.ite ?_ ?_)
theorem ag_joins {μX μM : Mem} {S : XS} (hx : XAt μX 0 S) (hm : MAt μM 0 S) (a : Int32) : AgC 4 3 mX_joins mM_joins [a] μX μM := by
  refine agOf (joins_ok wfX 0 hx a) (mJoins_ok wfM 0 hm a) ?_
  repeat (first | exact Ag.rf | refine Ag.ite ?_ ?_)
theorem ag_splits {μX μM : Mem} {S : XS} (hx : XAt μX 0 S) (hm : MAt μM 0 S) (a : Int32) : AgC 10 7 mX_splits mM_splits [a] μX μM := by
  refine agOf (splits_ok wfX 0 hx a) (mSplits_ok wfM 0 hm a) ?_
  repeat (first | exact Ag.rf | refine Ag.ite ?_ ?_)
theorem ag_undo {μX μM : Mem} {S : XS} (hx : XAt μX 0 S) (hm : MAt μM 0 S) : AgC 2 1 mX_undo mM_undo [] μX μM := by
  refine agOf (undo_ok wfX 0 hx) (mUndo_ok wfM 0 hm) ?_
  cases S.2.1 with
  | nil => exact Ag.rf
  | cons T h => exact Ag.rf
theorem ag_of {μX μM : Mem} {S : XS} (hx : XAt μX 0 S) (hm : MAt μM 0 S) (a b : Int32) : AgC 10 8 mX_of mM_of [a, b] μX μM := by
  refine agOf (of_ok wfX 0 hx (ndT_B hx.2.2.2.2.2.1.1 hx.2.2.2.2.2.1.2.1) a b) (mOf_ok wfM 0 hm a b) ?_
  repeat (first | exact Ag.rf | refine Ag.ite ?_ ?_)
theorem ag_over {μX μM : Mem} {S : XS} (hx : XAt μX 0 S) (hm : MAt μM 0 S) (a : Int32) : AgC 1 1 mX_over mM_over [a] μX μM := by
  refine agOf (over_ok wfX 0 hx a) (mOver_ok wfM 0 hm a) ?_
  repeat (first | exact Ag.rf | refine Ag.ite ?_ ?_)
theorem ag_section {μX μM : Mem} {S : XS} (hx : XAt μX 0 S) (hm : MAt μM 0 S) (a b : Int32) : AgC 10 2 mX_section mM_section [a, b] μX μM := by
  refine agOf (section_ok wfX 0 hx a b) (mSection_ok wfM 0 hm a b) ?_
  repeat (first | exact Ag.rf | refine Ag.ite ?_ ?_)
theorem ag_stack {μX μM : Mem} {S : XS} (hx : XAt μX 0 S) (hm : MAt μM 0 S) (a b : Int32) : AgC 10 6 mX_stack mM_stack [a, b] μX μM := by
  refine agOf (stack_ok wfX 0 hx a b) (mStack_ok wfM 0 hm a b) ?_
  repeat (first | exact Ag.rf | refine Ag.ite ?_ ?_)
theorem ag_least {μX μM : Mem} {S : XS} (hx : XAt μX 0 S) (hm : MAt μM 0 S) : AgC 10 6 mX_least mM_least [] μX μM := by
  refine agOf (least_ok wfX 0 hx) (mLeast_ok wfM 0 hm) ?_
  repeat (first | exact Ag.rf | refine Ag.ite ?_ ?_)
theorem ag_ways {μX μM : Mem} {S : XS} (hx : XAt μX 0 S) (hm : MAt μM 0 S) : AgC 10 6 mX_ways mM_ways [] μX μM := by
  refine agOf (ways_ok wfX 0 hx) (mWays_ok wfM 0 hm) ?_
  repeat (first | exact Ag.rf | refine Ag.ite ?_ ?_)
theorem ag_plain {μX μM : Mem} {S : XS} (hx : XAt μX 0 S) (hm : MAt μM 0 S) : AgC 10 6 mX_plain mM_plain [] μX μM := by
  refine agOf (plain_ok wfX 0 hx) (mPlain_ok wfM 0 hm) ?_
  repeat (first | exact Ag.rf | refine Ag.ite ?_ ?_)
theorem ag_free {μX μM : Mem} {S : XS} (hx : XAt μX 0 S) (hm : MAt μM 0 S) : AgC 10 5 mX_free mM_free [] μX μM := by
  refine agOf (free_ok wfX 0 hx) (mFree_ok wfM 0 hm) ?_
  repeat (first | exact Ag.rf | refine Ag.ite ?_ ?_)
theorem ag_without {μX μM : Mem} {S : XS} (hx : XAt μX 0 S) (hm : MAt μM 0 S) (a : Int32) : AgC 10 5 mX_without mM_without [a] μX μM := by
  refine agOf (without_ok2 wfX 0 hx a) (mWithout_ok wfM 0 hm a) ?_
  repeat (first | exact Ag.rf | refine Ag.ite ?_ ?_)
theorem ag_nodes {μX μM : Mem} {S : XS} (hx : XAt μX 0 S) (hm : MAt μM 0 S) : AgC 10 7 mX_nodes mM_nodes [] μX μM := by
  refine agOf (nodes_ok wfX 0 hx) (mNodes_ok wfM 0 hm) ?_
  repeat (first | exact Ag.rf | refine Ag.ite ?_ ?_)
theorem ag_node {μX μM : Mem} {S : XS} (hx : XAt μX 0 S) (hm : MAt μM 0 S) (a b : Int32) : AgC 10 7 mX_node mM_node [a, b] μX μM := by
  refine agOf (node_ok wfX 0 hx (ndT_B hx.2.2.2.2.2.1.1 hx.2.2.2.2.2.1.2.1).1 a b) (mNode_ok wfM 0 hm a b) ?_
  repeat (first | exact Ag.rf | refine Ag.ite ?_ ?_)
theorem ag_all {μX μM : Mem} {S : XS} (hx : XAt μX 0 S) (hm : MAt μM 0 S) (a : Int32) : AgC 10 7 mX_all mM_all [a] μX μM := by
  refine agOf (all_ok wfX 0 hx (ndT_B hx.2.2.2.2.2.1.1 hx.2.2.2.2.2.1.2.1) a) (mAll_ok wfM 0 hm a) ?_
  repeat (first | exact Ag.rf | refine Ag.ite ?_ ?_)
theorem ag_draw {μX μM : Mem} {S : XS} (hx : XAt μX 0 S) (hm : MAt μM 0 S) (a b : Int32) : AgC 3 2 mX_draw mM_draw [a, b] μX μM := by
  refine agOf (draw_ok wfX 0 hx a b) (mDraw_ok wfM 0 hm a b) ?_
  repeat (first | exact Ag.rf | refine Ag.ite ?_ ?_)
theorem ag_told {μX μM : Mem} {S : XS} (hx : XAt μX 0 S) (hm : MAt μM 0 S) (a : Int32) : AgC 10 3 mX_told mM_told [a] μX μM := by
  refine agOf (told_ok wfX 0 hx a) (mTold_ok wfM 0 hm a) ?_
  repeat (first | exact Ag.rf | refine Ag.ite ?_ ?_)
