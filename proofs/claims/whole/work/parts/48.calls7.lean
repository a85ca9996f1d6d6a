/-! digest: what is told, by number -/
def toldV (S : XS) (i : Nat) : Int32 := if i = 0 then S.2.2.1 else if i = 1 then S.2.2.2.1 else if i = 2 then S.2.2.2.2 else if i = 3 then nI S.1.1.length else if i = 4 then nI S.1.2.1 else if i = 5 then nI (cvT S.1).length else if i = 6 then nI S.2.1.length else nI (1000 * S.1.2.2.getD 0 0 + 100 * S.1.2.2.getD 1 0 + 10 * S.1.2.2.getD 2 0 + S.1.2.2.getD 3 0)
theorem told_nat {lay : List Nat} (hwf : wfB lay = true) (d : Nat) {μ : Mem} {x : Nat} {S : XS} (h : XAt μ x S) {i : Nat} (hi : i < 8) : Rn lay (d + 10) mX_told [rf 15 x, vi (nI i)] μ (PX x (toldV S i) S) := by
  have t := told_ok hwf d h (nI i)
  simp (disch := omega) only [nx_eq] at t
  unfold toldV
  by_cases y0 : i = 0
  · rw [if_pos y0] at t ⊢; exact t
  rw [if_neg y0] at t ⊢
  by_cases y1 : i = 1
  · rw [if_pos y1] at t ⊢; exact t
  rw [if_neg y1] at t ⊢
  by_cases y2 : i = 2
  · rw [if_pos y2] at t ⊢; exact t
  rw [if_neg y2] at t ⊢
  by_cases y3 : i = 3
  · rw [if_pos y3] at t ⊢; exact t
  rw [if_neg y3] at t ⊢
  by_cases y4 : i = 4
  · rw [if_pos y4] at t ⊢; exact t
  rw [if_neg y4] at t ⊢
  by_cases y5 : i = 5
  · rw [if_pos y5] at t ⊢; exact t
  rw [if_neg y5] at t ⊢
  by_cases y6 : i = 6
  · rw [if_pos y6] at t ⊢; exact t
  rw [if_neg y6] at t ⊢
  rw [if_pos (by omega)] at t
  exact t
