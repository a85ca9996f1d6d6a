/-! digest: what is told, by number -/
def toldV (S : XS) (i : Nat) : Int32 := if i = 0 then S.2.2.1 else if i = 1 then S.2.2.2.1 else if i = 2 then S.2.2.2.2 else if i = 3 then nI S.1.1.length else if i = 4 then nI S.1.2.1 else if i = 5 then nI (cvT S.1).length else if i = 6 then nI S.2.1.length else nI (1000 * S.1.2.2.getD 0 0 + 100 * S.1.2.2.getD 1 0 + 10 * S.1.2.2.getD 2 0 + S.1.2.2.getD 3 0)
theorem told_nat {lay : List Nat} (hwf : wfB lay = true) (d : Nat) {μ : Mem} {x : Nat} {S : XS} (h : XAt μ x S) {i : Nat} (hi : i < 8) : Rn lay (d + 10) mX_told [rf 15 x, vi (nI i)] μ (PX x (toldV S i) S) := by
  have t := told_ok hwf d h (nI i)
  simp (disch := omega) only [nx_eq] at t
  unfold toldV
  by_cases y0 : i = 0
  · rw [if_pos y0] at t ⊢; exact t
  rw [if_neg y0] at t ⊢
  by_cases y1 : i = 1
  · rw [if_pos y1] at t ⊢; exact t
  rw [if_neg y1] at t ⊢
  by_cases y2 : i = 2
  · rw [if_pos y2] at t ⊢; exact t
  rw [if_neg y2] at t ⊢
  by_cases y3 : i = 3
  · rw [if_pos y3] at t ⊢; exact t
  rw [if_neg y3] at t ⊢
  by_cases y4 : i = 4
  · rw [if_pos y4] at t ⊢; exact t
  rw [if_neg y4] at t ⊢
  by_cases y5 : i = 5
  · rw [if_pos y5] at t ⊢; exact t
  rw [if_neg y5] at t ⊢
  by_cases y6 : i = 6
  · rw [if_pos y6] at t ⊢; exact t
  rw [if_neg y6] at t ⊢
  rw [if_pos (by omega)] at t
  exact t
def dgA (S : XS) : Nat → Int64
  | 0 => lN 1951
  | i + 1 => lN 31 * dgA S i + (toldV S i).toInt64
def dgB (S : XS) : Nat → Int64
  | 0 => dgA S 8
  | i + 1 => lN 31 * (lN 31 * (lN 31 * dgB S i + (nI (kd S.1.1 i)).toInt64) + (nI (ra S.1.1 i)).toInt64) + (nI (rb S.1.1 i)).toInt64
def dgV (S : XS) : Int64 := lN 31 * (lN 31 * dgB S S.1.1.length + (nI (few (rkO S.1) (cvT S.1))).toInt64) + (nI (ndT S.1).length).toInt64
theorem digest_ok {lay : List Nat} (hwf : wfB lay = true) (d : Nat) {μ : Mem} {x : Nat} {S : XS} (h : XAt μ x S) : Rn lay (d + 11) mX_digest [rf 15 x, un, un, un] μ (fun r μ1 => r = some (vl (dgV S)) ∧ XAt μ1 x S) := by
  refine Rn_intro ok_X_digest hwf rfl (fun G hC => g_X_digest_0 hC ?_)
  have hn := h.2.2.2.2.2.1.1.1.1
  have l2 : ∀ k i (μ' : Mem), i + k = S.1.1.length → XAt μ' x S → G 33 [rf 15 x, vl (dgB S i), un, vi (nI i)] [] μ' := by
    intro k
    induction k with
    | zero =>
      intro i μ' hi hx
      refine g_X_digest_33 hC ?_
      rw [hx.1.1, nx_le (by omega) (by omega)]
      refine ⟨fun _ => ?_, fun z => absurd (by omega) z⟩
      refine g_X_digest_107 hC ?_
      have hi : i = S.1.1.length := by omega
      subst hi
      refine useQ (least_ok hwf d hx) (fun y μ1 hp => ?_)
      obtain ⟨e1, h1⟩ := hp
      subst e1
      refine useQ (nodes_ok hwf d h1) (fun y μ2 hp => ?_)
      obtain ⟨e2, h2⟩ := hp
      subst e2
      exact ⟨rfl, h2⟩
    | succ k ih =>
      intro i μ' hi hx
      refine g_X_digest_33 hC ?_
      rw [hx.1.1, nx_le (by omega) (by omega), nx_le (by omega) (by omega), nx_in' (by omega) (by omega), nx_cl (by omega), nI_add]
      obtain ⟨e1, e2, e3⟩ := hx.1.2.2.1 i (by omega)
      rw [e1, e2, e3]
      exact ⟨fun z => absurd z (by omega), fun _ => ⟨fun z => absurd z (by omega), fun _ => ⟨by omega, by omega, by omega, ih (i + 1) μ' (by omega) hx⟩⟩⟩
  have l1 : ∀ k i (μ' : Mem), i + k = 8 → XAt μ' x S → G 6 [rf 15 x, vl (dgA S i), un, vi (nI i)] [] μ' := by
    intro k
    induction k with
    | zero =>
      intro i μ' hi hx
      refine g_X_digest_6 hC ?_
      have hi : i = 8 := by omega
      subst hi
      rw [nx_lt (by omega) (by omega)]
      exact ⟨fun _ => l2 S.1.1.length 0 μ' (by omega) hx, fun z => absurd (by omega) z⟩
    | succ k ih =>
      intro i μ' hi hx
      refine g_X_digest_6 hC ?_
      rw [nx_lt (by omega) (by omega), nI_add]
      refine ⟨fun z => absurd z (by omega), fun _ => useQ (told_nat hwf d hx (by omega)) (fun y μ1 hp => ?_)⟩
      obtain ⟨e1, h1⟩ := hp
      subst e1
      exact ih (i + 1) μ1 (by omega) h1
  exact l1 8 0 μ (by omega) h
