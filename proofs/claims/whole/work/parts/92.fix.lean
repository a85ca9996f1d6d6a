/-! the same contracts with the exact argument lists -/
theorem moves_ok2 {lay : List Nat} (hwf : wfB lay = true) (d : Nat) {μ : Mem} {x : Nat} {S : XS} (h : XAt μ x S) (r a b : Int32) : Rn lay (d + 3) mX_moves [rf 15 x, vi r, vi a, vi b] μ (if (0 ≤ r.toInt ∧ r.toInt < S.1.1.length) ∧ 0 ≤ a.toInt ∧ a.toInt ≤ b.toInt ∧ b.toInt ≤ S.1.2.1 then (if ¬ crowd (S.1.1.set (tN r) (kd S.1.1 (tN r), tN a, tN b)) = true then PX x ((b - a) - (nI (rb S.1.1 (tN r)) - nI (ra S.1.1 (tN r)))) (xSet S (S.1.1.set (tN r) (kd S.1.1 (tN r), tN a, tN b), S.1.2)) else PX x (mI 3) (xFull S)) else PX x (mI 1) (xBad S)) := by
  refine Rn_intro ok_X_moves hwf rfl (fun G hC => g_X_moves_0 hC ?_)
  have hw := h.2.2.2.2.2.1.1
  have hn := hw.1.1
  have hL := hw.2.1
  refine useV (has_ok hwf _ h.1 hw r) ?_
  rw [bI_eq0]
  refine ⟨fun q => ?_, fun q => ?_⟩
  · rw [if_neg (fun z => q z.1)]
    exact useBad hwf _ h
  · have q := Classical.not_not.mp q
    refine useV (holds_ok hwf _ h.1 hw a b) ?_
    rw [bI_eq0]
    refine ⟨fun s => ?_, fun s => ?_⟩
    · have s := Classical.not_not.mp s
      rw [if_pos ⟨q, s⟩]
      obtain ⟨j, j1, j2, j3⟩ := ix_of q (by omega)
      obtain ⟨a', a1, a2, a3⟩ := nat_of s.1
      obtain ⟨b', b1, b2, b3⟩ := nat_of (Int.le_trans s.1 s.2.1)
      rw [a3, b3] at s
      have ea : tN a = a' := by unfold tN; rw [a3]; rfl
      have eb : tN b = b' := by unfold tN; rw [b3]; rfl
      have ej : tN r = j := j3
      rw [ej, ea, eb, j2, a2, b2]
      refine useN (copy_ok hwf _ (t := x + 6) h.1 hw (by omega)) (fun μ1 hp => ?_)
      obtain ⟨p1, p2⟩ := hp
      have h1 := h.trial p2
      refine useN (lay_ok hwf _ (a := a') (b := b') p1 hw j1) (fun μ2 hp => ?_)
      obtain ⟨p3, p4⟩ := hp
      have h2 := h1.trial p4
      have hw2 : WT (S.1.1.set j (kd S.1.1 j, a', b'), S.1.2) := wt_set hw j (el_wt hw j1).1 (by omega) (by omega)
      refine useV (isCrowded_ok hwf _ p3 hw2) ?_
      rw [bI_eq0]
      refine ⟨fun c => ?_, fun c => ?_⟩
      · rw [if_pos c]
        rw [nx_in' (by omega) (by omega), nx_cl (by omega)]
        refine ⟨by omega, by omega, useSettle hwf d h2 p3 hw2 (nc_of (by simpa using c) (by simp; omega)) (fun μ3 q3 => ⟨_, rfl, ?_, q3⟩)⟩
        obtain ⟨_, e1, e2⟩ := h2.1.2.2.1 j j1
        rw [e1, e2]
      · rw [if_neg c]
        exact useFull hwf _ h2
    · rw [if_neg (fun z => s z.2)]
      exact useBad hwf _ h
theorem kind_ok2 {lay : List Nat} (hwf : wfB lay = true) (d : Nat) {μ : Mem} {x : Nat} {S : XS} (h : XAt μ x S) (r k : Int32) : Rn lay (d + 3) mX_kind [rf 15 x, vi r, vi k] μ (if (0 ≤ r.toInt ∧ r.toInt < S.1.1.length) ∧ 0 ≤ k.toInt ∧ k.toInt < 4 then PX x (nI (kd S.1.1 (tN r))) (xSet S (S.1.1.set (tN r) (tN k, ra S.1.1 (tN r), rb S.1.1 (tN r)), S.1.2)) else PX x (mI 1) (xBad S)) := by
  refine Rn_intro ok_X_kind hwf rfl (fun G hC => g_X_kind_0 hC ?_)
  have hw := h.2.2.2.2.2.1.1
  have hn := hw.1.1
  refine useV (has_ok hwf _ h.1 hw r) ?_
  rw [bI_eq0]
  refine ⟨fun q => ?_, fun q => ?_⟩
  · rw [if_neg (fun z => q z.1)]
    exact useBad hwf _ h
  · have q := Classical.not_not.mp q
    refine useV (isKind_ok hwf _ k μ) ?_
    rw [bI_eq0]
    refine ⟨fun s => ?_, fun s => ?_⟩
    · have s := Classical.not_not.mp s
      rw [if_pos ⟨q, s⟩]
      obtain ⟨j, j1, j2, j3⟩ := ix_of q (by omega)
      obtain ⟨k', k1, k2, k3⟩ := nat_of s.1
      rw [k3] at s
      have ek : tN k = k' := by unfold tN; rw [k3]; rfl
      have ej : tN r = j := j3
      rw [ej, ek, j2, k2]
      rw [nx_in' (by omega) (by omega), nx_cl (by omega)]
      refine ⟨by omega, useN (copy_ok hwf _ (t := x + 6) h.1 hw (by omega)) (fun μ1 hp => ?_)⟩
      obtain ⟨p1, p2⟩ := hp
      have e1 := te_setk (k := k') p1 j1
      have h2 : XAt (upI μ1 (x + 6 + 1) j (nI k')) x S := h.trial (p2.up (by simp))
      have el := el_wt hw j1
      refine ⟨by omega, useSettle hwf d h2 e1 (wt_set hw j (by omega) el.2.1 el.2.2) (fun p => ?_) (fun μ3 q3 => ⟨_, rfl, (h.1.2.2.1 j j1).1, q3⟩)⟩
      show popN (cov (S.1.1.set j (k', ra S.1.1 j, rb S.1.1 j)) p) ≤ 5
      rw [cov_same (by rw [List.length_set]) (setk_ab j1) p]
      exact h.2.2.2.2.2.1.2.1 p
    · rw [if_neg (fun z => s z.2)]
      exact useBad hwf _ h
theorem rank_ok2 {lay : List Nat} (hwf : wfB lay = true) (d : Nat) {μ : Mem} {x : Nat} {S : XS} (h : XAt μ x S) (k r : Int32) : Rn lay (d + 3) mX_rank [rf 15 x, vi k, vi r] μ (if (0 ≤ k.toInt ∧ k.toInt < 4) ∧ 0 ≤ r.toInt ∧ r.toInt < 4 then PX x (nI (S.1.2.2.getD (tN k) 0)) (xSet S (S.1.1, S.1.2.1, S.1.2.2.set (tN k) (tN r))) else PX x (mI 1) (xBad S)) := by
  refine Rn_intro ok_X_rank hwf rfl (fun G hC => g_X_rank_0 hC ?_)
  have hw := h.2.2.2.2.2.1.1
  have hn := hw.1.1
  have h4 := hw.2.2.1
  have e4 : (nI 4).toInt = 4 := by decide
  refine useV (isKind_ok hwf _ k μ) ?_
  rw [bI_eq0]
  refine ⟨fun q => ?_, fun q => ⟨fun s => ?_, fun s => ⟨fun s2 => ?_, fun s2 => ?_⟩⟩⟩
  · rw [if_neg (fun z => q z.1)]
    exact useBad hwf _ h
  · rw [i_lt, i_0] at s
    rw [if_neg (by omega)]
    exact useBad hwf _ h
  · have q := Classical.not_not.mp q
    rw [i_lt, i_0] at s
    rw [i_lt, e4] at s2
    rw [if_pos (by omega)]
    obtain ⟨k', k1, k2, k3⟩ := nat_of q.1
    obtain ⟨r', r1, r2, r3⟩ := nat_of (v := r) (by omega)
    rw [k3] at q
    rw [r3] at s2
    have ek : tN k = k' := by unfold tN; rw [k3]; rfl
    have er : tN r = r' := by unfold tN; rw [r3]; rfl
    rw [ek, er, k2, r2]
    rw [nx_in' (by omega) (by omega), nx_cl (by omega)]
    refine ⟨by omega, useN (copy_ok hwf _ (t := x + 6) h.1 hw (by omega)) (fun μ1 hp => ?_)⟩
    obtain ⟨p1, p2⟩ := hp
    have e1 := te_setr (j := k') (k := r') p1 (by omega)
    have h2 : XAt (upI μ1 (x + 6 + 4) k' (nI r')) x S := h.trial (p2.up (by simp))
    refine ⟨by omega, useSettle hwf d h2 e1 ⟨hw.1, hw.2.1, by show (S.1.2.2.set k' r').length = 4; rw [List.length_set]; exact h4, fun y hy => ?_⟩ h.2.2.2.2.2.1.2.1 (fun μ3 q3 => ⟨_, rfl, h.1.2.2.2 k' (by omega), q3⟩)⟩
    rcases List.mem_or_eq_of_mem_set hy with z | z
    · exact hw.2.2.2 y z
    · omega
  · rw [i_lt, e4] at s2
    rw [if_neg (by omega)]
    exact useBad hwf _ h
theorem without_ok2 {lay : List Nat} (hwf : wfB lay = true) (d : Nat) {μ : Mem} {x : Nat} {S : XS} (h : XAt μ x S) (v : Int32) : Rn lay (d + 10) mX_without [rf 15 x, vi v] μ (if 0 ≤ v.toInt ∧ v.toInt ≤ 1 then PX x (if v = 0 then (wo S.1 S.1.1.length).1 else (wo S.1 S.1.1.length).2) S else PX x (mI 1) (xBad S)) := by
  refine Rn_intro ok_X_without hwf rfl (fun G hC => g_X_without_0 hC ?_)
  have e1 : (nI 1).toInt = 1 := by decide
  have hw := h.2.2.2.2.2.1.1
  have hn := hw.1.1
  refine ⟨fun q => ?_, fun q => ⟨fun q3 => ?_, fun q3 => ?_⟩⟩
  · rw [i_lt, i_0] at q
    rw [if_neg (by omega)]
    exact useBad hwf _ h
  · rw [i_lt, i_0] at q
    rw [i_le, e1] at q3
    rw [if_pos (by omega)] at hC
    have loop : ∀ k i (μ' : Mem), i + k = S.1.1.length → XAt μ' x S → G 21 [rf 15 x, vi v, vi (wo S.1 i).1, vi (wo S.1 i).2, vi (nI i), un] [] μ' := by
      intro k
      induction k with
      | zero =>
        intro i μ' hi hx
        refine g_X_without_21 hC ?_
        rw [hx.1.1, nx_le (by omega) (by omega)]
        refine ⟨fun _ => ?_, fun z => absurd (by omega) z⟩
        refine g_X_without_72 hC ?_
        have hi : i = S.1.1.length := by omega
        subst hi
        exact ⟨fun z => ⟨_, rfl, by rw [if_neg z], hx⟩, fun z => ⟨_, rfl, by rw [if_pos z], hx⟩⟩
      | succ k ih =>
        intro i μ' hi hx
        refine g_X_without_21 hC ?_
        rw [hx.1.1, nx_le (by omega) (by omega), nx_le (by omega) (by omega)]
        refine ⟨fun z => absurd z (by omega), fun _ => ⟨fun z => absurd z (by omega), fun _ => ?_⟩⟩
        have es : skI i = nI i := by unfold skI; rw [if_pos (by omega)]
        have hf := fewestWithout_ok hwf d hx.1 hw h.2.2.2.2.2.1.2.1 i false
        rw [es] at hf
        refine useQ hf (fun y μ1 hp => ?_)
        obtain ⟨p1, p2⟩ := hp
        subst p1
        have nxt := ih (i + 1) μ1 (by omega) (hx.side p2)
        rw [wo_s] at nxt
        rw [nI_add]
        refine ⟨fun z => ?_, fun z => ⟨fun z2 => ?_, fun z2 => ?_⟩⟩
        · rw [if_pos z] at nxt
          exact nxt
        · rw [if_neg z, if_pos z2] at nxt
          exact nxt
        · rw [if_neg z, if_neg z2] at nxt
          exact nxt
    exact loop S.1.1.length 0 μ (by omega) h
  · rw [i_le, e1] at q3
    rw [if_neg (by omega)]
    exact useBad hwf _ h
theorem digest_ok2 {lay : List Nat} (hwf : wfB lay = true) (d : Nat) {μ : Mem} {x : Nat} {S : XS} (h : XAt μ x S) : Rn lay (d + 11) mX_digest [rf 15 x] μ (fun r μ1 => r = some (vl (dgV S)) ∧ XAt μ1 x S) := by
  refine Rn_intro ok_X_digest hwf rfl (fun G hC => g_X_digest_0 hC ?_)
  have hn := h.2.2.2.2.2.1.1.1.1
  have l2 : ∀ k i (μ' : Mem), i + k = S.1.1.length → XAt μ' x S → G 33 [rf 15 x, vl (dgB S i), un, vi (nI i)] [] μ' := by
    intro k
    induction k with
    | zero =>
      intro i μ' hi hx
      refine g_X_digest_33 hC ?_
      rw [hx.1.1, nx_le (by omega) (by omega)]
      refine ⟨fun _ => ?_, fun z => absurd (by omega) z⟩
      refine g_X_digest_107 hC ?_
      have hi : i = S.1.1.length := by omega
      subst hi
      refine useQ (least_ok hwf d hx) (fun y μ1 hp => ?_)
      obtain ⟨e1, h1⟩ := hp
      subst e1
      refine useQ (nodes_ok hwf d h1) (fun y μ2 hp => ?_)
      obtain ⟨e2, h2⟩ := hp
      subst e2
      exact ⟨rfl, h2⟩
    | succ k ih =>
      intro i μ' hi hx
      refine g_X_digest_33 hC ?_
      rw [hx.1.1, nx_le (by omega) (by omega), nx_le (by omega) (by omega), nx_in' (by omega) (by omega), nx_cl (by omega), nI_add]
      obtain ⟨e1, e2, e3⟩ := hx.1.2.2.1 i (by omega)
      rw [e1, e2, e3]
      exact ⟨fun z => absurd z (by omega), fun _ => ⟨fun z => absurd z (by omega), fun _ => ⟨by omega, by omega, by omega, ih (i + 1) μ' (by omega) hx⟩⟩⟩
  have l1 : ∀ k i (μ' : Mem), i + k = 8 → XAt μ' x S → G 6 [rf 15 x, vl (dgA S i), un, vi (nI i)] [] μ' := by
    intro k
    induction k with
    | zero =>
      intro i μ' hi hx
      refine g_X_digest_6 hC ?_
      have hi : i = 8 := by omega
      subst hi
      rw [nx_lt (by omega) (by omega)]
      exact ⟨fun _ => l2 S.1.1.length 0 μ' (by omega) hx, fun z => absurd (by omega) z⟩
    | succ k ih =>
      intro i μ' hi hx
      refine g_X_digest_6 hC ?_
      rw [nx_lt (by omega) (by omega), nI_add]
      refine ⟨fun z => absurd z (by omega), fun _ => useQ (told_nat hwf d hx (by omega)) (fun y μ1 hp => ?_)⟩
      obtain ⟨e1, h1⟩ := hp
      subst e1
      exact ih (i + 1) μ1 (by omega) h1
  exact l1 8 0 μ (by omega) h
