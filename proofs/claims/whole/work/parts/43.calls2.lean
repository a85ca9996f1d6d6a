/-! the calls that add, move, and change kinds and ranks -/
theorem nat_of {v : Int32} (h : 0 ≤ v.toInt) : ∃ j : Nat, j < 2147483648 ∧ v = nI j ∧ v.toInt = j := by
  have : ¬ v < 0 := by
    rw [i_lt, i_0]
    omega
  rw [nx_ge0] at this
  obtain ⟨j, j1, j2⟩ := this
  exact ⟨j, j1, j2, by rw [j2, nI_ti j1]⟩
abbrev tN (v : Int32) : Nat := v.toInt.toNat
theorem range_ok {lay : List Nat} (hwf : wfB lay = true) (d : Nat) {μ : Mem} {x : Nat} {S : XS} (h : XAt μ x S) (k a b : Int32) : Rn lay (d + 3) mX_range [rf 15 x, vi k, vi a, vi b] μ (if (0 ≤ k.toInt ∧ k.toInt < 4) ∧ 0 ≤ a.toInt ∧ a.toInt ≤ b.toInt ∧ b.toInt ≤ S.1.2.1 then (if S.1.1.length < 8 ∧ ¬ crowd (S.1.1 ++ [(tN k, tN a, tN b)]) = true then PX x (nI S.1.1.length) (xSet S (S.1.1 ++ [(tN k, tN a, tN b)], S.1.2)) else PX x (mI 3) (xFull S)) else PX x (mI 1) (xBad S)) := by
  refine Rn_intro ok_X_range hwf rfl (fun G hC => g_X_range_0 hC ?_)
  have hw := h.2.2.2.2.2.1.1
  have hn := hw.1.1
  have hL := hw.2.1
  refine useV (isKind_ok hwf _ k μ) ?_
  rw [bI_eq0]
  refine ⟨fun q => ?_, fun q => ?_⟩
  · rw [if_neg (fun z => q z.1)]
    exact useBad hwf _ h
  · have q := Classical.not_not.mp q
    refine useV (holds_ok hwf _ h.1 hw a b) ?_
    rw [bI_eq0]
    refine ⟨fun r => ?_, fun r => ?_⟩
    · have r := Classical.not_not.mp r
      rw [if_pos ⟨q, r⟩]
      obtain ⟨k', k1, k2, k3⟩ := nat_of q.1
      obtain ⟨a', a1, a2, a3⟩ := nat_of r.1
      obtain ⟨b', b1, b2, b3⟩ := nat_of (Int.le_trans r.1 r.2.1)
      rw [k3] at q
      rw [a3, b3] at r
      have ek : tN k = k' := by unfold tN; rw [k3]; rfl
      have ea : tN a = a' := by unfold tN; rw [a3]; rfl
      have eb : tN b = b' := by unfold tN; rw [b3]; rfl
      rw [ek, ea, eb, k2, a2, b2]
      refine useN (copy_ok hwf _ (t := x + 6) h.1 hw (by omega)) (fun μ1 hp => ?_)
      obtain ⟨p1, p2⟩ := hp
      have h1 := h.trial p2
      by_cases h8 : S.1.1.length < 8
      · refine useQ (append_ok hwf _ (k := k') (a := a') (b := b') p1 h8) (fun v μ2 hp => ?_)
        obtain ⟨e, p3, p4⟩ := hp
        subst e
        have h2 := h1.trial p4
        have hw2 : WT (S.1.1 ++ [(k', a', b')], S.1.2) := by
          obtain ⟨⟨w1, w2⟩, w3⟩ := hw
          refine ⟨⟨by simp; omega, fun r' hr => ?_⟩, w3⟩
          rcases List.mem_append.mp hr with z | z
          · exact w2 r' z
          · rw [List.mem_singleton.mp z]
            exact ⟨by show k' < 4; omega, by show a' ≤ b'; omega, by show b' ≤ S.1.2.1; omega⟩
        refine ⟨fun z => absurd z (by rw [nx_0, nx_eq (by omega) (by omega)]; omega), fun _ => ?_⟩
        refine useV (isCrowded_ok hwf _ p3 hw2) ?_
        rw [bI_eq0]
        refine ⟨fun c => ?_, fun c => ?_⟩
        · rw [if_pos ⟨h8, c⟩]
          refine useSettle hwf d h2 p3 hw2 (nc_of (by simpa using c) (by simp; omega)) (fun μ3 q3 => ⟨_, rfl, ?_, q3⟩)
          rw [q3.1.1]
          show nI (S.1.1 ++ [(k', a', b')]).length - nI 1 = _
          rw [List.length_append, List.length_singleton, nx_sub (by omega), Nat.add_sub_cancel]
        · rw [if_neg (fun z => c z.2)]
          exact useFull hwf _ h2
      · rw [if_neg (fun z => h8 z.1)]
        refine useV (append_no hwf _ p1 _ _ _ (by omega)) ⟨fun _ => useFull hwf _ h1, fun z => absurd nx_0.symm z⟩
    · rw [if_neg (fun z => r z.2)]
      exact useBad hwf _ h
theorem wt_set {T : TS} (hw : WT T) (j : Nat) {k a b : Nat} (hk : k < 4) (hab : a ≤ b) (hb : b ≤ T.2.1) : WT (T.1.set j (k, a, b), T.2) := by
  obtain ⟨⟨w1, w2⟩, w3⟩ := hw
  refine ⟨⟨by rw [List.length_set]; exact w1, fun r hr => ?_⟩, w3⟩
  rcases List.mem_or_eq_of_mem_set hr with z | z
  · exact w2 r z
  · rw [z]
    exact ⟨hk, hab, hb⟩
theorem el_wt {T : TS} (hw : WT T) {j : Nat} (hj : j < T.1.length) : kd T.1 j < 4 ∧ ra T.1 j ≤ rb T.1 j ∧ rb T.1 j ≤ T.2.1 := by
  have := hw.1.2 (T.1.getD j (0, 0, 0)) (by rw [List.getD_eq_getElem?_getD, List.getElem?_eq_getElem hj]; exact List.getElem_mem hj)
  exact this
theorem moves_ok {lay : List Nat} (hwf : wfB lay = true) (d : Nat) {μ : Mem} {x : Nat} {S : XS} (h : XAt μ x S) (r a b : Int32) : Rn lay (d + 3) mX_moves [rf 15 x, vi r, vi a, vi b, un] μ (if (0 ≤ r.toInt ∧ r.toInt < S.1.1.length) ∧ 0 ≤ a.toInt ∧ a.toInt ≤ b.toInt ∧ b.toInt ≤ S.1.2.1 then (if ¬ crowd (S.1.1.set (tN r) (kd S.1.1 (tN r), tN a, tN b)) = true then PX x ((b - a) - (nI (rb S.1.1 (tN r)) - nI (ra S.1.1 (tN r)))) (xSet S (S.1.1.set (tN r) (kd S.1.1 (tN r), tN a, tN b), S.1.2)) else PX x (mI 3) (xFull S)) else PX x (mI 1) (xBad S)) := by
  refine Rn_intro ok_X_moves hwf rfl (fun G hC => g_X_moves_0 hC ?_)
  have hw := h.2.2.2.2.2.1.1
  have hn := hw.1.1
  have hL := hw.2.1
  refine useV (has_ok hwf _ h.1 hw r) ?_
  rw [bI_eq0]
  refine ⟨fun q => ?_, fun q => ?_⟩
  · rw [if_neg (fun z => q z.1)]
    exact useBad hwf _ h
  · have q := Classical.not_not.mp q
    refine useV (holds_ok hwf _ h.1 hw a b) ?_
    rw [bI_eq0]
    refine ⟨fun s => ?_, fun s => ?_⟩
    · have s := Classical.not_not.mp s
      rw [if_pos ⟨q, s⟩]
      obtain ⟨j, j1, j2, j3⟩ := ix_of q (by omega)
      obtain ⟨a', a1, a2, a3⟩ := nat_of s.1
      obtain ⟨b', b1, b2, b3⟩ := nat_of (Int.le_trans s.1 s.2.1)
      rw [a3, b3] at s
      have ea : tN a = a' := by unfold tN; rw [a3]; rfl
      have eb : tN b = b' := by unfold tN; rw [b3]; rfl
      have ej : tN r = j := j3
      rw [ej, ea, eb, j2, a2, b2]
      refine useN (copy_ok hwf _ (t := x + 6) h.1 hw (by omega)) (fun μ1 hp => ?_)
      obtain ⟨p1, p2⟩ := hp
      have h1 := h.trial p2
      refine useN (lay_ok hwf _ (a := a') (b := b') p1 hw j1) (fun μ2 hp => ?_)
      obtain ⟨p3, p4⟩ := hp
      have h2 := h1.trial p4
      have hw2 : WT (S.1.1.set j (kd S.1.1 j, a', b'), S.1.2) := wt_set hw j (el_wt hw j1).1 (by omega) (by omega)
      refine useV (isCrowded_ok hwf _ p3 hw2) ?_
      rw [bI_eq0]
      refine ⟨fun c => ?_, fun c => ?_⟩
      · rw [if_pos c]
        rw [nx_in' (by omega) (by omega), nx_cl (by omega)]
        refine ⟨by omega, by omega, useSettle hwf d h2 p3 hw2 (nc_of (by simpa using c) (by simp; omega)) (fun μ3 q3 => ⟨_, rfl, ?_, q3⟩)⟩
        obtain ⟨_, e1, e2⟩ := h2.1.2.2.1 j j1
        rw [e1, e2]
      · rw [if_neg c]
        exact useFull hwf _ h2
    · rw [if_neg (fun z => s z.2)]
      exact useBad hwf _ h
