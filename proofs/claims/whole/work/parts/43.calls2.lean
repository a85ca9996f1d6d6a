/-! the calls that add, move, and change kinds and ranks -/
theorem nat_of {v : Int32} (h : 0 ≤ v.toInt) : ∃ j : Nat, j < 2147483648 ∧ v = nI j ∧ v.toInt = j := by
  have : ¬ v < 0 := by
    rw [i_lt, i_0]
    omega
  rw [nx_ge0] at this
  obtain ⟨j, j1, j2⟩ := this
  exact ⟨j, j1, j2, by rw [j2, nI_ti j1]⟩
abbrev tN (v : Int32) : Nat := v.toInt.toNat
theorem range_ok {lay : List Nat} (hwf : wfB lay = true) (d : Nat) {μ : Mem} {x : Nat} {S : XS} (h : XAt μ x S) (k a b : Int32) : Rn lay (d + 3) mX_range [rf 15 x, vi k, vi a, vi b] μ (if (0 ≤ k.toInt ∧ k.toInt < 4) ∧ 0 ≤ a.toInt ∧ a.toInt ≤ b.toInt ∧ b.toInt ≤ S.1.2.1 then (if S.1.1.length < 8 ∧ ¬ crowd (S.1.1 ++ [(tN k, tN a, tN b)]) = true then PX x (nI S.1.1.length) (xSet S (S.1.1 ++ [(tN k, tN a, tN b)], S.1.2)) else PX x (mI 3) (xFull S)) else PX x (mI 1) (xBad S)) := by
  refine Rn_intro ok_X_range hwf rfl (fun G hC => g_X_range_0 hC ?_)
  have hw := h.2.2.2.2.2.1.1
  have hn := hw.1.1
  have hL := hw.2.1
  refine useV (isKind_ok hwf _ k μ) ?_
  rw [bI_eq0]
  refine ⟨fun q => ?_, fun q => ?_⟩
  · rw [if_neg (fun z => q z.1)]
    exact useBad hwf _ h
  · have q := Classical.not_not.mp q
    refine useV (holds_ok hwf _ h.1 hw a b) ?_
    rw [bI_eq0]
    refine ⟨fun r => ?_, fun r => ?_⟩
    · have r := Classical.not_not.mp r
      rw [if_pos ⟨q, r⟩]
      obtain ⟨k', k1, k2, k3⟩ := nat_of q.1
      obtain ⟨a', a1, a2, a3⟩ := nat_of r.1
      obtain ⟨b', b1, b2, b3⟩ := nat_of (Int.le_trans r.1 r.2.1)
      rw [k3] at q
      rw [a3, b3] at r
      have ek : tN k = k' := by unfold tN; rw [k3]; rfl
      have ea : tN a = a' := by unfold tN; rw [a3]; rfl
      have eb : tN b = b' := by unfold tN; rw [b3]; rfl
      rw [ek, ea, eb, k2, a2, b2]
      refine useN (copy_ok hwf _ (t := x + 6) h.1 hw (by omega)) (fun μ1 hp => ?_)
      obtain ⟨p1, p2⟩ := hp
      have h1 := h.trial p2
      by_cases h8 : S.1.1.length < 8
      · refine useQ (append_ok hwf _ (k := k') (a := a') (b := b') p1 h8) (fun v μ2 hp => ?_)
        obtain ⟨e, p3, p4⟩ := hp
        subst e
        have h2 := h1.trial p4
        have hw2 : WT (S.1.1 ++ [(k', a', b')], S.1.2) := by
          obtain ⟨⟨w1, w2⟩, w3⟩ := hw
          refine ⟨⟨by simp; omega, fun r' hr => ?_⟩, w3⟩
          rcases List.mem_append.mp hr with z | z
          · exact w2 r' z
          · rw [List.mem_singleton.mp z]
            exact ⟨by show k' < 4; omega, by show a' ≤ b'; omega, by show b' ≤ S.1.2.1; omega⟩
        refine ⟨fun z => absurd z (by rw [nx_0, nx_eq (by omega) (by omega)]; omega), fun _ => ?_⟩
        refine useV (isCrowded_ok hwf _ p3 hw2) ?_
        rw [bI_eq0]
        refine ⟨fun c => ?_, fun c => ?_⟩
        · rw [if_pos ⟨h8, c⟩]
          refine useSettle hwf d h2 p3 hw2 (nc_of (by simpa using c) (by simp; omega)) (fun μ3 q3 => ⟨_, rfl, ?_, q3⟩)
          rw [q3.1.1]
          show nI (S.1.1 ++ [(k', a', b')]).length - nI 1 = _
          rw [List.length_append, List.length_singleton, nx_sub (by omega), Nat.add_sub_cancel]
        · rw [if_neg (fun z => c z.2)]
          exact useFull hwf _ h2
      · rw [if_neg (fun z => h8 z.1)]
        refine useV (append_no hwf _ p1 _ _ _ (by omega)) ⟨fun _ => useFull hwf _ h1, fun z => absurd nx_0.symm z⟩
    · rw [if_neg (fun z => r z.2)]
      exact useBad hwf _ h
theorem wt_set {T : TS} (hw : WT T) (j : Nat) {k a b : Nat} (hk : k < 4) (hab : a ≤ b) (hb : b ≤ T.2.1) : WT (T.1.set j (k, a, b), T.2) := by
  obtain ⟨⟨w1, w2⟩, w3⟩ := hw
  refine ⟨⟨by rw [List.length_set]; exact w1, fun r hr => ?_⟩, w3⟩
  rcases List.mem_or_eq_of_mem_set hr with z | z
  · exact w2 r z
  · rw [z]
    exact ⟨hk, hab, hb⟩
theorem el_wt {T : TS} (hw : WT T) {j : Nat} (hj : j < T.1.length) : kd T.1 j < 4 ∧ ra T.1 j ≤ rb T.1 j ∧ rb T.1 j ≤ T.2.1 := by
  have := hw.1.2 (T.1.getD j (0, 0, 0)) (by rw [List.getD_eq_getElem?_getD, List.getElem?_eq_getElem hj]; exact List.getElem_mem hj)
  exact this
theorem moves_ok {lay : List Nat} (hwf : wfB lay = true) (d : Nat) {μ : Mem} {x : Nat} {S : XS} (h : XAt μ x S) (r a b : Int32) : Rn lay (d + 3) mX_moves [rf 15 x, vi r, vi a, vi b, un] μ (if (0 ≤ r.toInt ∧ r.toInt < S.1.1.length) ∧ 0 ≤ a.toInt ∧ a.toInt ≤ b.toInt ∧ b.toInt ≤ S.1.2.1 then (if ¬ crowd (S.1.1.set (tN r) (kd S.1.1 (tN r), tN a, tN b)) = true then PX x ((b - a) - (nI (rb S.1.1 (tN r)) - nI (ra S.1.1 (tN r)))) (xSet S (S.1.1.set (tN r) (kd S.1.1 (tN r), tN a, tN b), S.1.2)) else PX x (mI 3) (xFull S)) else PX x (mI 1) (xBad S)) := by
  refine Rn_intro ok_X_moves hwf rfl (fun G hC => g_X_moves_0 hC ?_)
  have hw := h.2.2.2.2.2.1.1
  have hn := hw.1.1
  have hL := hw.2.1
  refine useV (has_ok hwf _ h.1 hw r) ?_
  rw [bI_eq0]
  refine ⟨fun q => ?_, fun q => ?_⟩
  · rw [if_neg (fun z => q z.1)]
    exact useBad hwf _ h
  · have q := Classical.not_not.mp q
    refine useV (holds_ok hwf _ h.1 hw a b) ?_
    rw [bI_eq0]
    refine ⟨fun s => ?_, fun s => ?_⟩
    · have s := Classical.not_not.mp s
      rw [if_pos ⟨q, s⟩]
      obtain ⟨j, j1, j2, j3⟩ := ix_of q (by omega)
      obtain ⟨a', a1, a2, a3⟩ := nat_of s.1
      obtain ⟨b', b1, b2, b3⟩ := nat_of (Int.le_trans s.1 s.2.1)
      rw [a3, b3] at s
      have ea : tN a = a' := by unfold tN; rw [a3]; rfl
      have eb : tN b = b' := by unfold tN; rw [b3]; rfl
      have ej : tN r = j := j3
      rw [ej, ea, eb, j2, a2, b2]
      refine useN (copy_ok hwf _ (t := x + 6) h.1 hw (by omega)) (fun μ1 hp => ?_)
      obtain ⟨p1, p2⟩ := hp
      have h1 := h.trial p2
      refine useN (lay_ok hwf _ (a := a') (b := b') p1 hw j1) (fun μ2 hp => ?_)
      obtain ⟨p3, p4⟩ := hp
      have h2 := h1.trial p4
      have hw2 : WT (S.1.1.set j (kd S.1.1 j, a', b'), S.1.2) := wt_set hw j (el_wt hw j1).1 (by omega) (by omega)
      refine useV (isCrowded_ok hwf _ p3 hw2) ?_
      rw [bI_eq0]
      refine ⟨fun c => ?_, fun c => ?_⟩
      · rw [if_pos c]
        rw [nx_in' (by omega) (by omega), nx_cl (by omega)]
        refine ⟨by omega, by omega, useSettle hwf d h2 p3 hw2 (nc_of (by simpa using c) (by simp; omega)) (fun μ3 q3 => ⟨_, rfl, ?_, q3⟩)⟩
        obtain ⟨_, e1, e2⟩ := h2.1.2.2.1 j j1
        rw [e1, e2]
      · rw [if_neg c]
        exact useFull hwf _ h2
    · rw [if_neg (fun z => s z.2)]
      exact useBad hwf _ h
theorem cov_same {rs qs : List RG} (hl : rs.length = qs.length) (h : ∀ i, ra rs i = ra qs i ∧ rb rs i = rb qs i) (p : Nat) : cov rs p = cov qs p := by
  apply Nat.eq_of_testBit_eq
  intro j
  unfold cov
  rw [covU_bit, covU_bit, hl, (h j).1, (h j).2]
theorem setk_ab {rs : List RG} {j k : Nat} (hj : j < rs.length) (i : Nat) : ra (rs.set j (k, ra rs j, rb rs j)) i = ra rs i ∧ rb (rs.set j (k, ra rs j, rb rs j)) i = rb rs i := by
  show (el (rs.set j (k, ra rs j, rb rs j)) i).2.1 = (el rs i).2.1 ∧ (el (rs.set j (k, ra rs j, rb rs j)) i).2.2 = (el rs i).2.2
  rw [el_set hj]
  by_cases e : i = j
  · rw [if_pos e, e]
    exact ⟨rfl, rfl⟩
  · rw [if_neg e]
    exact ⟨rfl, rfl⟩
theorem te_setk {μ : Mem} {t : Nat} {T : TS} (hT : TeAt μ t T) {j k : Nat} (hj : j < T.1.length) : TeAt (upI μ (t + 1) j (nI k)) t (T.1.set j (k, ra T.1 j, rb T.1 j), T.2) := by
  obtain ⟨h1, h2, h3, h4⟩ := hT
  refine ⟨by rw [up_n1 (by omega), List.length_set]; exact h1, by rw [up_n1 (by omega)]; exact h2, fun i hi => ?_, fun k hk => by rw [up_n1 (by omega)]; exact h4 k hk⟩
  rw [List.length_set] at hi
  obtain ⟨a, b, c⟩ := h3 i hi
  rw [(setk_ab hj i).1, (setk_ab hj i).2, ← el_1, el_set hj]
  refine ⟨?_, by rw [up_n1 (by omega)]; exact b, by rw [up_n1 (by omega)]; exact c⟩
  by_cases e : i = j
  · rw [if_pos e, e, up_at]
  · rw [if_neg e, up_n2 e]
    exact a
theorem te_setr {μ : Mem} {t : Nat} {T : TS} (hT : TeAt μ t T) {j k : Nat} (hj : j < T.2.2.length) : TeAt (upI μ (t + 4) j (nI k)) t (T.1, T.2.1, T.2.2.set j k) := by
  obtain ⟨h1, h2, h3, h4⟩ := hT
  refine ⟨by rw [up_n1 (by omega)]; exact h1, by rw [up_n1 (by omega)]; exact h2, fun i hi => ?_, fun i hi => ?_⟩
  · rw [up_n1 (by omega), up_n1 (by omega), up_n1 (by omega)]
    exact h3 i hi
  · show _ = nI ((T.2.2.set j k).getD i 0)
    rw [List.getD_eq_getElem?_getD, List.getElem?_set]
    by_cases e : j = i
    · subst e
      rw [if_pos rfl, if_pos hj, up_at]
      rfl
    · rw [if_neg e, up_n2 (by omega), ← List.getD_eq_getElem?_getD]
      exact h4 i hi
theorem kind_ok {lay : List Nat} (hwf : wfB lay = true) (d : Nat) {μ : Mem} {x : Nat} {S : XS} (h : XAt μ x S) (r k : Int32) : Rn lay (d + 3) mX_kind [rf 15 x, vi r, vi k, un] μ (if (0 ≤ r.toInt ∧ r.toInt < S.1.1.length) ∧ 0 ≤ k.toInt ∧ k.toInt < 4 then PX x (nI (kd S.1.1 (tN r))) (xSet S (S.1.1.set (tN r) (tN k, ra S.1.1 (tN r), rb S.1.1 (tN r)), S.1.2)) else PX x (mI 1) (xBad S)) := by
  refine Rn_intro ok_X_kind hwf rfl (fun G hC => g_X_kind_0 hC ?_)
  have hw := h.2.2.2.2.2.1.1
  have hn := hw.1.1
  refine useV (has_ok hwf _ h.1 hw r) ?_
  rw [bI_eq0]
  refine ⟨fun q => ?_, fun q => ?_⟩
  · rw [if_neg (fun z => q z.1)]
    exact useBad hwf _ h
  · have q := Classical.not_not.mp q
    refine useV (isKind_ok hwf _ k μ) ?_
    rw [bI_eq0]
    refine ⟨fun s => ?_, fun s => ?_⟩
    · have s := Classical.not_not.mp s
      rw [if_pos ⟨q, s⟩]
      obtain ⟨j, j1, j2, j3⟩ := ix_of q (by omega)
      obtain ⟨k', k1, k2, k3⟩ := nat_of s.1
      rw [k3] at s
      have ek : tN k = k' := by unfold tN; rw [k3]; rfl
      have ej : tN r = j := j3
      rw [ej, ek, j2, k2]
      rw [nx_in' (by omega) (by omega), nx_cl (by omega)]
      refine ⟨by omega, useN (copy_ok hwf _ (t := x + 6) h.1 hw (by omega)) (fun μ1 hp => ?_)⟩
      obtain ⟨p1, p2⟩ := hp
      have e1 := te_setk (k := k') p1 j1
      have h2 : XAt (upI μ1 (x + 6 + 1) j (nI k')) x S := h.trial (p2.up (by simp))
      have el := el_wt hw j1
      refine ⟨by omega, useSettle hwf d h2 e1 (wt_set hw j (by omega) el.2.1 el.2.2) (fun p => ?_) (fun μ3 q3 => ⟨_, rfl, (h.1.2.2.1 j j1).1, q3⟩)⟩
      show popN (cov (S.1.1.set j (k', ra S.1.1 j, rb S.1.1 j)) p) ≤ 5
      rw [cov_same (by rw [List.length_set]) (setk_ab j1) p]
      exact h.2.2.2.2.2.1.2.1 p
    · rw [if_neg (fun z => s z.2)]
      exact useBad hwf _ h
theorem rank_ok {lay : List Nat} (hwf : wfB lay = true) (d : Nat) {μ : Mem} {x : Nat} {S : XS} (h : XAt μ x S) (k r : Int32) : Rn lay (d + 3) mX_rank [rf 15 x, vi k, vi r, un] μ (if (0 ≤ k.toInt ∧ k.toInt < 4) ∧ 0 ≤ r.toInt ∧ r.toInt < 4 then PX x (nI (S.1.2.2.getD (tN k) 0)) (xSet S (S.1.1, S.1.2.1, S.1.2.2.set (tN k) (tN r))) else PX x (mI 1) (xBad S)) := by
  refine Rn_intro ok_X_rank hwf rfl (fun G hC => g_X_rank_0 hC ?_)
  have hw := h.2.2.2.2.2.1.1
  have hn := hw.1.1
  have h4 := hw.2.2.1
  have e4 : (nI 4).toInt = 4 := by decide
  refine useV (isKind_ok hwf _ k μ) ?_
  rw [bI_eq0]
  refine ⟨fun q => ?_, fun q => ⟨fun s => ?_, fun s => ⟨fun s2 => ?_, fun s2 => ?_⟩⟩⟩
  · rw [if_neg (fun z => q z.1)]
    exact useBad hwf _ h
  · rw [i_lt, i_0] at s
    rw [if_neg (by omega)]
    exact useBad hwf _ h
  · have q := Classical.not_not.mp q
    rw [i_lt, i_0] at s
    rw [i_lt, e4] at s2
    rw [if_pos (by omega)]
    obtain ⟨k', k1, k2, k3⟩ := nat_of q.1
    obtain ⟨r', r1, r2, r3⟩ := nat_of (v := r) (by omega)
    rw [k3] at q
    rw [r3] at s2
    have ek : tN k = k' := by unfold tN; rw [k3]; rfl
    have er : tN r = r' := by unfold tN; rw [r3]; rfl
    rw [ek, er, k2, r2]
    rw [nx_in' (by omega) (by omega), nx_cl (by omega)]
    refine ⟨by omega, useN (copy_ok hwf _ (t := x + 6) h.1 hw (by omega)) (fun μ1 hp => ?_)⟩
    obtain ⟨p1, p2⟩ := hp
    have e1 := te_setr (j := k') (k := r') p1 (by omega)
    have h2 : XAt (upI μ1 (x + 6 + 4) k' (nI r')) x S := h.trial (p2.up (by simp))
    refine ⟨by omega, useSettle hwf d h2 e1 ⟨hw.1, hw.2.1, by show (S.1.2.2.set k' r').length = 4; rw [List.length_set]; exact h4, fun y hy => ?_⟩ h.2.2.2.2.2.1.2.1 (fun μ3 q3 => ⟨_, rfl, h.1.2.2.2 k' (by omega), q3⟩)⟩
    rcases List.mem_or_eq_of_mem_set hy with z | z
    · exact hw.2.2.2 y z
    · omega
  · rw [i_lt, e4] at s2
    rw [if_neg (by omega)]
    exact useBad hwf _ h
