/-! the reference: edits -/
/-- noted, and not yet changed -/
def MMid (μ : Mem) (m : Nat) (S : XS) : Prop := MHi μ m ((S.1 :: S.2.1).take 12) ∧ μ.1 (m + 1) 0 = S.2.2.1 ∧ μ.1 (m + 1) 1 = S.2.2.2.1 ∧ μ.1 (m + 1) 2 = S.2.2.2.2 ∧ okX S
theorem MMid.fr {μ μ1 : Mem} {m : Nat} {S : XS} {C F : List Nat} (h : MMid μ m S) (hf : FM m C F μ μ1) (h1 : m + 1 ∉ C ∧ m + 6 ∉ C) (h2 : 8 ∉ F) : MMid μ1 m S := by
  obtain ⟨a, b, c, e, f⟩ := h
  have e1 := hf.1 (m + 1) (by omega) h1.1
  exact ⟨a.fr hf h1.2 h2, by rw [e1]; exact b, by rw [e1]; exact c, by rw [e1]; exact e, f⟩
theorem MMid.fin {μ : Mem} {m : Nat} {S : XS} {U : TS} (h : MMid μ m S) (hT : MTe μ m U) (hw : WT U) (hc : NC U.1) : MAt μ m (xSet S U) := by
  obtain ⟨a, b, c, e, f⟩ := h
  refine ⟨hT, a, b, c, e, hw, hc, fun T hT => ?_⟩
  have := List.mem_of_mem_take hT
  rcases List.mem_cons.mp this with q | q
  · rw [q]; exact f.2.1
  · exact f.2.2 T q
theorem useNotes {lay : List Nat} (hwf : wfB lay = true) (d : Nat) {μ : Mem} {m : Nat} {S : XS} (h : MAt μ m S) {K : Mem → Prop} (k : ∀ μ1, MTe μ1 m S.1 → MMid μ1 m S → FM m [m + 6] [8] μ μ1 → K μ1) : ∃ P : PT, Rn lay d mM_notes [rf 16 m] μ P ∧ ∀ μ1 : Mem, P none μ1 → K μ1 := by
  obtain ⟨a, b, c, e, f, g⟩ := h
  refine useN (mNotes_ok hwf d a g.1 b) (fun μ1 hp => ?_)
  obtain ⟨p1, p2⟩ := hp
  have e1 := p2.1 (m + 1) (by omega) (by simp)
  exact k μ1 (a.fr p2 (by simp) (by simp)) ⟨p1, by rw [e1]; exact c, by rw [e1]; exact e, by rw [e1]; exact f, g⟩ p2
/-- a state whose text has changed for a while and is as it was again -/
theorem MAt.back {μ μ1 : Mem} {m : Nat} {S : XS} (h : MAt μ m S) (hT : MTe μ1 m S.1) (hf : FM m [m + 2, m + 3, m + 4] [2] μ μ1) : MAt μ1 m S := by
  obtain ⟨a, b, c, e, f, g⟩ := h
  have e1 := hf.1 (m + 1) (by omega) (by simp)
  exact ⟨hT, b.fr hf (by simp) (by simp), by rw [e1]; exact c, by rw [e1]; exact e, by rw [e1]; exact f, g⟩
theorem mAnew_ok {lay : List Nat} (hwf : wfB lay = true) (d : Nat) {μ : Mem} {m : Nat} {S : XS} (h : MAt μ m S) (v : Int32) : Rn lay (d + 1) mM_anew [rf 16 m, vi v] μ (if 0 ≤ v.toInt ∧ v.toInt ≤ 90 then PM m (nI S.1.1.length) (([], v.toInt.toNat, rk0), [], S.2.2) else PM m (mI 1) (xBad S)) := by
  refine Rn_intro ok_M_anew hwf rfl (fun G hC => g_M_anew_0 hC ?_)
  refine useV (min_ok hwf d _ _ _ μ) ?_
  rw [bI_eq0, ti_lit.1, ti_lit.2.2.2.2.2.2.2.1]
  refine ⟨fun q => ?_, fun q => ?_⟩
  · have q := Classical.not_not.mp q
    rw [if_pos q]
    obtain ⟨j, j1, j2, j3⟩ := nat_of q.1
    rw [j3] at q
    rw [j3, j2, Int.toNat_natCast]
    refine useN (mBegins_ok hwf d μ m) (fun μ1 hp => ?_)
    obtain ⟨p1, p2, p3⟩ := hp
    obtain ⟨a, b, c, e, f, g⟩ := h
    have e1 := p3.1 (m + 1) (by omega) (by simp)
    exact ⟨_, rfl, a.1, p1, p2, by rw [e1]; exact c, by rw [e1]; exact e, by rw [e1]; exact f, ⟨⟨by simp, fun r hr => by simp at hr⟩, by show j ≤ 90; omega, rfl, rk0_lt⟩, nc_nil, fun T hT => by simp at hT⟩
  · rw [if_neg q]
    exact useMBad hwf d h
theorem mte_pop {μ : Mem} {m : Nat} {rs : List RG} {g : RG} {X : Nat × List Nat} (h : MTe μ m (rs ++ [g], X)) (v : Int32) (hv : v = nI rs.length) : MTe (upI μ m 2 v) m (rs, X) := by
  obtain ⟨a, b, c, e⟩ := h
  refine ⟨by rw [up_at, hv], by rw [up_n2 (by omega)]; exact b, fun i hi => ?_, fun k hk => by rw [up_n1 (by omega)]; exact e k hk⟩
  have := c i (by show i < (rs ++ [g]).length; rw [List.length_append]; exact Nat.lt_of_lt_of_le hi (Nat.le_add_right _ _))
  have hi : i < rs.length := hi
  have ee : el (rs ++ [g]) i = el rs i := el_app hi
  have this : μ.1 (m + 2) i = nI (el (rs ++ [g]) i).1 ∧ μ.1 (m + 3) i = nI (el (rs ++ [g]) i).2.1 ∧ μ.1 (m + 4) i = nI (el (rs ++ [g]) i).2.2 := this
  rw [ee] at this
  rw [up_n1 (by omega), up_n1 (by omega), up_n1 (by omega)]
  exact this
theorem mRange_ok {lay : List Nat} (hwf : wfB lay = true) (d : Nat) {μ : Mem} {m : Nat} {S : XS} (h : MAt μ m S) (k a b : Int32) : Rn lay (d + 2) mM_range [rf 16 m, vi k, vi a, vi b] μ (if (0 ≤ k.toInt ∧ k.toInt < 4) ∧ 0 ≤ a.toInt ∧ a.toInt ≤ b.toInt ∧ b.toInt ≤ S.1.2.1 then (if S.1.1.length < 8 ∧ ¬ crowd (S.1.1 ++ [(tN k, tN a, tN b)]) = true then PM m (nI S.1.1.length) (xSet S (S.1.1 ++ [(tN k, tN a, tN b)], S.1.2)) else PM m (mI 3) (xFull S)) else PM m (mI 1) (xBad S)) := by
  refine Rn_intro ok_M_range hwf rfl (fun G hC => g_M_range_0 hC ?_)
  have hw := h.2.2.2.2.2.1
  have hn := hw.1.1
  have hL := hw.2.1
  refine useV (mIsKind_ok hwf d k μ) ?_
  rw [bI_eq0]
  refine ⟨fun q => ?_, fun q => ?_⟩
  · rw [if_neg (fun z => q z.1)]
    exact useMBad hwf _ h
  · have q := Classical.not_not.mp q
    refine useV (mIsFromTo_ok hwf d h.1.2.1 hL a b) ?_
    rw [bI_eq0]
    refine ⟨fun r => ?_, fun r => ?_⟩
    · have r := Classical.not_not.mp r
      rw [if_pos ⟨q, r⟩]
      obtain ⟨k', k1, k2, k3⟩ := nat_of q.1
      obtain ⟨a', a1, a2, a3⟩ := nat_of r.1
      obtain ⟨b', b1, b2, b3⟩ := nat_of (Int.le_trans r.1 r.2.1)
      rw [k3] at q
      rw [a3, b3] at r
      have ek : tN k = k' := by unfold tN; rw [k3]; rfl
      have ea : tN a = a' := by unfold tN; rw [a3]; rfl
      have eb : tN b = b' := by unfold tN; rw [b3]; rfl
      rw [ek, ea, eb, k2, a2, b2, h.1.1, nx_eq (by omega) (by omega)]
      refine ⟨fun h8 => ?_, fun h8 => ?_⟩
      · refine useN (mComes_ok hwf _ (k := k') (a := a') (b := b') h.1 (by omega)) (fun μ1 hp => ?_)
        obtain ⟨p1, p2⟩ := hp
        have hw2 : WT (S.1.1 ++ [(k', a', b')], S.1.2) := ⟨WR_app hw.1 (by omega) ⟨by show k' < 4; omega, by show a' ≤ b'; omega, by show b' ≤ S.1.2.1; omega⟩, hw.2⟩
        refine useV (mTooMuch_ok hwf d p1 hw2) ?_
        have hll : (S.1.1 ++ [(k', a', b')]).length = S.1.1.length + 1 := by simp
        have e2 : μ1.1 m 2 - nI 1 = nI S.1.1.length := by
          rw [p1.1]
          show nI (S.1.1 ++ [(k', a', b')]).length - nI 1 = _
          rw [hll, nx_sub (by omega), Nat.add_sub_cancel]
        rw [bI_eq0, e2]
        have p3 := mte_pop p1 (nI S.1.1.length) rfl
        have h3 : MAt (upI μ1 m 2 (nI S.1.1.length)) m S := h.back p3 (p2.upf (by simp))
        refine ⟨fun c => ?_, fun c => ?_⟩
        · rw [if_pos ⟨by omega, c⟩]
          refine useNotes hwf _ h3 (fun μ2 t1 t2 t3 => ?_)
          refine useN (mComes_ok hwf _ (k := k') (a := a') (b := b') t1 (by omega)) (fun μ3 hp => ?_)
          obtain ⟨u1, u2⟩ := hp
          refine ⟨_, rfl, ?_, (t2.fr u2 (by simp) (by simp)).fin u1 hw2 (nc_of (by simpa using c) (by simp; omega))⟩
          rw [u1.1]
          show nI (S.1.1 ++ [(k', a', b')]).length - nI 1 = _
          rw [hll, nx_sub (by omega), Nat.add_sub_cancel]
        · rw [if_neg (fun z => c z.2)]
          exact useMFull hwf _ h3
      · rw [if_neg (fun z => by omega)]
        exact useMFull hwf _ h
    · rw [if_neg (fun z => r z.2)]
      exact useMBad hwf _ h
theorem mDrop_ok {lay : List Nat} (hwf : wfB lay = true) (d : Nat) {μ : Mem} {m : Nat} {S : XS} (h : MAt μ m S) (v : Int32) : Rn lay (d + 2) mM_drop [rf 16 m, vi v] μ (if 0 ≤ v.toInt ∧ v.toInt < S.1.1.length then PM m (nI (S.1.1.length - 1)) (xSet S (S.1.1.eraseIdx v.toInt.toNat, S.1.2)) else PM m (mI 1) (xBad S)) := by
  refine Rn_intro ok_M_drop hwf rfl (fun G hC => g_M_drop_0 hC ?_)
  have hw := h.2.2.2.2.2.1
  have hn := hw.1.1
  refine useV (mIsRange_ok hwf _ h.1 hn v) ?_
  rw [bI_eq0]
  refine ⟨fun q => ?_, fun q => ?_⟩
  · have q := Classical.not_not.mp q
    rw [if_pos q]
    obtain ⟨j, j1, j2, j3⟩ := ix_of q (by omega)
    rw [j3]
    subst j2
    refine useNotes hwf _ h (fun μ2 t1 t2 t3 => ?_)
    refine useN (mGoes_ok hwf _ t1 (by omega) j1) (fun μ3 hp => ?_)
    obtain ⟨u1, u2⟩ := hp
    refine ⟨_, rfl, ?_, (t2.fr u2 (by simp) (by simp)).fin u1 (wr_erase hw j) (nc_erase hn h.2.2.2.2.2.2.1 j)⟩
    rw [u1.1]
    show nI (S.1.1.eraseIdx j).length = _
    rw [List.length_eraseIdx_of_lt j1]
  · rw [if_neg q]
    exact useMBad hwf _ h
theorem mte_set {μ : Mem} {m : Nat} {T : TS} (h : MTe μ m T) {j a b : Nat} (hj : j < T.1.length) : MTe (upI (upI μ (m + 3) j (nI a)) (m + 4) j (nI b)) m (T.1.set j (kd T.1 j, a, b), T.2) := by
  obtain ⟨h1, h2, h3, h4⟩ := h
  refine ⟨?_, ?_, fun i hi => ?_, fun k hk => ?_⟩
  · simp (disch := omega) only [up_n1]
    show _ = nI (T.1.set j _).length
    rw [List.length_set]
    exact h1
  · simp (disch := omega) only [up_n1]
    exact h2
  · have hi : i < (T.1.set j (kd T.1 j, a, b)).length := hi
    rw [List.length_set] at hi
    show _ = nI (el (T.1.set j (kd T.1 j, a, b)) i).1 ∧ _ = nI (el (T.1.set j (kd T.1 j, a, b)) i).2.1 ∧ _ = nI (el (T.1.set j (kd T.1 j, a, b)) i).2.2
    rw [el_set hj]
    by_cases e : i = j
    · subst e
      rw [if_pos rfl]
      simp (disch := omega) only [up_n1, up_at, and_true]
      exact (h3 i hj).1
    · rw [if_neg e]
      simp (disch := omega) only [up_n1, up_n2]
      exact h3 i hi
  · simp (disch := omega) only [up_n1]
    exact h4 k hk
theorem sub_3 (x t f : Int32) : x - t + f = x - (t - f) := by grind
theorem set_back {rs : List RG} {j : Nat} (hj : j < rs.length) (g : RG) : (rs.set j g).set j (kd rs j, ra rs j, rb rs j) = rs := by
  rw [List.set_set]
  apply List.ext_getElem?
  intro i
  rw [List.getElem?_set]
  by_cases e : j = i
  · subst e
    rw [if_pos rfl, if_pos hj, el_in hj]
    rfl
  · rw [if_neg e]
theorem kd_set {rs : List RG} {j a b : Nat} (hj : j < rs.length) : kd (rs.set j (kd rs j, a, b)) j = kd rs j := by
  rw [← el_1, el_set hj, if_pos rfl]
theorem mMoves_ok {lay : List Nat} (hwf : wfB lay = true) (d : Nat) {μ : Mem} {m : Nat} {S : XS} (h : MAt μ m S) (r a b : Int32) : Rn lay (d + 2) mM_moves [rf 16 m, vi r, vi a, vi b] μ (if (0 ≤ r.toInt ∧ r.toInt < S.1.1.length) ∧ 0 ≤ a.toInt ∧ a.toInt ≤ b.toInt ∧ b.toInt ≤ S.1.2.1 then (if ¬ crowd (S.1.1.set (tN r) (kd S.1.1 (tN r), tN a, tN b)) = true then PM m ((b - a) - (nI (rb S.1.1 (tN r)) - nI (ra S.1.1 (tN r)))) (xSet S (S.1.1.set (tN r) (kd S.1.1 (tN r), tN a, tN b), S.1.2)) else PM m (mI 3) (xFull S)) else PM m (mI 1) (xBad S)) := by
  refine Rn_intro ok_M_moves hwf rfl (fun G hC => g_M_moves_0 hC ?_)
  have hw := h.2.2.2.2.2.1
  have hn := hw.1.1
  have hL := hw.2.1
  refine useV (mIsRange_ok hwf _ h.1 hn r) ?_
  rw [bI_eq0]
  refine ⟨fun q => ?_, fun q => ?_⟩
  · rw [if_neg (fun z => q z.1)]
    exact useMBad hwf _ h
  · have q := Classical.not_not.mp q
    refine useV (mIsFromTo_ok hwf d h.1.2.1 hL a b) ?_
    rw [bI_eq0]
    refine ⟨fun s => ?_, fun s => ?_⟩
    · have s := Classical.not_not.mp s
      rw [if_pos ⟨q, s⟩]
      obtain ⟨j, j1, j2, j3⟩ := ix_of q (by omega)
      obtain ⟨a', a1, a2, a3⟩ := nat_of s.1
      obtain ⟨b', b1, b2, b3⟩ := nat_of (Int.le_trans s.1 s.2.1)
      rw [a3, b3] at s
      have ea : tN a = a' := by unfold tN; rw [a3]; rfl
      have eb : tN b = b' := by unfold tN; rw [b3]; rfl
      have ej : tN r = j := j3
      rw [ej, ea, eb, j2, a2, b2]
      obtain ⟨_, e1, e2⟩ := h.1.2.2.1 j j1
      have hv : vp_in (nI j) 9 := vin (by omega) (by omega)
      rw [nx_cl (by omega), e1, e2]
      have p1 := mte_set (a := a') (b := b') h.1 j1
      have hw2 : WT (S.1.1.set j (kd S.1.1 j, a', b'), S.1.2) := wt_set hw j (el_wt hw j1).1 (by omega) (by omega)
      refine ⟨hv, hv, hv, hv, useV (mTooMuch_ok hwf d p1 hw2) ⟨hv, hv, ?_⟩⟩
      rw [bI_eq0]
      have p2 := mte_set (a := ra S.1.1 j) (b := rb S.1.1 j) p1 (show j < (S.1.1.set j (kd S.1.1 j, a', b')).length by rw [List.length_set]; exact j1)
      have p2 : MTe _ m ((S.1.1.set j (kd S.1.1 j, a', b')).set j (kd (S.1.1.set j (kd S.1.1 j, a', b')) j, ra S.1.1 j, rb S.1.1 j), S.1.2) := p2
      rw [kd_set j1, set_back j1] at p2
      have h3 := h.back p2 (((((FM.rf _ _ _ _).up (by simp) (by omega)).up (by simp) (by omega)).up (by simp) (by omega)).up (by simp) (by omega))
      refine ⟨fun c => ?_, fun c => ?_⟩
      · rw [if_pos c]
        refine useNotes hwf _ h3 (fun μ2 t1 t2 t3 => ⟨hv, hv, ?_⟩)
        exact ⟨_, rfl, sub_3 _ _ _, (t2.fr (((FM.rf _ [m + 3, m + 4] [] _).up (by simp) (by omega)).up (by simp) (by omega)) (by simp) (by simp)).fin (mte_set t1 j1) hw2 (nc_of (by simpa using c) (by simp; omega))⟩
      · rw [if_neg c]
        exact useMFull hwf _ h3
    · rw [if_neg (fun z => s z.2)]
      exact useMBad hwf _ h
theorem mKind_ok {lay : List Nat} (hwf : wfB lay = true) (d : Nat) {μ : Mem} {m : Nat} {S : XS} (h : MAt μ m S) (r k : Int32) : Rn lay (d + 2) mM_kind [rf 16 m, vi r, vi k] μ (if (0 ≤ r.toInt ∧ r.toInt < S.1.1.length) ∧ 0 ≤ k.toInt ∧ k.toInt < 4 then PM m (nI (kd S.1.1 (tN r))) (xSet S (S.1.1.set (tN r) (tN k, ra S.1.1 (tN r), rb S.1.1 (tN r)), S.1.2)) else PM m (mI 1) (xBad S)) := by
  refine Rn_intro ok_M_kind hwf rfl (fun G hC => g_M_kind_0 hC ?_)
  have hw := h.2.2.2.2.2.1
  have hn := hw.1.1
  refine useV (mIsRange_ok hwf _ h.1 hn r) ?_
  rw [bI_eq0]
  refine ⟨fun q => ?_, fun q => ?_⟩
  · rw [if_neg (fun z => q z.1)]
    exact useMBad hwf _ h
  · have q := Classical.not_not.mp q
    refine useV (mIsKind_ok hwf d k μ) ?_
    rw [bI_eq0]
    refine ⟨fun s => ?_, fun s => ?_⟩
    · have s := Classical.not_not.mp s
      rw [if_pos ⟨q, s⟩]
      obtain ⟨j, j1, j2, j3⟩ := ix_of q (by omega)
      obtain ⟨k', k1, k2, k3⟩ := nat_of s.1
      rw [k3] at s
      have ek : tN k = k' := by unfold tN; rw [k3]; rfl
      have ej : tN r = j := j3
      rw [ej, ek, j2, k2, nx_cl (by omega)]
      have hv : vp_in (nI j) 9 := vin (by omega) (by omega)
      refine useNotes hwf _ h (fun μ2 t1 t2 t3 => ⟨hv, hv, ?_⟩)
      have el := el_wt hw j1
      have e1 : MTe (upI μ2 (m + 2) j (nI k')) m (S.1.1.set j (k', ra S.1.1 j, rb S.1.1 j), S.1.2) := by
        obtain ⟨h1, h2, h3, h4⟩ := t1
        refine ⟨by rw [up_n1 (by omega)]; show _ = nI (S.1.1.set j _).length; rw [List.length_set]; exact h1, by rw [up_n1 (by omega)]; exact h2, fun i hi => ?_, fun k hk => by rw [up_n1 (by omega)]; exact h4 k hk⟩
        have hi : i < (S.1.1.set j (k', ra S.1.1 j, rb S.1.1 j)).length := hi
        rw [List.length_set] at hi
        obtain ⟨a, b, c⟩ := h3 i hi
        show _ = nI (kd (S.1.1.set j (k', ra S.1.1 j, rb S.1.1 j)) i) ∧ _ = nI (ra (S.1.1.set j (k', ra S.1.1 j, rb S.1.1 j)) i) ∧ _ = nI (rb (S.1.1.set j (k', ra S.1.1 j, rb S.1.1 j)) i)
        rw [(setk_ab j1 i).1, (setk_ab j1 i).2, ← el_1, el_set j1]
        refine ⟨?_, by rw [up_n1 (by omega)]; exact b, by rw [up_n1 (by omega)]; exact c⟩
        by_cases e : i = j
        · rw [if_pos e, e, up_at]
        · rw [if_neg e, up_n2 e]
          exact a
      refine ⟨_, rfl, (t1.2.2.1 j j1).1, (t2.fr ((FM.rf _ [m + 2] [] _).up (by simp) (by omega)) (by simp) (by simp)).fin e1 (wt_set hw j (by omega) el.2.1 el.2.2) (fun p => ?_)⟩
      show popN (cov (S.1.1.set j (k', ra S.1.1 j, rb S.1.1 j)) p) ≤ 5
      rw [cov_same (by rw [List.length_set]) (setk_ab j1) p]
      exact h.2.2.2.2.2.2.1 p
    · rw [if_neg (fun z => s z.2)]
      exact useMBad hwf _ h
theorem mRank_ok {lay : List Nat} (hwf : wfB lay = true) (d : Nat) {μ : Mem} {m : Nat} {S : XS} (h : MAt μ m S) (k r : Int32) : Rn lay (d + 2) mM_rank [rf 16 m, vi k, vi r] μ (if (0 ≤ k.toInt ∧ k.toInt < 4) ∧ 0 ≤ r.toInt ∧ r.toInt < 4 then PM m (nI (S.1.2.2.getD (tN k) 0)) (xSet S (S.1.1, S.1.2.1, S.1.2.2.set (tN k) (tN r))) else PM m (mI 1) (xBad S)) := by
  refine Rn_intro ok_M_rank hwf rfl (fun G hC => g_M_rank_0 hC ?_)
  have hw := h.2.2.2.2.2.1
  have hn := hw.1.1
  have h4 := hw.2.2.1
  refine useV (mIsKind_ok hwf _ k μ) ?_
  rw [bI_eq0]
  refine ⟨fun q => ?_, fun q => ?_⟩
  · rw [if_neg (fun z => q z.1)]
    exact useMBad hwf _ h
  · have q := Classical.not_not.mp q
    refine useV (min_ok hwf _ _ _ _ μ) ?_
    rw [bI_eq0, ti_lit.1, ti_lit.2.2.2.1]
    refine ⟨fun s => ?_, fun s => ?_⟩
    · have s := Classical.not_not.mp s
      rw [if_pos (by omega)]
      obtain ⟨k', k1, k2, k3⟩ := nat_of q.1
      obtain ⟨r', r1, r2, r3⟩ := nat_of s.1
      rw [k3] at q
      rw [r3] at s
      have ek : tN k = k' := by unfold tN; rw [k3]; rfl
      have er : tN r = r' := by unfold tN; rw [r3]; rfl
      rw [ek, er, k2, r2, nx_cl (by omega)]
      have hv : vp_in (nI k') 4 := vin (by omega) (by omega)
      refine useNotes hwf _ h (fun μ2 t1 t2 t3 => ⟨hv, hv, ?_⟩)
      have e1 : MTe (upI μ2 (m + 5) k' (nI r')) m (S.1.1, S.1.2.1, S.1.2.2.set k' r') := by
        obtain ⟨h1, h2, h3, h5⟩ := t1
        refine ⟨by rw [up_n1 (by omega)]; exact h1, by rw [up_n1 (by omega)]; exact h2, fun i hi => ?_, fun i hi => ?_⟩
        · rw [up_n1 (by omega), up_n1 (by omega), up_n1 (by omega)]
          exact h3 i hi
        · show _ = nI ((S.1.2.2.set k' r').getD i 0)
          rw [List.getD_eq_getElem?_getD, List.getElem?_set]
          by_cases e : k' = i
          · subst e
            rw [if_pos rfl, if_pos (by omega), up_at]
            rfl
          · rw [if_neg e, up_n2 (by omega), ← List.getD_eq_getElem?_getD]
            exact h5 i hi
      refine ⟨_, rfl, t1.2.2.2 k' (by omega), (t2.fr ((FM.rf _ [m + 5] [] _).up (by simp) (by omega)) (by simp) (by simp)).fin e1 ⟨hw.1, hw.2.1, by show (S.1.2.2.set k' r').length = 4; rw [List.length_set]; exact h4, fun y hy => ?_⟩ h.2.2.2.2.2.2.1⟩
      rcases List.mem_or_eq_of_mem_set hy with z | z
      · exact hw.2.2.2 y z
      · omega
    · rw [if_neg (by omega)]
      exact useMBad hwf _ h
theorem mUndo_ok {lay : List Nat} (hwf : wfB lay = true) (d : Nat) {μ : Mem} {m : Nat} {S : XS} (h : MAt μ m S) : Rn lay (d + 1) mM_undo [rf 16 m] μ (match S.2.1 with
    | [] => PM m (mI 2) (xNo S)
    | T :: hist => PM m (nI hist.length) (T, hist, S.2.2)) := by
  refine Rn_intro ok_M_undo hwf rfl (fun G hC => g_M_undo_0 hC ?_)
  obtain ⟨C, hi, c3⟩ := S
  have h8 := h.2.1.1
  have h12 := h.2.1.2.1
  have h8 : μ.1 m 8 = nI hi.length := h8
  have h12 : hi.length ≤ 12 := h12
  rw [h8, nx_0, nx_eq (by omega) (by omega)]
  cases hi with
  | nil => exact ⟨fun q => absurd rfl q, fun _ => useMNo hwf _ h⟩
  | cons T hist =>
    refine ⟨fun _ => ?_, fun q => absurd q (by simp)⟩
    refine useN (mBack_ok hwf _ (T := T) (hist := hist) h.2.1) (fun μ1 hp => ?_)
    obtain ⟨p1, p2, p3⟩ := hp
    have e1 := p3.1 (m + 1) (by omega) (by simp)
    obtain ⟨a, b, c, e, f, g⟩ := h
    exact ⟨_, rfl, p2.1, p1, p2, by rw [e1]; exact c, by rw [e1]; exact e, by rw [e1]; exact f, (b.2.2 0 T rfl).2, g.2.2 T (by simp), fun U hU => g.2.2 U (by simp [hU])⟩
