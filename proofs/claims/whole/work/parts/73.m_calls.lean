/-! the reference: calls that look at the nest -/
theorem skI_8 : skI 8 = mI 0 := by unfold skI; rw [if_neg (by omega)]
theorem mSetThe_ok {lay : List Nat} (hwf : wfB lay = true) (d : Nat) {μ : Mem} {m : Nat} {T : TS} (hT : MTe μ m T) (hw : WT T) (hnc : NC T.1) : Rn lay (d + 5) mM_setThe [rf 16 m] μ (Pq fun v μ1 => v = nI (few (rkO T) (cvT T)) ∧ NeM μ1 m (rkO T) (csT T) (cvT T) ∧ FM m (neS m) [9] μ μ1) := by
  refine Rn_intro ok_M_setThe hwf rfl (fun G hC => g_M_setThe_0 hC ?_)
  have h := mSetNest_ok hwf d hT hw hnc 8 false
  rw [skI_8] at h
  exact useQ h (fun v μ1 hp => ⟨_, rfl, hp⟩)
theorem FM.ne {m : Nat} {μ μ1 : Mem} (h : FM m (neS m) [9] μ μ1) : FM m (mwS m) mwF μ μ1 := h.mono (by simp [neS]) (by simp)
theorem useThe {lay : List Nat} (hwf : wfB lay = true) (d : Nat) {μ : Mem} {m : Nat} {S : XS} (h : MAt μ m S) {K : Int32 → Mem → Prop} (k : ∀ μ1, MAt μ1 m S → NeM μ1 m (rkO S.1) (csT S.1) (cvT S.1) → K (nI (few (rkO S.1) (cvT S.1))) μ1) : ∃ P : PT, Rn lay (d + 5) mM_setThe [rf 16 m] μ P ∧ ∀ (v : Int32) (μ1 : Mem), P (some (vi v)) μ1 → K v μ1 := by
  refine useQ (mSetThe_ok hwf d h.1 h.2.2.2.2.2.1 h.2.2.2.2.2.2.1) (fun v μ1 hp => ?_)
  obtain ⟨p1, p2, p3⟩ := hp
  rw [p1]
  exact k μ1 (h.fr p3.ne) p2
theorem mLeast_ok {lay : List Nat} (hwf : wfB lay = true) (d : Nat) {μ : Mem} {m : Nat} {S : XS} (h : MAt μ m S) : Rn lay (d + 6) mM_least [rf 16 m] μ (PM m (nI (few (rkO S.1) (cvT S.1))) S) := by
  refine Rn_intro ok_M_least hwf rfl (fun G hC => g_M_least_0 hC ?_)
  exact useThe hwf d h (fun μ1 h1 _ => ⟨_, rfl, rfl, h1⟩)
/-- what is fixed of a text's nest -/
theorem nest_f {T : TS} (hw : WT T) (hnc : NC T.1) : (csT T).length ≤ 16 ∧ (cvT T).length = (csT T).length - 1 ∧ okC (cvT T) ∧ (∀ r, r < 8 → rkO T r < 4) := ⟨csT_len hw 8, cvL_len T.1 8 _, okC_cv hw.1.1 hnc 8 _, fun r _ => rkT_lt hw false r⟩
theorem few_le {rk : Nat → Nat} (hrk : ∀ r, r < 8 → rk r < 4) {cv : List Nat} (hok : okC cv) : few rk cv ≤ 8 * cv.length := by
  cases cv with
  | nil => exact Nat.le_refl _
  | cons c r =>
    have hc := hok c List.mem_cons_self
    have hp := stk_pos hrk hc.1 hc.2
    have h1 := chU_low (F := dpc rk (c :: r)) (stk rk c).length 0 hp
    have h2 := dpc_le hrk (c :: r) hok 0
    show chU (dpc rk (c :: r)) 0 (stk rk c).length ≤ _
    omega
theorem smN_le {p : Nat → Bool} {mf : Nat → Nat} {B : Nat} (h : ∀ j, mf j ≤ B) : ∀ n, smN p mf n ≤ B * n
  | 0 => Nat.le_refl _
  | n + 1 => by
    have := smN_le (p := p) h n
    have := h n
    unfold smN
    rw [Nat.mul_succ]
    split <;> omega
theorem mWays_ok {lay : List Nat} (hwf : wfB lay = true) (d : Nat) {μ : Mem} {m : Nat} {S : XS} (h : MAt μ m S) : Rn lay (d + 6) mM_ways [rf 16 m] μ (PM m (nI (asf (rkO S.1) (cvT S.1))) S) := by
  refine Rn_intro ok_M_ways hwf rfl (fun G hC => g_M_ways_0 hC ?_)
  obtain ⟨hcl, hvl, hok, hrk⟩ := nest_f h.2.2.2.2.2.1 h.2.2.2.2.2.2.1
  refine useThe hwf d h (fun μ1 h1 hN => ?_)
  refine useV (mSections_ok hwf _ hN.1.1.1 hcl) ?_
  rw [← hvl, nx_0, nx_eq (by omega) (by omega)]
  have hf := few_le hrk hok
  generalize cvT S.1 = cv at hvl hok hN hf hC
  generalize rkO S.1 = rk at hrk hN hf hC
  refine ⟨fun z => ?_, fun z => ?_⟩
  · have hpos : 0 < cv.length := by omega
    obtain ⟨p1, p2⟩ := hok.at hpos
    have n1 := stk_len (rk := rk) p1 p2
    have ecv : cv = cv.getD 0 0 :: cv.drop 1 := by
      have := drop_cons hpos
      rw [List.drop_zero] at this
      exact this
    have easf : asf rk cv = cap (smN (fun j => decide (dpc rk cv j = few rk cv)) (dpm rk cv) (stk rk (cv.getD 0 0)).length) := by
      conv => lhs; rw [ecv]
      show mnU (dpc rk (cv.getD 0 0 :: cv.drop 1)) (dpm rk (cv.getD 0 0 :: cv.drop 1)) 0 (few rk (cv.getD 0 0 :: cv.drop 1)) (stk rk (cv.getD 0 0)).length = _
      rw [← ecv, mnU_sm (dpc rk cv) (dpm rk cv) 0 (few rk cv) (L := (stk rk (cv.getD 0 0)).length) _ (by omega)]
      congr 1
      refine smN_cong (fun j hj => ?_)
      unfold inV
      apply decide_eq_decide.mpr
      exact ⟨fun q => q.2.2, fun q => ⟨by omega, by omega, q⟩⟩
    have hs0 := (hN.1.2.2 0 hpos hpos).1
    have hdl : ∀ q, dpc rk cv q ≤ 8 * 15 := fun q => by
      have := dpc_le hrk cv hok q
      omega
    have hsb := smN_le (p := fun j => decide (dpc rk cv j = few rk cv)) (mf := dpm rk cv) (dpm_le rk cv)
    have loop : ∀ k i, i + k = (stk rk (cv.getD 0 0)).length → G 19 [rf 16 m, vi (nI (few rk cv)), vl (lN (smN (fun j => decide (dpc rk cv j = few rk cv)) (dpm rk cv) i)), un, vi (nI i)] [] μ1 := by
      intro k
      induction k with
      | zero =>
        intro i hi
        have ei : i = (stk rk (cv.getD 0 0)).length := by omega
        subst ei
        have hb := hsb (stk rk (cv.getD 0 0)).length
        refine g_M_ways_19 hC ?_
        rw [c012.1, hs0, nx_le (by omega) (by omega)]
        refine ⟨vin (by omega) (by omega), fun _ => ?_, fun z => absurd (by omega) z⟩
        refine g_M_ways_61 hC ?_
        rw [lg_cmp_le, pk_lLE (by omega) (by omega), lN_i, lN_i, easf]
        unfold cap
        refine ⟨fun z => ⟨_, rfl, ?_, h1⟩, fun z => ⟨_, rfl, ?_, h1⟩⟩
        · by_cases w : smN (fun j => decide (dpc rk cv j = few rk cv)) (dpm rk cv) (stk rk (cv.getD 0 0)).length < 1000000000
          · rw [if_pos w]
          · rw [if_neg w]
            congr 1
            omega
        · rw [if_neg (by omega)]
      | succ k ih =>
        intro i hi
        have hil : i < (stk rk (cv.getD 0 0)).length := by omega
        obtain ⟨l1, l2⟩ := hN.2.1 0 (Nat.le_refl _) hpos i hil
        rw [List.drop_zero, Nat.mul_zero, Nat.zero_add] at l1 l2
        have hdi := hdl i
        have ih := ih (i + 1) (by omega)
        have es : smN (fun j => decide (dpc rk cv j = few rk cv)) (dpm rk cv) (i + 1) = smN (fun j => decide (dpc rk cv j = few rk cv)) (dpm rk cv) i + (if decide (dpc rk cv i = few rk cv) = true then dpm rk cv i else 0) := rfl
        rw [es] at ih
        refine g_M_ways_19 hC ?_
        rw [c012.1, hs0, nx_le (by omega) (by omega), nx_cl (by omega), l1, l2, nx_eq (by omega) (by omega), lN_add, lN_add, nI_add]
        have hv : vp_in (nI i) 1800 := vin (by omega) (by omega)
        refine ⟨vin (by omega) (by omega), fun z => absurd z (by omega), fun _ => ⟨hv, fun z => ?_, fun z => ⟨hv, ?_⟩⟩⟩
        · rw [if_neg (fun w => z (of_decide_eq_true w))] at ih
          exact ih
        · rw [if_pos (decide_eq_true z)] at ih
          exact ih
    exact loop _ 0 (Nat.zero_add _)
  · have ecv : cv = [] := List.eq_nil_of_length_eq_zero z
    exact ⟨_, rfl, by rw [ecv]; rfl, h1⟩
theorem mPlain_ok {lay : List Nat} (hwf : wfB lay = true) (d : Nat) {μ : Mem} {m : Nat} {S : XS} (h : MAt μ m S) : Rn lay (d + 6) mM_plain [rf 16 m] μ (PM m (nI (plU (rkO S.1) (cvT S.1) ((cvT S.1).length - 1))) S) := by
  refine Rn_intro ok_M_plain hwf rfl (fun G hC => g_M_plain_0 hC ?_)
  obtain ⟨hcl, hvl, hok, hrk⟩ := nest_f h.2.2.2.2.2.1 h.2.2.2.2.2.2.1
  refine useThe hwf d h (fun μ1 h1 hN => ?_)
  have h9 := hN.1.1.1
  generalize cvT S.1 = cv at hvl hok hN hC
  generalize rkO S.1 = rk at hrk hN hC
  have loop : ∀ k s, s + k = cv.length - 1 → G 9 [rf 16 m, vi (nI (plU rk cv s)), vi (nI s)] [] μ1 := by
    intro k
    induction k with
    | zero =>
      intro s hs
      refine g_M_plain_9 hC ?_
      refine useV (mSections_ok hwf _ h9 hcl) ?_
      rw [nI_add, nx_le (by omega) (by omega)]
      refine ⟨fun _ => ⟨_, rfl, by rw [show s = cv.length - 1 by omega], h1⟩, fun z => absurd (by omega) z⟩
    | succ k ih =>
      intro s hs
      have hs1 : s + 1 < cv.length := by omega
      obtain ⟨p1, p2⟩ := hok.at (show s < cv.length by omega)
      obtain ⟨q1, q2⟩ := hok.at hs1
      refine g_M_plain_9 hC ?_
      refine useV (mSections_ok hwf _ h9 hcl) ?_
      rw [nI_add, nx_le (by omega) (by omega)]
      refine ⟨fun z => absurd z (by omega), fun _ => ?_⟩
      refine useV (mSplitsBy_ok hwf (d + 3) hN.1 hok hs1 (by omega) (stk_pos hrk p1 p2) (stk_pos hrk q1 q2)) ?_
      rw [nI_add]
      exact ih (s + 1) (by omega)
  exact loop _ 0 (Nat.zero_add _)
theorem mFree_ok {lay : List Nat} (hwf : wfB lay = true) (d : Nat) {μ : Mem} {m : Nat} {S : XS} (h : MAt μ m S) : Rn lay (d + 5) mM_free [rf 16 m] μ (PM m (nI (few (rkT S.1 true) (cvL S.1.1 8 (cutsOf S.1.1 8)))) S) := by
  refine Rn_intro ok_M_free hwf rfl (fun G hC => g_M_free_0 hC ?_)
  have hh := mSetNest_ok hwf d h.1 h.2.2.2.2.2.1 h.2.2.2.2.2.2.1 8 true
  rw [skI_8] at hh
  exact useQ hh (fun v μ1 hp => ⟨_, rfl, hp.1, h.fr hp.2.2.ne⟩)
/-- behind the first range, a best one stands -/
theorem wo_pos (T : TS) : ∀ i, 0 < i → ∃ r, r < i ∧ (wo T i).1 = nI r
  | 0, h => absurd h (Nat.lt_irrefl _)
  | i + 1, _ => by
    rw [wo_s]
    by_cases e : (wo T i).1 = mI 0
    · rw [if_pos e]
      exact ⟨i, by omega, rfl⟩
    · rw [if_neg e]
      split
      · rcases Nat.eq_zero_or_pos i with q | q
        · subst q
          exact absurd rfl e
        · obtain ⟨r, r1, r2⟩ := wo_pos T i q
          exact ⟨r, by omega, r2⟩
      · exact ⟨i, by omega, rfl⟩
theorem mWithout_ok {lay : List Nat} (hwf : wfB lay = true) (d : Nat) {μ : Mem} {m : Nat} {S : XS} (h : MAt μ m S) (v : Int32) : Rn lay (d + 5) mM_without [rf 16 m, vi v] μ (if 0 ≤ v.toInt ∧ v.toInt ≤ 1 then PM m (if v = 0 then (wo S.1 S.1.1.length).1 else (wo S.1 S.1.1.length).2) S else PM m (mI 1) (xBad S)) := by
  refine Rn_intro ok_M_without hwf rfl (fun G hC => g_M_without_0 hC ?_)
  have hw := h.2.2.2.2.2.1
  have hnc := h.2.2.2.2.2.2.1
  have hn := hw.1.1
  refine useV (min_ok hwf _ _ _ _ μ) ?_
  rw [bI_eq0, ti_lit.1, ti_lit.2.1]
  refine ⟨fun q => ?_, fun q => ?_⟩
  · have q := Classical.not_not.mp q
    rw [if_pos q] at hC
    have hrk : ∀ r, r < 8 → rkT S.1 false r < 4 := fun r _ => rkT_lt hw false r
    have hfl : ∀ i, few (rkT S.1 false) (cvL S.1.1 i (cutsOf S.1.1 i)) ≤ 8 * 15 := fun i => by
      have := few_le hrk (okC_cv hn hnc i (cutsOf S.1.1 i))
      rw [cvL_len] at this
      have := csT_len hw i
      omega
    have loop : ∀ k i (b f : Int32) (μ' : Mem), i + k = S.1.1.length → MAt μ' m S → ((i = 0 ∧ b = mI 0 ∧ f = nI 1048576) ∨ (0 < i ∧ b = (wo S.1 i).1 ∧ f = (wo S.1 i).2)) → G 22 [rf 16 m, vi v, vi b, vi f, vi (nI i), un] [] μ' := by
      intro k
      induction k with
      | zero =>
        intro i b f μ' hi hx hb
        refine g_M_without_22 hC ?_
        rw [hx.1.1, nx_le (by omega) (by omega)]
        refine ⟨fun _ => ?_, fun z => absurd (by omega) z⟩
        refine g_M_without_72 hC ?_
        have hi : i = S.1.1.length := by omega
        rcases hb with ⟨b1, b2, b3⟩ | ⟨b1, b2, b3⟩
        · subst b2
          refine ⟨fun _ => ⟨_, rfl, ?_, hx⟩, fun z => absurd rfl z⟩
          rw [← hi, b1]
          show mI 0 = if v = 0 then mI 0 else mI 0
          rw [ite_self]
        · obtain ⟨r, r1, r2⟩ := wo_pos S.1 i b1
          rw [b2, b3]
          refine ⟨fun z => ?_, fun _ => ⟨fun z => ⟨_, rfl, by rw [if_neg z, hi], hx⟩, fun z => ⟨_, rfl, by rw [if_pos z, hi], hx⟩⟩⟩
          rw [r2] at z
          exact absurd z.symm (mI_ne (by omega) (by omega))
      | succ k ih =>
        intro i b f μ' hi hx hb
        refine g_M_without_22 hC ?_
        rw [hx.1.1, nx_le (by omega) (by omega)]
        refine ⟨fun z => absurd z (by omega), fun _ => ?_⟩
        have es : skI i = nI i := by unfold skI; rw [if_pos (by omega)]
        have hf := mSetNest_ok hwf d hx.1 hw hnc i false
        rw [es] at hf
        refine useQ hf (fun y μ1 hp => ?_)
        obtain ⟨p1, p2, p3⟩ := hp
        subst p1
        have hx1 := hx.fr p3.ne
        have hfi := hfl i
        have ews := wo_s S.1 i
        rw [nI_add]
        rcases hb with ⟨b1, b2, b3⟩ | ⟨b1, b2, b3⟩
        · subst b3
          rw [nx_le (by omega) (by omega)]
          refine ⟨fun z => by omega, fun _ => ⟨fun z => by omega, fun _ => ih (i + 1) _ _ μ1 (by omega) hx1 (Or.inr ⟨by omega, ?_⟩)⟩⟩
          have : (wo S.1 i).1 = mI 0 := by rw [b1]; rfl
          rw [if_pos this] at ews
          rw [ews]
          exact ⟨rfl, rfl⟩
        · obtain ⟨r, r1, r2⟩ := wo_pos S.1 i b1
          have hne : ¬ (wo S.1 i).1 = mI 0 := fun z => by
            rw [r2] at z
            exact absurd z.symm (mI_ne (by omega) (by omega))
          rw [if_neg hne, ← b3] at ews
          refine ⟨fun z => ⟨fun _ => ?_, fun w => absurd z w⟩, fun z => ⟨fun w => absurd w z, fun _ => ?_⟩⟩
          · rw [if_pos z] at ews
            exact ih (i + 1) _ _ μ1 (by omega) hx1 (Or.inr ⟨by omega, by rw [ews]; exact b2, by rw [ews]; exact b3⟩)
          · rw [if_neg z] at ews
            exact ih (i + 1) _ _ μ1 (by omega) hx1 (Or.inr ⟨by omega, by rw [ews], by rw [ews]⟩)
    exact loop S.1.1.length 0 (mI 0) (nI 1048576) μ (by omega) h (Or.inl ⟨rfl, rfl, rfl⟩)
  · rw [if_neg q]
    exact useMBad hwf _ h
/-- a chosen stack's k-th range -/
theorem mStackAt_ok {lay : List Nat} (hwf : wfB lay = true) (d : Nat) {μ : Mem} {m s k : Nat} {T : TS} (hw : WT T) (hnc : NC T.1) (hN : NeM μ m (rkO T) (csT T) (cvT T)) (hs : s < (cvT T).length) (hk : k < ((zsT T).getD s []).length) : Rn lay (d + 2) mM_stackAt [rf 16 m, vi (nI s), vi (nI k)] μ (Pv (nI (((zsT T).getD s []).getD k 0)) μ) := by
  obtain ⟨hcl, hvl, hok, hrk⟩ := nest_f hw hnc
  have h100 : (cvT T).length ≤ 100 := by omega
  have hix := chx_in hrk (cvT T) none (few (rkO T) (cvT T)) hok h100 (feas_first hrk hok h100) s hs
  have ez : (zsT T).getD s [] = (stk (rkO T) ((cvT T).getD s 0)).getD ((chx (rkO T) (cvT T) none (few (rkO T) (cvT T))).getD s 0) [] := chs_chx (rkO T) (cvT T) none _ s hs
  obtain ⟨c1, c2⟩ := hok.at hs
  refine Rn_intro ok_M_stackAt hwf rfl (fun G hC => g_M_stackAt_0 hC ?_)
  rw [nx_cl (by omega), hN.2.2 s hs]
  rw [ez] at hk
  refine ⟨vin (by omega) (by omega), useV (mRangeAt_ok hwf d hN.1.2.1 (hN.1.2.2 s hs hs) hs (by omega) c1 hix (stk_len c1 c2) (stk_st c1 (stk_get hix)) c2 hk) (pv_e ?_)⟩
  rw [ez]
theorem mAlikeAt_ok {lay : List Nat} (hwf : wfB lay = true) (d : Nat) {μ : Mem} {m s : Nat} {T : TS} (hw : WT T) (hnc : NC T.1) (hN : NeM μ m (rkO T) (csT T) (cvT T)) (hs : s + 1 < (cvT T).length) : Rn lay (d + 3) mM_alikeAt [rf 16 m, vi (nI s)] μ (Pv (nI (alk ((zsT T).getD s []) ((zsT T).getD (s + 1) []))) μ) := by
  obtain ⟨hcl, hvl, hok, hrk⟩ := nest_f hw hnc
  have h100 : (cvT T).length ≤ 100 := by omega
  have hix := chx_in hrk (cvT T) none (few (rkO T) (cvT T)) hok h100 (feas_first hrk hok h100) s (by omega)
  have hix2 := chx_in hrk (cvT T) none (few (rkO T) (cvT T)) hok h100 (feas_first hrk hok h100) (s + 1) hs
  have ez : (zsT T).getD s [] = (stk (rkO T) ((cvT T).getD s 0)).getD ((chx (rkO T) (cvT T) none (few (rkO T) (cvT T))).getD s 0) [] := chs_chx (rkO T) (cvT T) none _ s (by omega)
  have ez2 : (zsT T).getD (s + 1) [] = (stk (rkO T) ((cvT T).getD (s + 1) 0)).getD ((chx (rkO T) (cvT T) none (few (rkO T) (cvT T))).getD (s + 1) 0) [] := chs_chx (rkO T) (cvT T) none _ (s + 1) hs
  obtain ⟨c1, c2⟩ := hok.at (show s < (cvT T).length by omega)
  obtain ⟨e1, e2⟩ := hok.at hs
  have hle := alk_pop (stk_st c1 (stk_get hix)) (stk_st e1 (stk_get hix2))
  rw [ez, ez2]
  refine Rn_intro ok_M_alikeAt hwf rfl (fun G hC => g_M_alikeAt_0 hC ?_)
  rw [nI_add, nx_cl (by omega), nx_cl (by omega), hN.1.2.1 s (by omega), hN.1.2.1 (s + 1) hs, nx_and]
  refine ⟨vin (by omega) (by omega), vin (by omega) (by omega), useV (mBits_ok hwf _ (Nat.lt_of_le_of_lt Nat.and_le_left c1) μ) ⟨vin (by omega) (by omega), vin (by omega) (by omega), ?_⟩⟩
  rw [hN.2.2 s (by omega), hN.2.2 (s + 1) hs]
  refine useV (mSplitsBy_ok hwf d hN.1 hok hs (by omega) hix hix2) (pv_e ?_)
  rw [nx_sub (by omega)]
  congr 1
  omega
theorem mStack_ok {lay : List Nat} (hwf : wfB lay = true) (d : Nat) {μ : Mem} {m : Nat} {S : XS} (h : MAt μ m S) (s v : Int32) : Rn lay (d + 6) mM_stack [rf 16 m, vi s, vi v] μ (if (0 ≤ s.toInt ∧ s.toInt < (cvT S.1).length) ∧ 0 ≤ v.toInt then PM m (atI ((zsT S.1).getD (tN s) []) (tN v)) S else PM m (mI 1) (xBad S)) := by
  refine Rn_intro ok_M_stack hwf rfl (fun G hC => g_M_stack_0 hC ?_)
  have hw := h.2.2.2.2.2.1
  have hnc := h.2.2.2.2.2.2.1
  obtain ⟨hcl, hvl, hok, hrk⟩ := nest_f hw hnc
  refine useThe hwf d h (fun μ1 h1 hN => ?_)
  refine useV (mSections_ok hwf _ hN.1.1.1 hcl) ?_
  refine useV (min_ok hwf _ _ _ _ μ1) ?_
  rw [bI_eq0, ti_lit.1, pre_ti (by omega)]
  refine ⟨fun q => ?_, fun q => ?_⟩
  · rw [if_neg (fun z => q (by omega))]
    exact useMBad hwf _ h1
  · have q := Classical.not_not.mp q
    rw [i_le, i_0]
    refine ⟨fun q2 => ?_, fun q2 => ?_⟩
    · rw [if_pos ⟨by omega, q2⟩]
      obtain ⟨j, j1, j2, j3⟩ := ix_of (v := s) (n := (cvT S.1).length) (by omega) (by omega)
      obtain ⟨k, k1, k2, k3⟩ := nat_of q2
      have ej : tN s = j := j3
      have ek : tN v = k := by unfold tN; rw [k3]; rfl
      obtain ⟨z1, z2⟩ := zs_ok hw hnc j1
      obtain ⟨c1, c2⟩ := hok.at j1
      have hl := z1.len
      rw [ej, ek, j2, k2, nx_cl (by omega), hN.1.2.1 j j1]
      refine ⟨vin (by omega) (by omega), useV (mBits_ok hwf _ c1 μ1) ?_⟩
      rw [nx_le (by omega) (by omega)]
      refine ⟨fun w => ⟨_, rfl, ?_, h1⟩, fun w => ?_⟩
      · unfold atI
        rw [List.getElem?_eq_none (by omega)]
      · refine useV (mStackAt_ok hwf _ hw hnc hN j1 (by omega)) ⟨_, rfl, ?_, h1⟩
        unfold atI
        rw [gd_in (by omega)]
    · rw [if_neg (fun z => q2 z.2)]
      exact useMBad hwf _ h1
theorem mSection_ok {lay : List Nat} (hwf : wfB lay = true) (d : Nat) {μ : Mem} {m : Nat} {S : XS} (h : MAt μ m S) (s v : Int32) : Rn lay (d + 2) mM_section [rf 16 m, vi s, vi v] μ (if 0 ≤ s.toInt ∧ s.toInt < (cvT S.1).length then (if v = nI 0 then PM m (nI ((csT S.1).getD (tN s) 0)) S else if v = nI 1 then PM m (nI ((csT S.1).getD (tN s + 1) 0)) S else if v = nI 2 then PM m (nI (popN ((cvT S.1).getD (tN s) 0))) S else PM m (mI 1) (xBad S)) else PM m (mI 1) (xBad S)) := by
  refine Rn_intro ok_M_section hwf rfl (fun G hC => g_M_section_0 hC ?_)
  have hw := h.2.2.2.2.2.1
  have hnc := h.2.2.2.2.2.2.1
  obtain ⟨hcl, hvl, hok, hrk⟩ := nest_f hw hnc
  have hsc := mSetCuts_ok hwf d h.1 hw 8
  rw [skI_8] at hsc
  refine useN hsc (fun μ1 hp => ?_)
  obtain ⟨p1, p2, p3⟩ := hp
  have h1 : MAt μ1 m S := h.fr (p3.mono (by simp) (by simp))
  have p1 : CuM μ1 m (csT S.1) := p1
  have p2 : CvM μ1 m (cvT S.1) := p2
  refine useV (mSections_ok hwf _ p1.1 hcl) ?_
  refine useV (min_ok hwf _ _ _ _ μ1) ?_
  rw [bI_eq0, ti_lit.1, pre_ti (by omega)]
  refine ⟨fun q => ?_, fun q => ?_⟩
  · rw [if_neg (fun z => q (by omega))]
    exact useMBad hwf _ h1
  · have q := Classical.not_not.mp q
    rw [if_pos (by omega)]
    refine useV (min_ok hwf _ _ _ _ μ1) ?_
    rw [bI_eq0, ti_lit.1, ti_lit.2.2.1]
    obtain ⟨j, j1, j2, j3⟩ := ix_of (v := s) (n := (cvT S.1).length) (by omega) (by omega)
    have ej : tN s = j := j3
    rw [ej, j2]
    refine ⟨fun q2 => ?_, fun q2 => ?_⟩
    · have q2 := Classical.not_not.mp q2
      obtain ⟨k, k1, k2, k3⟩ := nat_of q2.1
      rw [k3] at q2
      rw [nx_0, nI_add, nx_cl (by omega), nx_cl (by omega), p2 j j1, p1.2 j (by omega), p1.2 (j + 1) (by omega)]
      refine ⟨fun z0 => ⟨fun z1 => ⟨vin (by omega) (by omega), ?_⟩, fun z1 => ⟨vin (by omega) (by omega), ?_⟩⟩, fun z0 => ⟨vin (by omega) (by omega), ?_⟩⟩
      · have z2 : v = nI 2 := by
          rw [k2, nx_eq (by omega) (by omega)] at z0 z1 ⊢
          omega
        rw [if_neg z0, if_neg z1, if_pos z2]
        exact useV (mBits_ok hwf _ (hok.at j1).1 μ1) ⟨_, rfl, rfl, h1⟩
      · rw [if_neg z0, if_pos z1]
        exact ⟨_, rfl, rfl, h1⟩
      · rw [if_pos z0]
        exact ⟨_, rfl, rfl, h1⟩
    · rw [if_neg (fun z => q2 (by rw [z]; decide)), if_neg (fun z => q2 (by rw [z]; decide)), if_neg (fun z => q2 (by rw [z]; decide))]
      exact useMBad hwf _ h1
