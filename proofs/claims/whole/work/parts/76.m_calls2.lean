/-! the reference: calls that look at nodes -/
theorem useNodes {lay : List Nat} (hwf : wfB lay = true) (d : Nat) {μ : Mem} {m : Nat} {S : XS} (h : MAt μ m S) {K : Mem → Prop} (k : ∀ μ1, MAt μ1 m S → NdF μ1 m (ndT S.1).length (na (ndT S.1)) → K μ1) : ∃ P : PT, Rn lay (d + 6) mM_setNodes [rf 16 m] μ P ∧ ∀ μ1 : Mem, P none μ1 → K μ1 := by
  refine useN (mSetNodes_ok hwf d h.1 h.2.2.2.2.2.1 h.2.2.2.2.2.2.1) (fun μ1 hp => ?_)
  exact k μ1 (h.fr hp.2) hp.1
theorem mNodes_ok {lay : List Nat} (hwf : wfB lay = true) (d : Nat) {μ : Mem} {m : Nat} {S : XS} (h : MAt μ m S) : Rn lay (d + 7) mM_nodes [rf 16 m] μ (PM m (nI (ndT S.1).length) S) := by
  refine Rn_intro ok_M_nodes hwf rfl (fun G hC => g_M_nodes_0 hC ?_)
  exact useNodes hwf d h (fun μ1 h1 hN => ⟨_, rfl, hN.1, h1⟩)
theorem mTellsN_ok {lay : List Nat} (hwf : wfB lay = true) (d : Nat) {μ : Mem} {m n k v : Nat} {F : Nat → Nd} (hN : NdF μ m n F) (hn : n ≤ 128) (hk : k < n) (hv : v ≤ 4) : Rn lay d mM_nodeTells [rf 16 m, vi (nI k), vi (nI v)] μ (Pv (ndI (F k) v) μ) := by
  refine Rn_intro ok_M_nodeTells hwf rfl (fun G hC => g_M_nodeTells_0 hC ?_)
  obtain ⟨h1, h2, h3, h4, h5⟩ := hN.2 k hk
  have hvk : vp_in (nI k) 128 := vin (by omega) (by omega)
  rw [nx_cl (by omega), h1, h2, h3, h4, h5, nx_eq (by omega) (by omega), nx_eq (by omega) (by omega), nx_eq (by omega) (by omega), nx_eq (by omega) (by omega)]
  unfold ndI
  refine ⟨fun y => ⟨hvk, pv_e (by rw [if_pos y])⟩, fun y0 => ⟨fun y => ⟨hvk, pv_e (by rw [if_neg y0, if_pos y])⟩, fun y1 => ⟨fun y => ⟨hvk, pv_e (by rw [if_neg y0, if_neg y1, if_pos y])⟩, fun y2 => ⟨fun y => ⟨hvk, pv_e (by rw [if_neg y0, if_neg y1, if_neg y2, if_pos y])⟩, fun y3 => ⟨hvk, pv_e (by rw [if_neg y0, if_neg y1, if_neg y2, if_neg y3])⟩⟩⟩⟩⟩
theorem mNode_ok {lay : List Nat} (hwf : wfB lay = true) (d : Nat) {μ : Mem} {m : Nat} {S : XS} (h : MAt μ m S) (n v : Int32) : Rn lay (d + 7) mM_node [rf 16 m, vi n, vi v] μ (if 0 ≤ n.toInt ∧ 0 ≤ v.toInt ∧ v.toInt ≤ 4 then (if tN n < (ndT S.1).length then PM m (ndI ((ndT S.1).getD (tN n) nd0) (tN v)) S else PM m (mI 0) S) else PM m (mI 1) (xBad S)) := by
  refine Rn_intro ok_M_node hwf rfl (fun G hC => g_M_node_0 hC ?_)
  have h83 := (ndT_B h.2.2.2.2.2.1 h.2.2.2.2.2.2.1).1
  refine ⟨fun q => ?_, fun q => ?_⟩
  · rw [i_lt, i_0] at q
    rw [if_neg (by omega)]
    exact useMBad hwf _ h
  · rw [i_lt, i_0] at q
    refine useV (min_ok hwf _ _ _ _ μ) ?_
    rw [bI_eq0, ti_lit.1, ti_lit.2.2.2.2.1]
    refine ⟨fun q2 => ?_, fun q2 => ?_⟩
    · have q2 := Classical.not_not.mp q2
      rw [if_pos ⟨by omega, q2⟩]
      obtain ⟨j, j1, j2, j3⟩ := nat_of (v := n) (by omega)
      obtain ⟨k, k1, k2, k3⟩ := nat_of q2.1
      have ej : tN n = j := by unfold tN; rw [j3]; rfl
      have ek : tN v = k := by unfold tN; rw [k3]; rfl
      rw [k3] at q2
      rw [ej, ek, j2, k2]
      refine useNodes hwf d h (fun μ1 h1 hN => ?_)
      rw [hN.1, nx_le (by omega) (by omega)]
      refine ⟨fun z => ?_, fun z => ?_⟩
      · rw [if_neg (by omega)]
        exact ⟨_, rfl, rfl, h1⟩
      · rw [if_pos (by omega)]
        exact useV (mTellsN_ok hwf _ hN (by omega) (by omega) (by omega)) ⟨_, rfl, rfl, h1⟩
    · rw [if_neg (fun z => q2 z.2)]
      exact useMBad hwf _ h
/-- a node's range, and whether it is a piece, by whether its range is empty -/
theorem nd_em {T : TS} (hw : WT T) (hnc : NC T.1) {k : Nat} (hk : k < (ndT T).length) : (na (ndT T) k).1 < T.1.length ∧ ((na (ndT T) k).2.1 < (na (ndT T) k).2.2.1 ↔ ¬ ra T.1 (na (ndT T) k).1 = rb T.1 (na (ndT T) k).1) := by
  obtain ⟨op, dp, cc, a1, a2, a3, a4, a5, a6, a7, a8⟩ := ndT_NI hw hnc
  by_cases hpc : (na (ndT T) k).2.1 < (na (ndT T) k).2.2.1
  · obtain ⟨⟨u1, u2, u3, u4⟩, _⟩ := a4 k hk hpc
    exact ⟨u1, ⟨fun _ w => by omega, fun _ => hpc⟩⟩
  · obtain ⟨⟨u1, u2, u3, u4, u5⟩, _⟩ := a6 k hk hpc
    exact ⟨u2, ⟨fun w => absurd w hpc, fun w => absurd (by omega) w⟩⟩
def alF (w : Nat) : Nd → Nat := fun x => if w = 0 then x.2.2.2.1 else if w = 1 then x.2.2.2.1 else if w = 2 then emF x else if w = 3 then x.2.2.1 - x.2.1 else noF x
def alU (ns : List Nd) (w k : Nat) : Nat := if w = 0 ∨ w = 3 then fM (alF w) ns k else fS (alF w) ns k
theorem alU_all (ns : List Nd) {w : Nat} (hw : w ≤ 4) : alU ns w ns.length = allN ns w := by
  rcases (show w = 0 ∨ w = 1 ∨ w = 2 ∨ w = 3 ∨ w = 4 by omega) with e | e | e | e | e <;> subst e <;> rfl
theorem alF_le {L : Nat} {ns : List Nd} (hB : ndB L ns) (hL : L ≤ 90) (w : Nat) {k : Nat} (hk : k < ns.length) : alF w (na ns k) ≤ 90 := by
  obtain ⟨_, b2, b3, b4⟩ := hB.2 k hk
  have b2 : (na ns k).2.1 ≤ (na ns k).2.2.1 := b2
  have b3 : (na ns k).2.2.1 ≤ L := b3
  have b4 : (na ns k).2.2.2.1 ≤ 5 := b4
  unfold alF emF noF
  split
  · omega
  · split
    · omega
    · split
      · split <;> omega
      · split
        · omega
        · split <;> omega
theorem mAll_ok {lay : List Nat} (hwf : wfB lay = true) (d : Nat) {μ : Mem} {m : Nat} {S : XS} (h : MAt μ m S) (v : Int32) : Rn lay (d + 7) mM_all [rf 16 m, vi v] μ (if 0 ≤ v.toInt ∧ v.toInt ≤ 4 then PM m (nI (allN (ndT S.1) (tN v))) S else PM m (mI 1) (xBad S)) := by
  refine Rn_intro ok_M_all hwf rfl (fun G hC => g_M_all_0 hC ?_)
  have hw := h.2.2.2.2.2.1
  have hnc := h.2.2.2.2.2.2.1
  have hL := hw.2.1
  have hB := ndT_B hw hnc
  have h83 := hB.1
  refine useV (min_ok hwf _ _ _ _ μ) ?_
  rw [bI_eq0, ti_lit.1, ti_lit.2.2.2.2.1]
  refine ⟨fun q => ?_, fun q => ?_⟩
  · have q := Classical.not_not.mp q
    rw [if_pos q] at hC
    obtain ⟨w, w1, w2, w3⟩ := nat_of q.1
    have ew : tN v = w := by unfold tN; rw [w3]; rfl
    rw [w3] at q
    have hw4 : w ≤ 4 := by omega
    rw [ew, ← alU_all (ndT S.1) hw4] at hC
    rw [w2]
    refine useNodes hwf d h (fun μ1 h1 hN => ?_)
    have hub : ∀ k, k ≤ (ndT S.1).length → alU (ndT S.1) w k ≤ 90 * 83 := fun k hk => by
      unfold alU
      split
      · exact Nat.le_trans (fM_le (B := 90) (fun j hj => alF_le hB hL w (by omega))) (by omega)
      · have := fS_le (f := alF w) (ns := ndT S.1) (B := 90) (n := k) (fun j hj => alF_le hB hL w (by omega))
        omega
    have loop : ∀ c k, k + c = (ndT S.1).length → G 22 [rf 16 m, vi (nI w), vi (nI (alU (ndT S.1) w k)), vi (nI k), un, un, un] [] μ1 := by
      intro c
      induction c with
      | zero =>
        intro k hk
        refine g_M_all_22 hC ?_
        rw [hN.1, nx_le (by omega) (by omega)]
        refine ⟨fun _ => ⟨_, rfl, by rw [show k = (ndT S.1).length by omega], h1⟩, fun z => absurd (by omega) z⟩
      | succ c ih =>
        intro k hk
        have hkl : k < (ndT S.1).length := by omega
        obtain ⟨n1, n2, n3, n4, n5⟩ := hN.2 k hkl
        obtain ⟨m1, m2⟩ := nd_em hw hnc hkl
        have hvk : vp_in (nI k) 128 := vin (by omega) (by omega)
        have hal := alF_le hB hL w hkl
        have hu1 := hub k (by omega)
        have hu2 := hub (k + 1) (by omega)
        obtain ⟨b1, b2, b3, b4⟩ := hB.2 k hkl
        have b2 : (na (ndT S.1) k).2.1 ≤ (na (ndT S.1) k).2.2.1 := b2
        have b3 : (na (ndT S.1) k).2.2.1 ≤ S.1.2.1 := b3
        have b4 : (na (ndT S.1) k).2.2.2.1 ≤ 5 := b4
        have ih := ih (k + 1) (by omega)
        -- the last step of a turn
        have s116 : ∀ by' mo, (w = 0 ∨ w = 3 → mo = alF w (na (ndT S.1) k)) → (¬ (w = 0 ∨ w = 3) → by' = alF w (na (ndT S.1) k)) → by' ≤ 90 → mo ≤ 90 → G 116 [rf 16 m, vi (nI w), vi (nI (alU (ndT S.1) w k)), vi (nI k), un, vi (nI by'), un] [vi (nI mo)] μ1 := by
          intro by' mo hm hs hb1 hb2
          refine g_M_all_116 hC ?_
          rw [nx_0, nx_eq (by omega) (by omega), nx_eq (by omega) (by omega), nI_add, nI_add, nx_le (by omega) (by omega)]
          have eM : w = 0 ∨ w = 3 → alU (ndT S.1) w (k + 1) = if alU (ndT S.1) w k < mo then mo else alU (ndT S.1) w k := fun hh => by
            unfold alU
            rw [if_pos hh, if_pos hh, hm hh]
            rfl
          have eS : ¬ (w = 0 ∨ w = 3) → alU (ndT S.1) w (k + 1) = alU (ndT S.1) w k + by' := fun hh => by
            unfold alU
            rw [if_neg hh, if_neg hh, hs hh]
            rfl
          refine ⟨fun z => ⟨fun z2 => ?_, fun z2 => ?_⟩, fun z => ⟨fun z2 => ?_, fun z2 => ⟨fun z3 => ?_, fun z3 => ?_⟩⟩⟩
          · rw [eM (Or.inl z), if_neg (by omega)] at ih
            exact ih
          · rw [eM (Or.inl z), if_pos (by omega)] at ih
            exact ih
          · rw [eS (fun x => x.elim z z2)] at ih
            exact ih
          · rw [eM (Or.inr z2), if_neg (by omega)] at ih
            exact ih
          · rw [eM (Or.inr z2), if_pos (by omega)] at ih
            exact ih
        have s88 : ∀ by', (¬ (w = 0 ∨ w = 3) → by' = alF w (na (ndT S.1) k)) → by' ≤ 90 → G 88 [rf 16 m, vi (nI w), vi (nI (alU (ndT S.1) w k)), vi (nI k), un, un, un] [vi (nI by')] μ1 := by
          intro by' hs hb1
          refine g_M_all_88 hC ?_
          rw [nx_0, nx_eq (by omega) (by omega), nx_cl (by omega), n2, n3, n4, nx_sub b2]
          refine ⟨fun z => ⟨hvk, hvk, s116 by' _ (fun hh => ?_) hs hb1 (by omega)⟩, fun z => ⟨hvk, s116 by' _ (fun _ => ?_) hs hb1 (by omega)⟩⟩
          · have e : w = 3 := hh.resolve_left z
            subst e
            rfl
          · subst z
            rfl
        refine g_M_all_22 hC ?_
        rw [hN.1, nx_le (by omega) (by omega), nx_cl (by omega), n1]
        refine ⟨fun z => absurd z (by omega), fun _ => ⟨hvk, useV (mIsEmpty_T hwf _ h1.1 hw m1) ?_⟩⟩
        rw [bI_eq0, nx_eq (by omega) (by omega), nx_eq (by omega) (by omega), n4, nx_0, nx_eq (by omega) (by omega)]
        refine ⟨fun z => ⟨fun z2 => ⟨hvk, fun z3 => s88 0 (fun hh => ?_) (by omega), fun z3 => s88 1 (fun hh => ?_) (by omega)⟩, fun z2 => ⟨fun z3 => s88 0 (fun hh => ?_) (by omega), fun z3 => s88 1 (fun hh => ?_) (by omega)⟩⟩, fun z => ⟨hvk, s88 _ (fun hh => ?_) (by omega)⟩⟩
        · have e : w = 4 := by
            have : ¬ w = 0 := fun x => hh (Or.inl x)
            have : ¬ w = 3 := fun x => hh (Or.inr x)
            omega
          subst e
          show 0 = noF (na (ndT S.1) k)
          unfold noF
          rw [if_neg z3]
        · have e : w = 4 := by
            have : ¬ w = 0 := fun x => hh (Or.inl x)
            have : ¬ w = 3 := fun x => hh (Or.inr x)
            omega
          subst e
          show 1 = noF (na (ndT S.1) k)
          unfold noF
          rw [if_pos z3]
        · subst z2
          show 0 = emF (na (ndT S.1) k)
          unfold emF
          rw [if_pos (m2.mpr z3)]
        · subst z2
          show 1 = emF (na (ndT S.1) k)
          unfold emF
          rw [if_neg (fun x => m2.mp x (Classical.not_not.mp z3))]
        · subst z
          rfl
    have e0 : alU (ndT S.1) w 0 = 0 := by
      unfold alU
      split <;> rfl
    have := loop (ndT S.1).length 0 (by omega)
    rw [e0] at this
    exact this
  · rw [if_neg q]
    exact useMBad hwf _ h
theorem mPiecesOf_ok {lay : List Nat} (hwf : wfB lay = true) (d : Nat) {μ : Mem} {m r : Nat} {T : TS} (hT : MTe μ m T) (hw : WT T) (hnc : NC T.1) (hN : NdF μ m (ndT T).length (na (ndT T))) (hr : r < T.1.length) : Rn lay (d + 1) mM_piecesOf [rf 16 m, vi (nI r)] μ (Pv (nI (fS (pcF r) (ndT T) (ndT T).length)) μ) := by
  have hn := hw.1.1
  have hB := ndT_B hw hnc
  have h83 := hB.1
  refine Rn_intro ok_M_piecesOf hwf rfl (fun G hC => g_M_piecesOf_0 hC ?_)
  have loop : ∀ c k, k + c = (ndT T).length → G 4 [rf 16 m, vi (nI r), vi (nI (fS (pcF r) (ndT T) k)), vi (nI k)] [] μ := by
    intro c
    induction c with
    | zero =>
      intro k hk
      refine g_M_piecesOf_4 hC ?_
      rw [hN.1, nx_le (by omega) (by omega)]
      exact ⟨fun _ => pv_e (by rw [show k = (ndT T).length by omega]), fun z => absurd (by omega) z⟩
    | succ c ih =>
      intro k hk
      have hkl : k < (ndT T).length := by omega
      obtain ⟨m1, m2⟩ := nd_em hw hnc hkl
      have ih := ih (k + 1) (by omega)
      rw [fS_s] at ih
      refine g_M_piecesOf_4 hC ?_
      rw [hN.1, nx_le (by omega) (by omega), nx_cl (by omega), (hN.2 k hkl).1, nx_eq (by omega) (by omega), nI_add, nI_add, nI_add]
      refine ⟨fun z => absurd z (by omega), fun _ => ⟨vin (by omega) (by omega), fun z => ?_, fun z => useV (mIsEmpty_T hwf _ hT hw hr) ?_⟩⟩
      · have e : pcF r ((ndT T).getD k nd0) = 0 := if_neg (fun x => z x.1)
        rw [e] at ih
        exact ih
      · rw [z] at m2
        rw [bI_eq0]
        refine ⟨fun z2 => ?_, fun z2 => ?_⟩
        · have e : pcF r ((ndT T).getD k nd0) = 0 := if_neg (fun x => m2.mp x.2 (Classical.not_not.mp z2))
          rw [e] at ih
          exact ih
        · have e : pcF r ((ndT T).getD k nd0) = 1 := if_pos ⟨z, m2.mpr z2⟩
          rw [e] at ih
          exact ih
  exact loop _ 0 (Nat.zero_add _)
theorem mPiecesC_ok {lay : List Nat} (hwf : wfB lay = true) (d : Nat) {μ : Mem} {m r : Nat} {S : XS} (h : MAt μ m S) (hr : r < S.1.1.length) : Rn lay (d + 7) mM_pieces [rf 16 m, vi (nI r)] μ (PM m (nI (fS (pcF r) (ndT S.1) (ndT S.1).length)) S) := by
  refine Rn_intro ok_M_pieces hwf rfl (fun G hC => g_M_pieces_0 hC ?_)
  exact useNodes hwf d h (fun μ1 h1 hN => useV (mPiecesOf_ok hwf _ h1.1 h.2.2.2.2.2.1 h.2.2.2.2.2.2.1 hN hr) ⟨_, rfl, rfl, h1⟩)
theorem mOf_ok {lay : List Nat} (hwf : wfB lay = true) (d : Nat) {μ : Mem} {m : Nat} {S : XS} (h : MAt μ m S) (r v : Int32) : Rn lay (d + 8) mM_of [rf 16 m, vi r, vi v] μ (if 0 ≤ r.toInt ∧ r.toInt < S.1.1.length then (if v = nI 0 then PM m (nI (kd S.1.1 (tN r))) S else if v = nI 1 then PM m (nI (ra S.1.1 (tN r))) S else if v = nI 2 then PM m (nI (rb S.1.1 (tN r))) S else if v = nI 3 then PM m (nI (fS (pcF (tN r)) (ndT S.1) (ndT S.1).length)) S else if v = nI 4 then PM m (nI (xsU S.1.1 (tN r) S.1.1.length)) S else PM m (mI 1) (xBad S)) else PM m (mI 1) (xBad S)) := by
  refine Rn_intro ok_M_of hwf rfl (fun G hC => g_M_of_0 hC ?_)
  have hw := h.2.2.2.2.2.1
  have hn := hw.1.1
  refine useV (mIsRange_ok hwf _ h.1 hn r) ?_
  rw [bI_eq0]
  refine ⟨fun q => ?_, fun q => ?_⟩
  · rw [if_neg q]
    exact useMBad hwf _ h
  · have q := Classical.not_not.mp q
    rw [if_pos q]
    obtain ⟨j, j1, j2, j3⟩ := ix_of q (by omega)
    have ej : tN r = j := j3
    rw [ej, j2]
    refine useV (min_ok hwf _ _ _ _ μ) ?_
    rw [bI_eq0, ti_lit.1, ti_lit.2.2.2.2.1]
    obtain ⟨e1, e2, e3⟩ := h.1.2.2.1 j j1
    refine ⟨fun q2 => ?_, fun q2 => ?_⟩
    · have q2 := Classical.not_not.mp q2
      rw [nx_cl (by omega), e1, e2, e3]
      have hv : vp_in (nI j) 9 := vin (by omega) (by omega)
      refine ⟨fun y => ?_, fun y0 => ⟨fun y => ?_, fun y1 => ⟨fun y => ?_, fun y2 => ⟨fun y => ?_, fun y3 => ?_⟩⟩⟩⟩
      · rw [if_pos y]
        exact ⟨hv, _, rfl, rfl, h⟩
      · rw [if_neg y0, if_pos y]
        exact ⟨hv, _, rfl, rfl, h⟩
      · rw [if_neg y0, if_neg y1, if_pos y]
        exact ⟨hv, _, rfl, rfl, h⟩
      · rw [if_neg y0, if_neg y1, if_neg y2, if_pos y]
        exact useQ (mPiecesC_ok hwf d h j1) (fun v μ1 hp => ⟨_, rfl, hp⟩)
      · obtain ⟨k, k1, k2, k3⟩ := nat_of q2.1
        have y4 : v = nI 4 := by
          rw [k3] at q2
          rw [k2, nx_eq (by omega) (by omega)] at y0 y1 y2 y3 ⊢
          omega
        rw [if_neg y0, if_neg y1, if_neg y2, if_neg y3, if_pos y4]
        exact useV (mAcross_ok hwf _ h.1 hw j1) ⟨_, rfl, rfl, h⟩
    · rw [if_neg (fun z => q2 (by rw [z]; decide)), if_neg (fun z => q2 (by rw [z]; decide)), if_neg (fun z => q2 (by rw [z]; decide)), if_neg (fun z => q2 (by rw [z]; decide)), if_neg (fun z => q2 (by rw [z]; decide))]
      exact useMBad hwf _ h
theorem mTells_ok {lay : List Nat} (hwf : wfB lay = true) (d : Nat) {μ : Mem} {m i : Nat} {S : XS} (h : MAt μ m S) (hi : i < 8) : Rn lay (d + 2) mM_tells [rf 16 m, vi (nI i)] μ (PM m (toldV S i) S) := by
  refine Rn_intro ok_M_tells hwf rfl (fun G hC => g_M_tells_0 hC ?_)
  have hw := h.2.2.2.2.2.1
  have hnc := h.2.2.2.2.2.2.1
  obtain ⟨hcl, hvl, hok, hrk⟩ := nest_f hw hnc
  obtain ⟨⟨t1, t2, t3, t4⟩, ⟨u1, u2, u3⟩, r0, r1, r2, hx⟩ := h
  have h : MAt μ m S := ⟨⟨t1, t2, t3, t4⟩, ⟨u1, u2, u3⟩, r0, r1, r2, hx⟩
  unfold toldV
  rw [nx_le (by omega) (by omega), nx_eq (by omega) (by omega), nx_eq (by omega) (by omega), nx_eq (by omega) (by omega), nx_eq (by omega) (by omega), c012.1, c012.2.1, c012.2.2.1, c012.2.2.2, t4 0 (by omega), t4 1 (by omega), t4 2 (by omega), t4 3 (by omega), t1, t2, u1, nx_cl (by omega), pk_mul, pk_mul, pk_mul, nI_add, nI_add, nI_add]
  refine ⟨fun z => ⟨fun z5 => ⟨fun z3 => ⟨fun z4 => ⟨fun z6 => ⟨vin (by omega) (by omega), vin (by omega) (by omega), vin (by omega) (by omega), vin (by omega) (by omega), ?_⟩, fun z6 => ?_⟩, fun z4 => ?_⟩, fun z3 => ?_⟩, fun z5 => ?_⟩, fun z => ⟨vin (by omega) (by omega), ?_⟩⟩
  · rw [if_neg (by omega), if_neg (by omega), if_neg (by omega), if_neg z3, if_neg z4, if_neg z5, if_neg z6]
    exact ⟨_, rfl, rfl, h⟩
  · rw [if_neg (by omega), if_neg (by omega), if_neg (by omega), if_neg z3, if_neg z4, if_neg z5, if_pos z6]
    exact ⟨_, rfl, rfl, h⟩
  · rw [if_neg (by omega), if_neg (by omega), if_neg (by omega), if_neg z3, if_pos z4]
    exact ⟨_, rfl, rfl, h⟩
  · rw [if_neg (by omega), if_neg (by omega), if_neg (by omega), if_pos z3]
    exact ⟨_, rfl, rfl, h⟩
  · rw [if_neg (by omega), if_neg (by omega), if_neg (by omega), if_neg (by omega), if_neg (by omega), if_pos z5]
    have hsc := mSetCuts_ok hwf d h.1 hw 8
    rw [skI_8] at hsc
    refine useN hsc (fun μ1 hp => ?_)
    obtain ⟨p1, p2, p3⟩ := hp
    have p1 : CuM μ1 m (csT S.1) := p1
    exact useV (mSections_ok hwf _ p1.1 hcl) ⟨_, rfl, by rw [hvl], h.fr (p3.mono (by simp) (by simp))⟩
  · rcases (show i = 0 ∨ i = 1 ∨ i = 2 by omega) with e | e | e
    · subst e
      exact ⟨_, rfl, r0, h⟩
    · subst e
      exact ⟨_, rfl, r1, h⟩
    · subst e
      exact ⟨_, rfl, r2, h⟩
theorem chain_told (m : Nat) (S : XS) {i : Nat} (hi : i < 8) : (if nI i = nI 0 then PM m S.2.2.1 S else if nI i = nI 1 then PM m S.2.2.2.1 S else if nI i = nI 2 then PM m S.2.2.2.2 S else if nI i = nI 3 then PM m (nI S.1.1.length) S else if nI i = nI 4 then PM m (nI S.1.2.1) S else if nI i = nI 5 then PM m (nI (cvT S.1).length) S else if nI i = nI 6 then PM m (nI S.2.1.length) S else if nI i = nI 7 then PM m (nI (1000 * S.1.2.2.getD 0 0 + 100 * S.1.2.2.getD 1 0 + 10 * S.1.2.2.getD 2 0 + S.1.2.2.getD 3 0)) S else PM m (mI 1) (xBad S)) = PM m (toldV S i) S := by
  rcases (show i = 0 ∨ i = 1 ∨ i = 2 ∨ i = 3 ∨ i = 4 ∨ i = 5 ∨ i = 6 ∨ i = 7 by omega) with e | e | e | e | e | e | e | e <;> subst e <;> rfl
theorem mTold_ok {lay : List Nat} (hwf : wfB lay = true) (d : Nat) {μ : Mem} {m : Nat} {S : XS} (h : MAt μ m S) (v : Int32) : Rn lay (d + 3) mM_told [rf 16 m, vi v] μ (if v = nI 0 then PM m S.2.2.1 S else if v = nI 1 then PM m S.2.2.2.1 S else if v = nI 2 then PM m S.2.2.2.2 S else if v = nI 3 then PM m (nI S.1.1.length) S else if v = nI 4 then PM m (nI S.1.2.1) S else if v = nI 5 then PM m (nI (cvT S.1).length) S else if v = nI 6 then PM m (nI S.2.1.length) S else if v = nI 7 then PM m (nI (1000 * S.1.2.2.getD 0 0 + 100 * S.1.2.2.getD 1 0 + 10 * S.1.2.2.getD 2 0 + S.1.2.2.getD 3 0)) S else PM m (mI 1) (xBad S)) := by
  refine Rn_intro ok_M_told hwf rfl (fun G hC => g_M_told_0 hC ?_)
  refine useV (min_ok hwf _ _ _ _ μ) ?_
  rw [bI_eq0, ti_lit.1, ti_lit.2.2.2.2.2.1]
  refine ⟨fun q => ?_, fun q => ?_⟩
  · rw [if_neg (fun z => q (by rw [z]; decide)), if_neg (fun z => q (by rw [z]; decide)), if_neg (fun z => q (by rw [z]; decide)), if_neg (fun z => q (by rw [z]; decide)), if_neg (fun z => q (by rw [z]; decide)), if_neg (fun z => q (by rw [z]; decide)), if_neg (fun z => q (by rw [z]; decide)), if_neg (fun z => q (by rw [z]; decide))]
    exact useMBad hwf _ h
  · have q := Classical.not_not.mp q
    obtain ⟨k, k1, k2, k3⟩ := nat_of q.1
    rw [k3] at q
    rw [k2, chain_told m S (by omega)]
    exact useQ (mTells_ok hwf d h (by omega)) (fun v μ1 hp => ⟨_, rfl, hp⟩)
theorem mDigest_ok {lay : List Nat} (hwf : wfB lay = true) (d : Nat) {μ : Mem} {m : Nat} {S : XS} (h : MAt μ m S) : Rn lay (d + 7) mM_digest [rf 16 m] μ (fun r μ1 => r = some (vl (dgV S)) ∧ MAt μ1 m S) := by
  refine Rn_intro ok_M_digest hwf rfl (fun G hC => g_M_digest_0 hC ?_)
  have hn := h.2.2.2.2.2.1.1.1
  have l2 : ∀ k i (μ' : Mem), i + k = S.1.1.length → MAt μ' m S → G 33 [rf 16 m, vl (dgB S i), un, vi (nI i)] [] μ' := by
    intro k
    induction k with
    | zero =>
      intro i μ' hi hx
      refine g_M_digest_33 hC ?_
      rw [hx.1.1, nx_le (by omega) (by omega)]
      refine ⟨fun _ => ?_, fun z => absurd (by omega) z⟩
      refine g_M_digest_89 hC ?_
      have hi : i = S.1.1.length := by omega
      subst hi
      refine useThe hwf (d + 1) hx (fun μ1 h1 _ => ?_)
      refine useNodes hwf d h1 (fun μ2 h2 hN => ?_)
      rw [hN.1]
      exact ⟨rfl, h2⟩
    | succ k ih =>
      intro i μ' hi hx
      refine g_M_digest_33 hC ?_
      obtain ⟨e1, e2, e3⟩ := hx.1.2.2.1 i (by omega)
      have hv : vp_in (nI i) 9 := vin (by omega) (by omega)
      rw [hx.1.1, nx_le (by omega) (by omega), nx_cl (by omega), nI_add, e1, e2, e3]
      exact ⟨fun z => absurd z (by omega), fun _ => ⟨hv, hv, hv, ih (i + 1) μ' (by omega) hx⟩⟩
  have l1 : ∀ k i (μ' : Mem), i + k = 8 → MAt μ' m S → G 6 [rf 16 m, vl (dgA S i), un, vi (nI i)] [] μ' := by
    intro k
    induction k with
    | zero =>
      intro i μ' hi hx
      refine g_M_digest_6 hC ?_
      have hi : i = 8 := by omega
      subst hi
      exact ⟨fun _ => l2 S.1.1.length 0 μ' (by omega) hx, fun z => absurd (by rw [nx_le (by omega) (by omega)]; omega) z⟩
    | succ k ih =>
      intro i μ' hi hx
      refine g_M_digest_6 hC ?_
      rw [nx_le (by omega) (by omega), nI_add]
      refine ⟨fun z => absurd z (by omega), fun _ => useQ (mTells_ok hwf _ hx (by omega)) (fun y μ1 hp => ?_)⟩
      obtain ⟨e1, h1⟩ := hp
      subst e1
      exact ih (i + 1) μ1 (by omega) h1
  exact l1 8 0 μ (by omega) h
