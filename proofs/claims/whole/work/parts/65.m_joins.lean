/-! the reference: joins -/
theorem sI_pre (r : Nat) : nI r - nI 1 = sI r := by
  cases r with
  | zero => decide
  | succ n =>
    show nI (n + 1) - nI 1 = nI n
    rw [nx_sub (by omega), Nat.add_sub_cancel]
theorem sI_0 : sI 0 < 0 := mI_lt 0 (by omega)
theorem sI_s (n : Nat) (h : n < 2147483648) : ¬ sI (n + 1) < 0 := nx_neg h
abbrev hgQ (rs : List RG) (r q : Nat) : Prop := kd rs q = kd rs r ∧ ¬ ra rs q = rb rs q ∧ ra rs q ≤ rb rs r ∧ ra rs r ≤ rb rs q
theorem mHangsBy_ok {lay : List Nat} (hwf : wfB lay = true) (d : Nat) {μ : Mem} {m : Nat} {T : TS} (hT : MTe μ m T) (hw : WT T) {r : Nat} (hr : r < T.1.length) : Rn lay (d + 1) mM_hangsBy [rf 16 m, vi (nI r)] μ (Pq fun v μ1 => μ1 = μ ∧ ((v = mI 0 ∧ ∀ q, q < r → ¬ hgQ T.1 r q) ∨ ∃ q, q < r ∧ v = nI q ∧ hgQ T.1 r q)) := by
  have hn := hw.1.1
  have hL := hw.2.1
  obtain ⟨e1, e2, e3⟩ := hT.2.2.1 r hr
  obtain ⟨b1, b2, b3⟩ := hw.1.at hr
  have hv : vp_in (nI r) 9 := vin (by omega) (by omega)
  refine Rn_intro ok_M_hangsBy hwf rfl (fun G hC => g_M_hangsBy_0 hC ?_)
  rw [sI_pre]
  have loop : ∀ k (by' : Int32), k ≤ r → ((by' = mI 0 ∧ ∀ q, k ≤ q → q < r → ¬ hgQ T.1 r q) ∨ ∃ q, q < r ∧ by' = nI q ∧ hgQ T.1 r q) → G 6 [rf 16 m, vi (nI r), vi by', vi (sI k), un] [] μ := by
    intro k
    induction k with
    | zero =>
      intro by' hk hb
      refine g_M_hangsBy_6 hC ⟨fun _ => ⟨_, rfl, rfl, ?_⟩, fun z => absurd sI_0 z⟩
      rcases hb with q | q
      · exact Or.inl ⟨q.1, fun j hj => q.2 j (by omega) hj⟩
      · exact Or.inr q
    | succ k ih =>
      intro by' hk hb
      have hkl : k < T.1.length := by omega
      obtain ⟨f1, f2, f3⟩ := hT.2.2.1 k hkl
      obtain ⟨c1, c2, c3⟩ := hw.1.at hkl
      have hv2 : vp_in (nI k) 9 := vin (by omega) (by omega)
      -- it isn't one
      have nope : ¬ hgQ T.1 r k → G 67 [rf 16 m, vi (nI r), vi by', vi (nI k), un] [] μ := fun w => by
        refine g_M_hangsBy_67 hC ?_
        rw [sI_next]
        refine ih by' (by omega) ?_
        rcases hb with q | q
        · refine Or.inl ⟨q.1, fun j j1 j2 => ?_⟩
          by_cases e : j = k
          · rw [e]; exact w
          · exact q.2 j (by omega) j2
        · exact Or.inr q
      refine g_M_hangsBy_6 hC ⟨fun z => absurd z (sI_s k (by omega)), fun _ => ?_⟩
      show vp_in (nI k) 9 ∧ _
      simp (disch := omega) only [show sI (k + 1) = nI k from rfl, nx_cl, f1, f2, f3, e1, e2, e3, nx_eq, nx_lt, sI_next]
      refine ⟨hv2, hv, fun z => nope (fun y => z y.1), fun z => useV (mIsEmpty_T hwf d hT hw hkl) ?_⟩
      simp (disch := omega) only [bI_eq0, nx_cl, f2, f3, e2, e3, nx_lt]
      refine ⟨fun z2 => nope (fun y => y.2.1 (Classical.not_not.mp z2)), fun z2 => ⟨hv2, hv, fun z3 => nope (fun y => by have := y.2.2.1; omega), fun z3 => ⟨hv, hv2, fun z4 => nope (fun y => by have := y.2.2.2; omega), fun z4 => ?_⟩⟩⟩
      exact ih _ (by omega) (Or.inr ⟨k, by omega, rfl, z, z2, by omega, by omega⟩)
  exact loop r (mI 0) (Nat.le_refl _) (Or.inl ⟨rfl, fun q h1 h2 => by omega⟩)
theorem mHangsOn_ok {lay : List Nat} (hwf : wfB lay = true) (d : Nat) {μ : Mem} {m k : Nat} {T : TS} (hT : MTe μ m T) (hw : WT T) (hk : k < 4) : Rn lay (d + 2) mM_hangsOn [rf 16 m, vi (nI k)] μ (Pq fun v μ1 => μ1 = μ ∧ ((v = mI 0 ∧ ∀ r, r < T.1.length → kd T.1 r = k → ¬ ra T.1 r = rb T.1 r → ∀ q, q < r → ¬ hgQ T.1 r q) ∨ ∃ r, r < T.1.length ∧ v = nI r ∧ kd T.1 r = k ∧ ¬ ra T.1 r = rb T.1 r ∧ ∃ q, q < r ∧ hgQ T.1 r q)) := by
  have hn := hw.1.1
  refine Rn_intro ok_M_hangsOn hwf rfl (fun G hC => g_M_hangsOn_0 hC ?_)
  rw [hT.1, sI_pre]
  have loop : ∀ n (wh : Int32), n ≤ T.1.length → ((wh = mI 0 ∧ ∀ r, n ≤ r → r < T.1.length → kd T.1 r = k → ¬ ra T.1 r = rb T.1 r → ∀ q, q < r → ¬ hgQ T.1 r q) ∨ ∃ r, r < T.1.length ∧ wh = nI r ∧ kd T.1 r = k ∧ ¬ ra T.1 r = rb T.1 r ∧ ∃ q, q < r ∧ hgQ T.1 r q) → G 9 [rf 16 m, vi (nI k), vi wh, vi (sI n)] [] μ := by
    intro n
    induction n with
    | zero =>
      intro wh hl hb
      refine g_M_hangsOn_9 hC ⟨fun _ => ⟨_, rfl, rfl, ?_⟩, fun z => absurd sI_0 z⟩
      rcases hb with q | q
      · exact Or.inl ⟨q.1, fun r hr => q.2 r (by omega) hr⟩
      · exact Or.inr q
    | succ n ih =>
      intro wh hl hb
      have hnl : n < T.1.length := by omega
      obtain ⟨f1, f2, f3⟩ := hT.2.2.1 n hnl
      obtain ⟨c1, c2, c3⟩ := hw.1.at hnl
      have hv : vp_in (nI n) 9 := vin (by omega) (by omega)
      have nope : (kd T.1 n = k → ¬ ra T.1 n = rb T.1 n → ∀ q, q < n → ¬ hgQ T.1 n q) → G 9 [rf 16 m, vi (nI k), vi wh, vi (sI n)] [] μ := fun w => by
        refine ih wh (by omega) ?_
        rcases hb with q | q
        · refine Or.inl ⟨q.1, fun j j1 j2 => ?_⟩
          by_cases e : j = n
          · rw [e]; exact w
          · exact q.2 j (by omega) j2
        · exact Or.inr q
      refine g_M_hangsOn_9 hC ⟨fun z => absurd z (sI_s n (by omega)), fun _ => ?_⟩
      simp (disch := omega) only [show sI (n + 1) = nI n from rfl, nx_cl, f1, nx_eq, sI_next]
      refine ⟨hv, fun z => nope (fun y => absurd y z), fun z => useV (mIsEmpty_T hwf _ hT hw hnl) ?_⟩
      rw [bI_eq0]
      refine ⟨fun z2 => nope (fun _ y => absurd (Classical.not_not.mp z2) y), fun z2 => ?_⟩
      refine useQ (mHangsBy_ok hwf d hT hw hnl) (fun v μ1 hp => ?_)
      obtain ⟨rfl, hp⟩ := hp
      refine ⟨fun z3 => nope ?_, fun z3 => ?_⟩
      · rcases hp with p | ⟨q, q1, q2, q3⟩
        · exact fun _ _ => p.2
        · rw [q2] at z3
          exact absurd z3.symm (mI_ne (by omega) (by omega))
      · rcases hp with p | ⟨q, q1, q2, q3⟩
        · exact absurd p.1 z3
        · exact ih _ (by omega) (Or.inr ⟨n, hnl, rfl, z, z2, q, q1, q3⟩)
  exact loop T.1.length (mI 0) (Nat.le_refl _) (Or.inl ⟨rfl, fun r h1 h2 => by omega⟩)
theorem mJoins_ok {lay : List Nat} (hwf : wfB lay = true) (d : Nat) {μ : Mem} {m : Nat} {S : XS} (h : MAt μ m S) (v : Int32) : Rn lay (d + 3) mM_joins [rf 16 m, vi v] μ (if 0 ≤ v.toInt ∧ v.toInt < 4 then PM m (nI S.1.1.length - nI (joinX (tN v) S.1.1).length) (xSet S (joinX (tN v) S.1.1, S.1.2)) else PM m (mI 1) (xBad S)) := by
  refine Rn_intro ok_M_joins hwf rfl (fun G hC => g_M_joins_0 hC ?_)
  have hw := h.2.2.2.2.2.1
  have hnc := h.2.2.2.2.2.2.1
  have hn := hw.1.1
  have hL := hw.2.1
  refine useV (mIsKind_ok hwf _ v μ) ?_
  rw [bI_eq0]
  refine ⟨fun q => ?_, fun q => ?_⟩
  · have q := Classical.not_not.mp q
    rw [if_pos q] at hC
    obtain ⟨k, k1, k2, k3⟩ := nat_of q.1
    have ek : tN v = k := by unfold tN; rw [k3]; rfl
    rw [ek] at hC
    rw [k3] at q
    rw [k2]
    refine useNotes hwf _ h (fun μ1 t1 t2 t3 => ?_)
    obtain ⟨x1, x2⟩ := joinX_nf (k := k) hw.1
    have loop : ∀ n (rs : List RG) (μ' : Mem) (w : Int32), rs.length ≤ n → rs.length ≤ S.1.1.length → MMid μ' m S → MTe μ' m (rs, S.1.2) → WR S.1.2.1 rs ∧ NC rs → JJ k S.1.1 rs → ((w = mI 0 ∧ ∀ r, r < rs.length → kd rs r = k → ¬ ra rs r = rb rs r → ∀ q, q < r → ¬ hgQ rs r q) ∨ ∃ r, r < rs.length ∧ w = nI r ∧ kd rs r = k ∧ ¬ ra rs r = rb rs r ∧ ∃ q, q < r ∧ hgQ rs r q) → G 24 [rf 16 m, vi (nI k), vi (nI (S.1.1.length - rs.length)), vi w, un] [] μ' := by
      intro n
      induction n with
      | zero =>
        intro rs μ' w hl hl2 hx hT hW hJ hb
        rcases hb with ⟨b1, b2⟩ | ⟨r, r1, _⟩
        · refine g_M_joins_24 hC ⟨fun _ => ?_, fun z => absurd b1 z⟩
          have e : rs = joinX k S.1.1 := nf_one hw.1 hJ (fun i q h1 h2 h3 hh => b2 q h2 (by have := hh.2.2.1; omega) hh.2.1 i h1 ⟨hh.2.2.1, hh.1, hh.2.2.2.1, hh.2.2.2.2⟩) x1 x2
          rw [← e]
          exact ⟨_, rfl, by rw [nx_sub hl2], hx.fin hT ⟨hW.1, hw.2⟩ hW.2⟩
        · omega
      | succ n ih =>
        intro rs μ' w hl hl2 hx hT hW hJ hb
        have h8 := hW.1.1
        rcases hb with ⟨b1, b2⟩ | ⟨r, r1, r2, r3, r4, q0, q1, q2⟩
        · refine g_M_joins_24 hC ⟨fun _ => ?_, fun z => absurd b1 z⟩
          have e : rs = joinX k S.1.1 := nf_one hw.1 hJ (fun i q h1 h2 h3 hh => b2 q h2 (by have := hh.2.2.1; omega) hh.2.1 i h1 ⟨hh.2.2.1, hh.1, hh.2.2.2.1, hh.2.2.2.2⟩) x1 x2
          rw [← e]
          exact ⟨_, rfl, by rw [nx_sub hl2], hx.fin hT ⟨hW.1, hw.2⟩ hW.2⟩
        · have hWT : WT (rs, S.1.2) := ⟨hW.1, hw.2⟩
          subst r2
          refine g_M_joins_24 hC ⟨fun z => absurd z.symm (mI_ne (by omega) (by omega)), fun _ => ?_⟩
          refine useQ (mHangsBy_ok hwf _ hT hWT r1) (fun y μ2 hp => ?_)
          obtain ⟨rfl, hp⟩ := hp
          rcases hp with ⟨_, p⟩ | ⟨q, qr, qy, qh⟩
          · exact absurd q2 (p q0 q1)
          · subst qy
            have qh : kd rs q = kd rs r ∧ ¬ ra rs q = rb rs q ∧ ra rs q ≤ rb rs r ∧ ra rs r ≤ rb rs q := qh
            have hql : q < rs.length := by omega
            obtain ⟨_, e1, e2⟩ := hT.2.2.1 r r1
            obtain ⟨_, f1, f2⟩ := hT.2.2.1 q hql
            obtain ⟨_, b2, b3⟩ := hW.1.at r1
            obtain ⟨_, c2, c3⟩ := hW.1.at hql
            have e1 : μ2.1 (m + 3) r = nI (ra rs r) := e1
            have e2 : μ2.1 (m + 4) r = nI (rb rs r) := e2
            have f1 : μ2.1 (m + 3) q = nI (ra rs q) := f1
            have f2 : μ2.1 (m + 4) q = nI (rb rs q) := f2
            have hv : vp_in (nI r) 9 := vin (by omega) (by omega)
            have hv2 : vp_in (nI q) 9 := vin (by omega) (by omega)
            have hh : hangB rs q r := ⟨qh.2.1, r4, qh.1, qh.2.2.1, qh.2.2.2⟩
            have hkq : kd rs q = k := by omega
            have hm := mrg_wrnc rs q r hW qr r1 hh
            have hj := JJ.mrg hw.1 hJ qr r1 hh hkq
            have hml := mrg_len (r := q) r1
            -- the two ends are set: then the one goes, and the next is sought
            have fin : ∀ y z, y = (if ra rs r < ra rs q then ra rs r else ra rs q) → z = (if rb rs q < rb rs r then rb rs r else rb rs q) → (∃ P116 : PT, Rn lay (d + 2) mM_goes [rf 16 m, vi (nI r)] (upI (upI μ2 (m + 3) q (nI y)) (m + 4) q (nI z)) P116 ∧ ∀ μ116 : Mem, P116 none μ116 → (∃ P124 : PT, Rn lay (d + 2) mM_hangsOn [rf 16 m, vi (nI k)] μ116 P124 ∧ ∀ (x124 : Int32) (μ124 : Mem), P124 (some (vi x124)) μ124 → G 24 [rf 16 m, vi (nI k), vi (nI (S.1.1.length - rs.length) + nI 1), vi x124, un] [] μ124)) := by
              intro y z hy hz
              have s1 := mte_set (a := y) (b := z) hT hql
              have s1 : MTe (upI (upI μ2 (m + 3) q (nI y)) (m + 4) q (nI z)) m (rs.set q (kd rs q, y, z), S.1.2) := s1
              refine useN (mGoes_ok hwf _ s1 (by show (rs.set q (kd rs q, y, z)).length ≤ 9; rw [List.length_set]; omega) (j := r) (by show r < (rs.set q (kd rs q, y, z)).length; rw [List.length_set]; exact r1)) (fun μ3 hp => ?_)
              obtain ⟨u1, u2⟩ := hp
              have em : (rs.set q (kd rs q, y, z)).eraseIdx r = mrg rs q r := by rw [hy, hz]; rfl
              have u1 : MTe μ3 m ((rs.set q (kd rs q, y, z)).eraseIdx r, S.1.2) := u1
              rw [em] at u1
              refine useQ (mHangsOn_ok hwf d u1 ⟨hm.1, hw.2⟩ (by omega)) (fun w μ4 hp => ?_)
              obtain ⟨rfl, hp⟩ := hp
              have := ih (mrg rs q r) μ4 w (by omega) (by omega) (hx.fr ((((FM.rf _ [m + 2, m + 3, m + 4] [2] _).up (by simp) (by omega)).up (by simp) (by omega)).tr u2) (by simp) (by simp)) u1 hm hj hp
              rw [nI_add, show S.1.1.length - rs.length + 1 = S.1.1.length - (mrg rs q r).length by omega]
              exact this
            have g74 : ∀ y, y = (if ra rs r < ra rs q then ra rs r else ra rs q) → G 74 [rf 16 m, vi (nI k), vi (nI (S.1.1.length - rs.length)), vi (nI r), vi (nI q)] [vi (nI y), vi (nI q), rf 10009 (m + 3)] μ2 := fun y hy => by
              refine g_M_joins_74 hC ?_
              simp (disch := omega) only [nx_cl, up_n1, e2, f2, nx_le]
              refine ⟨hv2, hv, hv2, fun z => ⟨hv2, hv2, fin y _ hy ?_⟩, fun z => ⟨hv, hv2, fin y _ hy ?_⟩⟩
              · rw [if_neg (by omega)]
              · rw [if_pos (by omega)]
            simp (disch := omega) only [nx_cl, e1, f1, nx_le]
            refine ⟨hv, hv2, fun z => ⟨hv2, g74 _ ?_⟩, fun z => ⟨hv, g74 _ ?_⟩⟩
            · rw [if_neg (by omega)]
            · rw [if_pos (by omega)]
    refine useQ (mHangsOn_ok hwf d t1 hw (by omega)) (fun w μ2 hp => ?_)
    obtain ⟨rfl, hp⟩ := hp
    have := loop S.1.1.length S.1.1 μ2 w (Nat.le_refl _) (Nat.le_refl _) t2 t1 ⟨hw.1, hnc⟩ (JJ.rf hw.1) hp
    rw [Nat.sub_self] at this
    exact this
  · rw [if_neg q]
    exact useMBad hwf _ h
