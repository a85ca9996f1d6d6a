/-! splits -/
def spU (T : TS) (k : Nat) : Nat → Nat
  | 0 => 0
  | r + 1 => spU T k r + (if kd T.1 r = k then fS (pcF r) (ndT T) (ndT T).length - 1 else 0)
def spB (ns : List Nd) (rs : List RG) (k : Nat) : Nat → List RG
  | 0 => rs
  | r + 1 => if kd rs r = k then (brk ns r (spB ns rs k r) ns.length).1 else spB ns rs k r
theorem spU_mono (T : TS) (k : Nat) : ∀ r n, r ≤ n → spU T k r ≤ spU T k n
  | r, 0, h => by
    have : r = 0 := by omega
    rw [this]
    exact Nat.le_refl _
  | r, n + 1, h => by
    rcases Nat.lt_or_eq_of_le h with q | q
    · have := spU_mono T k r n (by omega)
      show spU T k r ≤ spU T k n + _
      omega
    · rw [q]
      exact Nat.le_refl _
theorem brk_s (ns : List Nd) (r : Nat) (rs : List RG) (k : Nat) : brk ns r rs (k + 1) = if (ns.getD k nd0).1 = r ∧ (ns.getD k nd0).2.1 < (ns.getD k nd0).2.2.1 then (if (brk ns r rs k).2 = true then (brk ns r rs k).1.set r (kd (brk ns r rs k).1 r, (ns.getD k nd0).2.1, (ns.getD k nd0).2.2.1) else (brk ns r rs k).1 ++ [(kd (brk ns r rs k).1 r, (ns.getD k nd0).2.1, (ns.getD k nd0).2.2.1)], false) else brk ns r rs k := rfl
theorem fS_s (f : Nd → Nat) (ns : List Nd) (k : Nat) : fS f ns (k + 1) = fS f ns k + f (ns.getD k nd0) := rfl
theorem brk_fl (ns : List Nd) (r : Nat) (rs : List RG) (hr : r < rs.length) : ∀ K, (brk ns r rs K).1.length = rs.length + (fS (pcF r) ns K - 1) ∧ ((brk ns r rs K).2 = true → fS (pcF r) ns K = 0 ∧ (brk ns r rs K).1 = rs) ∧ (¬ (brk ns r rs K).2 = true → 0 < fS (pcF r) ns K) ∧ ∀ i, i < rs.length → i ≠ r → el (brk ns r rs K).1 i = el rs i
  | 0 => ⟨rfl, fun _ => ⟨rfl, rfl⟩, fun q => absurd rfl q, fun _ _ _ => rfl⟩
  | K + 1 => by
    obtain ⟨i1, i2, i3, i4⟩ := brk_fl ns r rs hr K
    rw [brk_s, fS_s]
    by_cases h : (ns.getD K nd0).1 = r ∧ (ns.getD K nd0).2.1 < (ns.getD K nd0).2.2.1
    · have hp : pcF r (ns.getD K nd0) = 1 := if_pos h
      rw [if_pos h, hp]
      by_cases hb : (brk ns r rs K).2 = true
      · obtain ⟨b1, b2⟩ := i2 hb
        rw [if_pos hb, b1]
        refine ⟨by show (List.set _ _ _).length = _; rw [List.length_set, i1, b1], fun q => (by cases q), fun _ => by omega, fun i hi hne => ?_⟩
        show el (List.set _ _ _) i = _
        rw [b2, el_set hr, if_neg hne]
      · have := i3 hb
        rw [if_neg hb]
        refine ⟨by show (_ ++ [_]).length = _; rw [List.length_append, i1, List.length_singleton]; omega, fun q => (by cases q), fun _ => by omega, fun i hi hne => ?_⟩
        show el (_ ++ [_]) i = _
        rw [el_app (by omega)]
        exact i4 i hi hne
    · have hp : pcF r (ns.getD K nd0) = 0 := if_neg h
      rw [if_neg h, hp, Nat.add_zero]
      exact ⟨i1, i2, i3, i4⟩
/-- pieces of r over the place p -/
def pvF (r p : Nat) : Nd → Nat := fun x => if x.1 = r ∧ x.2.1 < x.2.2.1 then (if x.2.1 ≤ p ∧ p < x.2.2.1 then 1 else 0) else 0
theorem brk_cnt (ns : List Nd) (r p : Nat) (rs : List RG) (hr : r < rs.length) : ∀ K, ((brk ns r rs K).1.filter (cvr p)).length + (if (brk ns r rs K).2 = true then 0 else (if cvr p (el rs r) = true then 1 else 0)) = (rs.filter (cvr p)).length + fS (pvF r p) ns K
  | 0 => rfl
  | K + 1 => by
    have ih := brk_cnt ns r p rs hr K
    obtain ⟨i1, i2, i3, i4⟩ := brk_fl ns r rs hr K
    rw [brk_s, fS_s]
    by_cases h : (ns.getD K nd0).1 = r ∧ (ns.getD K nd0).2.1 < (ns.getD K nd0).2.2.1
    · have hp : pvF r p (ns.getD K nd0) = (if cvr p (kd (brk ns r rs K).1 r, (ns.getD K nd0).2.1, (ns.getD K nd0).2.2.1) = true then 1 else 0) := by
        unfold pvF
        rw [if_pos h]
        by_cases w : (ns.getD K nd0).2.1 ≤ p ∧ p < (ns.getD K nd0).2.2.1
        · rw [if_pos w, if_pos (cvr_t.mpr w)]
        · rw [if_neg w, if_neg (fun q => w (cvr_t.mp q))]
      rw [if_pos h, hp]
      by_cases hb : (brk ns r rs K).2 = true
      · obtain ⟨b1, b2⟩ := i2 hb
        rw [if_pos hb] at ih
        rw [if_pos hb]
        show ((List.set (brk ns r rs K).1 r _).filter (cvr p)).length + (if false = true then 0 else _) = _
        rw [if_neg (by simp)]
        have := cnt_st (cvr p) (kd (brk ns r rs K).1 r, (ns.getD K nd0).2.1, (ns.getD K nd0).2.2.1) (brk ns r rs K).1 r (by omega)
        rw [b2] at this ih ⊢
        omega
      · rw [if_neg hb] at ih
        rw [if_neg hb]
        show (((brk ns r rs K).1 ++ [_]).filter (cvr p)).length + (if false = true then 0 else _) = _
        rw [if_neg (by simp), List.filter_append, List.length_append]
        by_cases w : cvr p (kd (brk ns r rs K).1 r, (ns.getD K nd0).2.1, (ns.getD K nd0).2.2.1) = true
        · rw [if_pos w, List.filter_cons, if_pos w]
          show _ + 1 + _ = _
          omega
        · rw [if_neg w, List.filter_cons, if_neg w]
          show _ + 0 + _ = _
          omega
    · have hp : pvF r p (ns.getD K nd0) = 0 := if_neg h
      rw [if_neg h, hp]
      exact ih
theorem fS_one {f : Nd → Nat} {ns : List Nd} : ∀ {n : Nat}, (∀ i, i < n → f (ns.getD i nd0) ≤ 1) → (∀ i j, i < n → j < n → i ≠ j → f (ns.getD i nd0) = 0 ∨ f (ns.getD j nd0) = 0) → fS f ns n ≤ 1
  | 0, _, _ => Nat.zero_le _
  | n + 1, h1, h2 => by
    have ih := fS_one (f := f) (ns := ns) (n := n) (fun i hi => h1 i (by omega)) (fun i j hi hj hne => h2 i j (by omega) (by omega) hne)
    rw [fS_s]
    have h3 := h1 n (by omega)
    rcases Nat.eq_zero_or_pos (f (ns.getD n nd0)) with q | q
    · omega
    · have : fS f ns n ≤ 0 * n := fS_le (fun k hk => by
        rcases h2 k n (by omega) (by omega) (by omega) with w | w <;> omega)
      omega
/-- over a place lies one piece of a range at most, and none where the range doesn't -/
theorem pv_le {T : TS} (hw : WT T) (hnc : NC T.1) {r p : Nat} : fS (pvF r p) (ndT T) (ndT T).length ≤ (if cvr p (el T.1 r) = true then 1 else 0) := by
  obtain ⟨op, dp, c, a1, a2, a3, a4, a5, a6, a7, a8⟩ := ndT_NI hw hnc
  by_cases hc : cvr p (el T.1 r) = true
  · rw [if_pos hc]
    refine fS_one (fun i hi => ?_) (fun i j hi hj hne => ?_)
    · unfold pvF
      split
      · split <;> omega
      · omega
    · unfold pvF
      by_cases w1 : ((ndT T).getD i nd0).1 = r ∧ ((ndT T).getD i nd0).2.1 < ((ndT T).getD i nd0).2.2.1
      · by_cases w2 : ((ndT T).getD j nd0).1 = r ∧ ((ndT T).getD j nd0).2.1 < ((ndT T).getD j nd0).2.2.1
        · rw [if_pos w1, if_pos w2]
          have := a5 i j hi hj hne w1.2 w2.2 (w1.1.trans w2.1.symm)
          have : ((ndT T).getD i nd0).2.2.1 ≤ ((ndT T).getD j nd0).2.1 ∨ ((ndT T).getD j nd0).2.2.1 ≤ ((ndT T).getD i nd0).2.1 := this
          by_cases u1 : ((ndT T).getD i nd0).2.1 ≤ p ∧ p < ((ndT T).getD i nd0).2.2.1
          · rw [if_neg (show ¬ (((ndT T).getD j nd0).2.1 ≤ p ∧ p < ((ndT T).getD j nd0).2.2.1) by omega)]
            exact Or.inr rfl
          · rw [if_neg u1]
            exact Or.inl rfl
        · rw [if_neg w2]
          exact Or.inr rfl
      · rw [if_neg w1]
        exact Or.inl rfl
  · rw [if_neg hc]
    have : fS (pvF r p) (ndT T) (ndT T).length ≤ 0 * (ndT T).length := fS_le (fun k hk => by
      unfold pvF
      by_cases w1 : ((ndT T).getD k nd0).1 = r ∧ ((ndT T).getD k nd0).2.1 < ((ndT T).getD k nd0).2.2.1
      · rw [if_pos w1]
        obtain ⟨⟨p1, p2, p3, p4⟩, _⟩ := a4 k hk w1.2
        have p2 : ra T.1 ((ndT T).getD k nd0).1 ≤ ((ndT T).getD k nd0).2.1 := p2
        have p3 : ((ndT T).getD k nd0).2.2.1 ≤ rb T.1 ((ndT T).getD k nd0).1 := p3
        rw [w1.1] at p2 p3
        rw [if_neg]
        · exact Nat.le_refl _
        · intro u
          exact hc (cvr_t.mpr ⟨by show ra T.1 r ≤ p; omega, by show p < rb T.1 r; omega⟩)
      · rw [if_neg w1]
        exact Nat.le_refl _)
    omega
theorem pv_pc (r p : Nat) (ns : List Nd) : ∀ n, fS (pvF r p) ns n ≤ fS (pcF r) ns n
  | 0 => Nat.le_refl _
  | n + 1 => by
    have := pv_pc r p ns n
    rw [fS_s, fS_s]
    have : pvF r p (ns.getD n nd0) ≤ pcF r (ns.getD n nd0) := by
      unfold pvF pcF
      split
      · split <;> omega
      · omega
    omega
theorem spB_s (ns : List Nd) (rs : List RG) (k r : Nat) : spB ns rs k (r + 1) = if kd rs r = k then (brk ns r (spB ns rs k r) ns.length).1 else spB ns rs k r := rfl
/-- of the ranges behind the first r broken up: how many, which are as they were, what they cover -/
theorem spB_at {T : TS} (hw : WT T) (hnc : NC T.1) (k : Nat) : ∀ r, r ≤ T.1.length → (spB (ndT T) T.1 k r).length = T.1.length + spU T k r ∧ (∀ i, r ≤ i → i < T.1.length → el (spB (ndT T) T.1 k r) i = el T.1 i) ∧ ∀ p, ((spB (ndT T) T.1 k r).filter (cvr p)).length ≤ (T.1.filter (cvr p)).length
  | 0, _ => ⟨rfl, fun _ _ _ => rfl, fun _ => Nat.le_refl _⟩
  | r + 1, h => by
    obtain ⟨i1, i2, i3⟩ := spB_at hw hnc k r (by omega)
    have eU : spU T k (r + 1) = spU T k r + (if kd T.1 r = k then fS (pcF r) (ndT T) (ndT T).length - 1 else 0) := rfl
    rw [spB_s, eU]
    by_cases hk : kd T.1 r = k
    · rw [if_pos hk, if_pos hk]
      have hr : r < (spB (ndT T) T.1 k r).length := by omega
      obtain ⟨b1, b2, b3, b4⟩ := brk_fl (ndT T) r (spB (ndT T) T.1 k r) hr (ndT T).length
      refine ⟨by omega, fun i h1 h2 => ?_, fun p => ?_⟩
      · rw [b4 i (by omega) (by omega)]
        exact i2 i (by omega) h2
      · have hcn := brk_cnt (ndT T) r p (spB (ndT T) T.1 k r) hr (ndT T).length
        have h3 := i3 p
        have h4 := pv_le hw hnc (r := r) (p := p)
        have h5 := pv_pc r p (ndT T) (ndT T).length
        rw [i2 r (Nat.le_refl _) (by omega)] at hcn
        by_cases hb : (brk (ndT T) r (spB (ndT T) T.1 k r) (ndT T).length).2 = true
        · rw [if_pos hb] at hcn
          have := (b2 hb).1
          omega
        · rw [if_neg hb] at hcn
          omega
    · rw [if_neg hk, if_neg hk]
      exact ⟨by omega, fun i h1 h2 => i2 i (by omega) h2, i3⟩
theorem mx_nI {a : Nat} (ha : a < 2147483648) : (if nI 0 < nI a - nI 1 then nI a - nI 1 else nI 0) = nI (a - 1) := by
  rcases Nat.eq_zero_or_pos a with q | q
  · subst q
    decide
  · rw [nx_sub (by omega)]
    by_cases h : 0 < a - 1
    · rw [if_pos (by rw [nx_lt (by omega) (by omega)]; exact h)]
    · rw [if_neg (by rw [nx_lt (by omega) (by omega)]; exact h), show a - 1 = 0 by omega]
theorem spU_le {T : TS} (hB : ndB T.2.1 (ndT T)) (k : Nat) : ∀ r, spU T k r ≤ 100 * r
  | 0 => Nat.le_refl _
  | r + 1 => by
    have ih := spU_le hB k r
    have eU : spU T k (r + 1) = spU T k r + (if kd T.1 r = k then fS (pcF r) (ndT T) (ndT T).length - 1 else 0) := rfl
    have h1 : fS (pcF r) (ndT T) (ndT T).length ≤ 1 * (ndT T).length := fS_le (fun k _ => by
      unfold pcF
      split <;> omega)
    have := hB.1
    rw [eU]
    split <;> omega
theorem splits_ok {lay : List Nat} (hwf : wfB lay = true) (d : Nat) {μ : Mem} {x : Nat} {S : XS} (h : XAt μ x S) (v : Int32) : Rn lay (d + 10) mX_splits [rf 15 x, vi v] μ (if 0 ≤ v.toInt ∧ v.toInt < 4 then (if S.1.1.length + spU S.1 (tN v) S.1.1.length ≤ 8 then PX x (nI (spU S.1 (tN v) S.1.1.length)) (xSet S (spB (ndT S.1) S.1.1 (tN v) S.1.1.length, S.1.2)) else PX x (mI 3) (xFull S)) else PX x (mI 1) (xBad S)) := by
  refine Rn_intro ok_X_splits hwf rfl (fun G hC => g_X_splits_0 hC ?_)
  have hw := h.2.2.2.2.2.1.1
  have hnc := h.2.2.2.2.2.1.2.1
  have hn := hw.1.1
  have hL := hw.2.1
  have hB := ndT_B hw hnc
  refine useV (isKind_ok hwf _ v μ) ?_
  rw [bI_eq0]
  refine ⟨fun q => ?_, fun q => ?_⟩
  · have q := Classical.not_not.mp q
    rw [if_pos q] at hC
    obtain ⟨k, k1, k2, k3⟩ := nat_of q.1
    have ek : tN v = k := by unfold tN; rw [k3]; rfl
    rw [ek] at hC
    rw [k3] at q
    rw [k2]
    refine useNest hwf d h (fun μ1 h1 hN => ?_)
    have hu := spU_le hB k
    have l2 : ∀ n r (μ' : Mem), r + n = S.1.1.length → XAt μ' x S → NdAt μ' (x + 115) (ndT S.1) → TeAt μ' (x + 6) (spB (ndT S.1) S.1.1 k r, S.1.2) → WR S.1.2.1 (spB (ndT S.1) S.1.1 k r) → S.1.1.length + spU S.1 k S.1.1.length ≤ 8 → G 105 [rf 15 x, vi (nI k), vi (nI (spU S.1 k S.1.1.length)), vi (nI r)] [] μ' := by
      intro n
      induction n with
      | zero =>
        intro r μ' hr hx hND hT hW h8
        refine g_X_splits_105 hC ?_
        rw [hx.1.1, nx_le (by omega) (by omega)]
        refine ⟨fun _ => ?_, fun z => absurd (by omega) z⟩
        refine g_X_splits_153 hC ?_
        have er : r = S.1.1.length := by omega
        subst er
        have hcn := (spB_at hw hnc k S.1.1.length (Nat.le_refl _))
        rw [if_pos h8]
        refine useSettle hwf (d + 7) hx hT ⟨hW, hw.2⟩ (fun p => ?_) (fun μ3 q3 => ⟨_, rfl, rfl, q3⟩)
        rw [pop_cvr (by rw [hcn.1]; exact h8)]
        have h2 := hnc p
        rw [pop_cvr hn] at h2
        exact Nat.le_trans (hcn.2.2 p) h2
      | succ n ih =>
        intro r μ' hr hx hND hT hW h8
        refine g_X_splits_105 hC ?_
        have hrl : r < S.1.1.length := by omega
        have hkr := (hw.1.at hrl).1
        rw [hx.1.1, nx_le (by omega) (by omega), nx_le (by omega) (by omega), nx_in' (by omega) (by omega), nx_cl (by omega), (hx.1.2.2.1 r hrl).1, nx_eq (by omega) (by omega), nI_add]
        refine ⟨fun z => absurd z (by omega), fun _ => ⟨fun z => absurd z (by omega), fun _ => ⟨by omega, fun z => ?_, fun z => ?_⟩⟩⟩
        · have e : spB (ndT S.1) S.1.1 k (r + 1) = spB (ndT S.1) S.1.1 k r := by rw [spB_s, if_neg z]
          exact ih (r + 1) μ' (by omega) hx hND (by rw [e]; exact hT) (by rw [e]; exact hW) h8
        · have e : spB (ndT S.1) S.1.1 k (r + 1) = (brk (ndT S.1) r (spB (ndT S.1) S.1.1 k r) (ndT S.1).length).1 := by rw [spB_s, if_pos z]
          obtain ⟨b1, _⟩ := spB_at hw hnc k (r + 1) (by omega)
          obtain ⟨c1, _⟩ := spB_at hw hnc k r (by omega)
          have hm := spU_mono S.1 k (r + 1) S.1.1.length (by omega)
          rw [e] at b1
          refine useN (breakUp_ok hwf (d + 7) (U := (spB (ndT S.1) S.1.1 k r, S.1.2)) hND hB hT ⟨hW, hw.2⟩ (by show r < (spB (ndT S.1) S.1.1 k r).length; omega) (by omega) (by show (brk (ndT S.1) r (spB (ndT S.1) S.1.1 k r) (ndT S.1).length).1.length ≤ 8; omega)) (fun μ2 hp => ?_)
          obtain ⟨p1, p2, p3⟩ := hp
          refine ih (r + 1) μ2 (by omega) (hx.trial p3) ?_ (by rw [e]; exact p1) (by rw [e]; exact p2) h8
          have hfr : ∀ b, x + 115 ≤ b → μ2.1 b = μ'.1 b := fun b hb => p3.1 b (by simp; omega)
          refine ⟨by rw [hfr _ (by omega)]; exact hND.1, fun j hj => ?_⟩
          rw [hfr (x + 115 + 6) (by omega), hfr (x + 115 + 7) (by omega), hfr (x + 115 + 8) (by omega), hfr (x + 115 + 9) (by omega), hfr (x + 115 + 10) (by omega)]
          exact hND.2 j hj
    have l1 : ∀ n r (μ' : Mem), r + n = S.1.1.length → XAt μ' x S → NdAt μ' (x + 115) (ndT S.1) → G 20 [rf 15 x, vi (nI k), vi (nI (spU S.1 k r)), vi (nI r)] [] μ' := by
      intro n
      induction n with
      | zero =>
        intro r μ' hr hx hND
        refine g_X_splits_20 hC ?_
        rw [hx.1.1, nx_le (by omega) (by omega)]
        refine ⟨fun _ => ?_, fun z => absurd (by omega) z⟩
        refine g_X_splits_73 hC ?_
        have er : r = S.1.1.length := by omega
        subst er
        have hu2 := hu S.1.1.length
        rw [hx.1.1, nI_add, nx_le (by omega) (by omega)]
        refine ⟨fun z => ?_, fun z => ?_⟩
        · refine useN (copy_ok hwf _ (t := x + 6) hx.1 hw (by omega)) (fun μ2 hp => ?_)
          obtain ⟨p1, p2⟩ := hp
          refine l2 S.1.1.length 0 μ2 (by omega) (hx.trial p2) ?_ p1 hw.1 z
          have hfr : ∀ b, x + 115 ≤ b → μ2.1 b = μ'.1 b := fun b hb => p2.1 b (by simp; omega)
          refine ⟨by rw [hfr _ (by omega)]; exact hND.1, fun j hj => ?_⟩
          rw [hfr (x + 115 + 6) (by omega), hfr (x + 115 + 7) (by omega), hfr (x + 115 + 8) (by omega), hfr (x + 115 + 9) (by omega), hfr (x + 115 + 10) (by omega)]
          exact hND.2 j hj
        · rw [if_neg z]
          exact useFull hwf _ hx
      | succ n ih =>
        intro r μ' hr hx hND
        refine g_X_splits_20 hC ?_
        have hrl : r < S.1.1.length := by omega
        have hkr := (hw.1.at hrl).1
        have hur := hu r
        rw [hx.1.1, nx_le (by omega) (by omega), nx_le (by omega) (by omega), nx_in' (by omega) (by omega), nx_cl (by omega), (hx.1.2.2.1 r hrl).1, nx_eq (by omega) (by omega), nI_add]
        have eU : spU S.1 k (r + 1) = spU S.1 k r + (if kd S.1.1 r = k then fS (pcF r) (ndT S.1) (ndT S.1).length - 1 else 0) := rfl
        refine ⟨fun z => absurd z (by omega), fun _ => ⟨fun z => absurd z (by omega), fun _ => ⟨by omega, fun z => ?_, fun z => ?_⟩⟩⟩
        · have := ih (r + 1) μ' (by omega) hx hND
          rw [eU, if_neg z] at this
          exact this
        · have h1 : fS (pcF r) (ndT S.1) (ndT S.1).length ≤ 1 * (ndT S.1).length := fS_le (fun k _ => by
            unfold pcF
            split <;> omega)
          have h83 := hB.1
          refine useV (piecesOf_ok hwf _ hND hB hL (by omega)) ?_
          rw [mx_nI (by omega), nI_add]
          have := ih (r + 1) μ' (by omega) hx hND
          rw [eU, if_pos z] at this
          exact this
    exact l1 S.1.1.length 0 μ1 (by omega) h1 hN.2.2.1
  · rw [if_neg q]
    exact useBad hwf _ h
