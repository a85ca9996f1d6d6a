/-! NestRanges: the state, and the calls -/
/-- the text, the texts kept (newest first), the three counters -/
abbrev XS := TS × List TS × Int32 × Int32 × Int32
def okX (S : XS) : Prop := WT S.1 ∧ NC S.1.1 ∧ ∀ T ∈ S.2.1, NC T.1
def XAt (μ : Mem) (x : Nat) (S : XS) : Prop := TeAt μ (x + 1) S.1 ∧ HiAt μ (x + 11) S.2.1 ∧ μ.1 x 7 = S.2.2.1 ∧ μ.1 x 8 = S.2.2.2.1 ∧ μ.1 x 9 = S.2.2.2.2 ∧ okX S ∧ (μ.1 x 6 = nI 0 ∨ (μ.1 x 6 = nI 1 ∧ NestIs μ x S.1))
def xBad (S : XS) : XS := (S.1, S.2.1, S.2.2.1 + nI 1, S.2.2.2.1, S.2.2.2.2)
def xNo (S : XS) : XS := (S.1, S.2.1, S.2.2.1, S.2.2.2.1 + nI 1, S.2.2.2.2)
def xFull (S : XS) : XS := (S.1, S.2.1, S.2.2.1, S.2.2.2.1, S.2.2.2.2 + nI 1)
def xSet (S : XS) (U : TS) : XS := (U, (S.1 :: S.2.1).take 12, S.2.2)
theorem NestIs.fr {μ μ1 : Mem} {x : Nat} {T : TS} (h : NestIs μ x T) (hf : ∀ b, x + 115 ≤ b → μ1.1 b = μ.1 b) : NestIs μ1 x T := by
  obtain ⟨h1, h2, h3, h4, h5, h6⟩ := h
  refine ⟨h1.fr (fun b hb => hf b ?_), fun s hs => by rw [hf _ (by omega)]; exact h2 s hs, ⟨by rw [hf _ (by omega)]; exact h3.1, fun k hk => ?_⟩, by rw [hf _ (by omega)]; exact h4, by rw [hf _ (by omega)]; exact h5, by rw [hf _ (by omega)]; exact h6⟩
  · simp at hb
    omega
  · rw [hf (x + 115 + 6) (by omega), hf (x + 115 + 7) (by omega), hf (x + 115 + 8) (by omega), hf (x + 115 + 9) (by omega), hf (x + 115 + 10) (by omega)]
    exact h3.2 k hk
theorem HiAt.fr {μ μ1 : Mem} {h : Nat} {hist : List TS} (hh : HiAt μ h hist) (hf : ∀ b, h ≤ b → b < h + 62 → μ1.1 b = μ.1 b) : HiAt μ1 h hist := by
  obtain ⟨nx, h1, h2, h3, h4, h5⟩ := hh
  have e := hf h (by omega) (by omega)
  refine ⟨nx, h1, by rw [e]; exact h2, by rw [e]; exact h3, h4, fun j T hj => ?_⟩
  obtain ⟨a, b⟩ := h5 j T hj
  refine ⟨a.fr (fun c hc => hf c ?_ ?_), b⟩ <;> (unfold slotH at hc; simp at hc; omega)
/-- a counter of x has changed and nothing else -/
theorem XAt.up {μ : Mem} {x k : Nat} {v : Int32} {S : XS} (h : XAt μ x S) (hk : k ≠ 6) : TeAt (upI μ x k v) (x + 1) S.1 ∧ HiAt (upI μ x k v) (x + 11) S.2.1 ∧ ((upI μ x k v).1 x 6 = nI 0 ∨ ((upI μ x k v).1 x 6 = nI 1 ∧ NestIs (upI μ x k v) x S.1)) := by
  obtain ⟨h1, h2, h3, h4, h5, h6, h7⟩ := h
  refine ⟨h1.fr (fun b hb => up_cell (by simp at hb; omega)), h2.fr (fun b hb _ => up_cell (by omega)), ?_⟩
  rw [up_n2 (by omega)]
  rcases h7 with h7 | ⟨h7, h8⟩
  · exact Or.inl h7
  · exact Or.inr ⟨h7, h8.fr (fun b hb => up_cell (by omega))⟩
theorem XAt.bad {μ : Mem} {x : Nat} {S : XS} (h : XAt μ x S) : XAt (upI μ x 7 (μ.1 x 7 + nI 1)) x (xBad S) := by
  obtain ⟨u1, u2, u3⟩ := h.up (k := 7) (v := μ.1 x 7 + nI 1) (by omega)
  obtain ⟨h1, h2, h3, h4, h5, h6, h7⟩ := h
  exact ⟨u1, u2, by rw [up_at, h3]; rfl, by rw [up_n2 (by omega)]; exact h4, by rw [up_n2 (by omega)]; exact h5, h6, u3⟩
theorem XAt.no {μ : Mem} {x : Nat} {S : XS} (h : XAt μ x S) : XAt (upI μ x 8 (μ.1 x 8 + nI 1)) x (xNo S) := by
  obtain ⟨u1, u2, u3⟩ := h.up (k := 8) (v := μ.1 x 8 + nI 1) (by omega)
  obtain ⟨h1, h2, h3, h4, h5, h6, h7⟩ := h
  exact ⟨u1, u2, by rw [up_n2 (by omega)]; exact h3, by rw [up_at, h4]; rfl, by rw [up_n2 (by omega)]; exact h5, h6, u3⟩
theorem XAt.full {μ : Mem} {x : Nat} {S : XS} (h : XAt μ x S) : XAt (upI μ x 9 (μ.1 x 9 + nI 1)) x (xFull S) := by
  obtain ⟨u1, u2, u3⟩ := h.up (k := 9) (v := μ.1 x 9 + nI 1) (by omega)
  obtain ⟨h1, h2, h3, h4, h5, h6, h7⟩ := h
  exact ⟨u1, u2, by rw [up_n2 (by omega)]; exact h3, by rw [up_n2 (by omega)]; exact h4, by rw [up_at, h5]; rfl, h6, u3⟩
/-- a call answers c and leaves the state S' -/
abbrev PX (x : Nat) (c : Int32) (S : XS) : PT := Pq fun v μ1 => v = c ∧ XAt μ1 x S
theorem useBad {lay : List Nat} (hwf : wfB lay = true) (d : Nat) {μ : Mem} {x : Nat} {S : XS} (h : XAt μ x S) : ∃ P : PT, Rn lay d mX_refuseBad [rf 15 x] μ P ∧ ∀ (v : Int32) (μ1 : Mem), P (some (vi v)) μ1 → PX x (mI 1) (xBad S) (some (vi v)) μ1 := ⟨_, refuseBad_ok hwf d μ x, fun v μ1 hp => by
  obtain ⟨q1, q2⟩ := hp
  cases q1
  subst q2
  exact ⟨_, rfl, rfl, h.bad⟩⟩
theorem useFull {lay : List Nat} (hwf : wfB lay = true) (d : Nat) {μ : Mem} {x : Nat} {S : XS} (h : XAt μ x S) : ∃ P : PT, Rn lay d mX_refuseFull [rf 15 x] μ P ∧ ∀ (v : Int32) (μ1 : Mem), P (some (vi v)) μ1 → PX x (mI 3) (xFull S) (some (vi v)) μ1 := ⟨_, refuseFull_ok hwf d μ x, fun v μ1 hp => by
  obtain ⟨q1, q2⟩ := hp
  cases q1
  subst q2
  exact ⟨_, rfl, rfl, h.full⟩⟩
theorem nc_nil : NC [] := fun p => by
  have : cov [] p = 0 := rfl
  rw [this]
  decide
theorem rk0_lt : ∀ k ∈ rk0, k < 4 := by decide
/-- anew: what it answers is the number of ranges before -/
theorem anew_ok {lay : List Nat} (hwf : wfB lay = true) (d : Nat) {μ : Mem} {x : Nat} {S : XS} (h : XAt μ x S) (v : Int32) : Rn lay (d + 1) mX_anew [rf 15 x, vi v] μ (if 0 ≤ v.toInt ∧ v.toInt ≤ 90 then PX x (nI S.1.1.length) (([], v.toInt.toNat, rk0), [], S.2.2) else PX x (mI 1) (xBad S)) := by
  refine Rn_intro ok_X_anew hwf rfl (fun G hC => g_X_anew_0 hC ?_)
  have e90 : (nI 90).toInt = 90 := by decide
  refine ⟨fun q => ?_, fun q => ⟨fun q2 => ?_, fun q2 => ?_⟩⟩
  · rw [i_lt, i_0] at q
    rw [if_neg (by omega)]
    exact useBad hwf _ h
  · rw [nx_ge0] at q
    obtain ⟨j, j1, j2⟩ := q
    subst j2
    rw [nx_le (by omega) (by omega)] at q2
    rw [nI_ti (by omega), if_pos (by omega), Int.toNat_natCast]
    refine useN (clear_ok hwf _ μ (x + 1)) (fun μ1 hp => ?_)
    obtain ⟨p1, p2⟩ := hp
    have hH : HiAt μ1 (x + 11) S.2.1 := h.2.1.fr (fun b hb _ => p2.1 b (by simp; omega))
    refine useN (forget_ok hwf _ hH) (fun μ2 hp => ?_)
    obtain ⟨p3, p4⟩ := hp
    have e0 : μ2.1 x = μ.1 x := by rw [p4.1 x (by omega), p2.1 x (by simp; omega)]
    obtain ⟨h1, h2, h3, h4, h5, h6, h7⟩ := h
    refine ⟨_, rfl, h1.1, (p1.fi p4 (by omega)).fr (fun b hb => up_cell (by simp at hb; omega)), p3.fr (fun b hb _ => up_cell (by omega)), by rw [up_n2 (by omega), e0]; exact h3, by rw [up_n2 (by omega), e0]; exact h4, by rw [up_n2 (by omega), e0]; exact h5, ⟨⟨⟨by simp, fun r hr => by simp at hr⟩, q2, rfl, rk0_lt⟩, nc_nil, fun T hT => by simp at hT⟩, Or.inl (by rw [up_at])⟩
  · rw [i_le, e90] at q2
    rw [if_neg (by omega)]
    exact useBad hwf _ h
theorem fri_xs {μ μ1 : Mem} {x : Nat} {S : XS} (h : XAt μ x S) (hf : FrX x μ μ1) (h6 : μ1.1 x 6 = nI 0 ∨ (μ1.1 x 6 = nI 1 ∧ NestIs μ1 x S.1)) : XAt μ1 x S := by
  obtain ⟨h1, h2, h3, h4, h5, h7, h8⟩ := h
  exact ⟨h1.fr (fun b hb => hf.1 b (by simp at hb; omega) (by simp at hb; omega)), h2.fr (fun b hb hb2 => hf.1 b (by omega) (by omega)), by rw [hf.2.1 7 (by omega)]; exact h3, by rw [hf.2.1 8 (by omega)]; exact h4, by rw [hf.2.1 9 (by omega)]; exact h5, h7, h6⟩
/-- the nest is made, then K -/
theorem useNest {lay : List Nat} (hwf : wfB lay = true) (d : Nat) {μ : Mem} {x : Nat} {S : XS} (h : XAt μ x S) {K : Mem → Prop} (k : ∀ μ1, XAt μ1 x S → NestIs μ1 x S.1 → K μ1) : ∃ P : PT, Rn lay (d + 9) mX_makeNest [rf 15 x] μ P ∧ ∀ μ1 : Mem, P none μ1 → K μ1 := by
  refine useN (makeNest_ok hwf d h.1 h.2.2.2.2.2.1.1 h.2.2.2.2.2.1.2.1 h.2.2.2.2.2.2) (fun μ1 hp => ?_)
  obtain ⟨a, b, c⟩ := hp
  exact k μ1 (fri_xs h c (Or.inr ⟨a, b⟩)) b
theorem least_ok {lay : List Nat} (hwf : wfB lay = true) (d : Nat) {μ : Mem} {x : Nat} {S : XS} (h : XAt μ x S) : Rn lay (d + 10) mX_least [rf 15 x] μ (PX x (nI (few (rkO S.1) (cvT S.1))) S) := by
  refine Rn_intro ok_X_least hwf rfl (fun G hC => g_X_least_0 hC ?_)
  exact useNest hwf d h (fun μ1 q r => ⟨_, rfl, r.2.2.2.1, q⟩)
/-- undo -/
theorem undo_ok {lay : List Nat} (hwf : wfB lay = true) (d : Nat) {μ : Mem} {x : Nat} {S : XS} (h : XAt μ x S) : Rn lay (d + 2) mX_undo [rf 15 x] μ (match S.2.1 with
    | [] => PX x (mI 2) (xNo S)
    | T :: hist => PX x (nI hist.length) (T, hist, S.2.2)) := by
  refine Rn_intro ok_X_undo hwf rfl (fun G hC => g_X_undo_0 hC ?_)
  obtain ⟨C, hi, c3⟩ := S
  cases hi with
  | nil =>
    refine useV (takeBack_no hwf d h.2.1) ⟨fun q => absurd nx_0.symm q, fun _ => ⟨_, rfl, rfl, h.no⟩⟩
  | cons T hist =>
    refine useQ (takeBack_ok hwf d (u := x + 1) h.2.1 (by omega)) (fun v μ1 hp => ?_)
    obtain ⟨p1, p2, p3, p4, p5, p6⟩ := hp
    subst p1
    refine ⟨fun _ => ?_, fun q => ?_⟩
    · have e0 : μ1.1 x = μ.1 x := p5 x (by omega) (by omega)
      obtain ⟨h1, h2, h3, h4, h5, h6, h7⟩ := h
      have hl : (upI μ1 x 6 (nI 0)).1 (x + 11) 2 = nI hist.length := by
        rw [up_n1 (by omega)]
        obtain ⟨nx, a, b, c, _⟩ := p4
        exact c
      exact ⟨_, rfl, hl, p2.fr (fun b hb => up_cell (by simp at hb; omega)), p4.fr (fun b hb _ => up_cell (by omega)), by rw [up_n2 (by omega), e0]; exact h3, by rw [up_n2 (by omega), e0]; exact h4, by rw [up_n2 (by omega), e0]; exact h5, ⟨p3, h6.2.2 T (by simp), fun U hU => h6.2.2 U (by simp [hU])⟩, Or.inl (by rw [up_at])⟩
    · rw [nx_0, nx_eq (by omega) (by omega)] at q
      omega
theorem ways_ok {lay : List Nat} (hwf : wfB lay = true) (d : Nat) {μ : Mem} {x : Nat} {S : XS} (h : XAt μ x S) : Rn lay (d + 10) mX_ways [rf 15 x] μ (PX x (nI (asf (rkO S.1) (cvT S.1))) S) := by
  refine Rn_intro ok_X_ways hwf rfl (fun G hC => g_X_ways_0 hC ?_)
  exact useNest hwf d h (fun μ1 q r => ⟨_, rfl, r.2.2.2.2.1, q⟩)
theorem plain_ok {lay : List Nat} (hwf : wfB lay = true) (d : Nat) {μ : Mem} {x : Nat} {S : XS} (h : XAt μ x S) : Rn lay (d + 10) mX_plain [rf 15 x] μ (PX x (nI (plU (rkO S.1) (cvT S.1) ((cvT S.1).length - 1))) S) := by
  refine Rn_intro ok_X_plain hwf rfl (fun G hC => g_X_plain_0 hC ?_)
  exact useNest hwf d h (fun μ1 q r => ⟨_, rfl, r.2.2.2.2.2, q⟩)
theorem nodes_ok {lay : List Nat} (hwf : wfB lay = true) (d : Nat) {μ : Mem} {x : Nat} {S : XS} (h : XAt μ x S) : Rn lay (d + 10) mX_nodes [rf 15 x] μ (PX x (nI (ndT S.1).length) S) := by
  refine Rn_intro ok_X_nodes hwf rfl (fun G hC => g_X_nodes_0 hC ?_)
  exact useNest hwf d h (fun μ1 q r => ⟨_, rfl, r.2.2.1.1, q⟩)
/-- what is weighed without a range changes neither the state nor the nest -/
theorem XAt.side {μ μ1 : Mem} {x : Nat} {S : XS} (h : XAt μ x S) (hf : Fri (x + 73) (x + 115) μ μ1) : XAt μ1 x S := by
  refine fri_xs h (FrX.of hf (by omega) (by omega)) ?_
  rw [hf.1 x (by omega)]
  rcases h.2.2.2.2.2.2 with q | ⟨q, r⟩
  · exact Or.inl q
  · exact Or.inr ⟨q, r.fr (fun b hb => hf.1 b (by omega))⟩
theorem free_ok {lay : List Nat} (hwf : wfB lay = true) (d : Nat) {μ : Mem} {x : Nat} {S : XS} (h : XAt μ x S) : Rn lay (d + 10) mX_free [rf 15 x] μ (PX x (nI (few (rkT S.1 true) (cvL S.1.1 8 (cutsOf S.1.1 8)))) S) := by
  refine Rn_intro ok_X_free hwf rfl (fun G hC => g_X_free_0 hC ?_)
  exact useQ (fewestWithout_ok hwf d h.1 h.2.2.2.2.2.1.1 h.2.2.2.2.2.1.2.1 8 true) (fun v μ1 hp => ⟨_, rfl, hp.1, h.side hp.2⟩)
theorem over_ok {lay : List Nat} (hwf : wfB lay = true) (d : Nat) {μ : Mem} {x : Nat} {S : XS} (h : XAt μ x S) (v : Int32) : Rn lay (d + 1) mX_over [rf 15 x, vi v] μ (if 0 ≤ v.toInt ∧ v.toInt < S.1.2.1 then PX x (nI (cov S.1.1 v.toInt.toNat)) S else PX x (mI 1) (xBad S)) := by
  refine Rn_intro ok_X_over hwf rfl (fun G hC => g_X_over_0 hC ?_)
  have hL := h.2.2.2.2.2.1.1.2.1
  rw [h.1.2.1]
  refine ⟨fun q => ?_, fun q => ⟨fun q2 => ?_, fun q2 => ?_⟩⟩
  · rw [i_lt, i_0] at q
    rw [if_neg (by omega)]
    exact useBad hwf _ h
  · rw [nx_ge0] at q
    obtain ⟨j, j1, j2⟩ := q
    subst j2
    rw [nx_lt (by omega) (by omega)] at q2
    rw [nI_ti (by omega), if_pos (by omega), Int.toNat_natCast]
    exact useV (coverAt_ok hwf _ h.1 h.2.2.2.2.2.1.1 j1) ⟨_, rfl, rfl, h⟩
  · rw [i_lt, nI_ti (by omega)] at q2
    rw [if_neg (by omega)]
    exact useBad hwf _ h
/-- the trial text has changed and nothing else -/
theorem XAt.trial {μ μ1 : Mem} {x : Nat} {S : XS} (h : XAt μ x S) (hf : Fr (teC (x + 6)) μ μ1) : XAt μ1 x S := by
  obtain ⟨h1, h2, h3, h4, h5, h6, h7⟩ := h
  have e0 : μ1.1 x = μ.1 x := hf.1 x (by simp; omega)
  refine ⟨h1.far hf (fun b hb hb2 => by simp at hb hb2; omega), h2.fr (fun b hb _ => hf.1 b (by simp; omega)), by rw [e0]; exact h3, by rw [e0]; exact h4, by rw [e0]; exact h5, h6, ?_⟩
  rw [e0]
  rcases h7 with q | ⟨q, r⟩
  · exact Or.inl q
  · exact Or.inr ⟨q, r.fr (fun b hb => hf.1 b (by simp; omega))⟩
theorem useSettle {lay : List Nat} (hwf : wfB lay = true) (d : Nat) {μ : Mem} {x : Nat} {S : XS} {U : TS} (h : XAt μ x S) (hU : TeAt μ (x + 6) U) (hwU : WT U) (hnU : NC U.1) {K : Mem → Prop} (k : ∀ μ1, XAt μ1 x (xSet S U) → K μ1) : ∃ P : PT, Rn lay (d + 2) mX_settle [rf 15 x] μ P ∧ ∀ μ1 : Mem, P none μ1 → K μ1 := by
  obtain ⟨h1, h2, h3, h4, h5, h6, h7⟩ := h
  refine useN (settle_ok hwf d h1 h6.1 hU hwU h2) (fun μ1 hp => ?_)
  obtain ⟨p1, p2, p3, p4, p5⟩ := hp
  refine k μ1 ⟨p1, p2, by rw [p4 7 (by omega)]; exact h3, by rw [p4 8 (by omega)]; exact h4, by rw [p4 9 (by omega)]; exact h5, ⟨hwU, hnU, fun T hT => ?_⟩, Or.inl p3⟩
  have := List.mem_of_mem_take hT
  rcases List.mem_cons.mp this with q | q
  · rw [q]; exact h6.2.1
  · exact h6.2.2 T q
/-- of any int that the text has as a range: it is a number below the count -/
theorem ix_of {v : Int32} {n : Nat} (h : 0 ≤ v.toInt ∧ v.toInt < n) (hn : n < 2147483648) : ∃ j : Nat, j < n ∧ v = nI j ∧ v.toInt.toNat = j := by
  have : ¬ v < 0 := by
    rw [i_lt, i_0]
    omega
  rw [nx_ge0] at this
  obtain ⟨j, j1, j2⟩ := this
  subst j2
  rw [nI_ti j1] at h ⊢
  exact ⟨j, by omega, rfl, by omega⟩
/-- how many ranges lie over p, as the list has them -/
theorem pop_cov {rs : List RG} (hn : rs.length ≤ 8) (p : Nat) : popN (cov rs p) = (rs.filter fun r => decide (r.2.1 ≤ p ∧ p < r.2.2)).length := by
  have e : rs = (List.range rs.length).map (fun j => rs.getD j (0, 0, 0)) := by
    apply List.ext_getElem?
    intro i
    rw [List.getElem?_map]
    rcases Nat.lt_or_ge i rs.length with q | q
    · rw [List.getElem?_range q]
      simp [List.getD_eq_getElem?_getD, List.getElem?_eq_getElem q]
    · rw [List.getElem?_eq_none q, List.getElem?_eq_none (by simpa using q)]
      rfl
  have e2 : (List.range 8) = List.range rs.length ++ (List.range (8 - rs.length)).map (rs.length + ·) := by
    rw [← List.range_add]
    congr 1
    omega
  unfold popN cov
  rw [e2, List.filter_append, List.length_append]
  have z : ((List.range (8 - rs.length)).map (rs.length + ·)).filter (fun j => (covU rs p rs.length).testBit j) = [] := by
    rw [List.filter_eq_nil_iff]
    intro a ha
    rw [List.mem_map] at ha
    obtain ⟨b, _, hb⟩ := ha
    rw [covU_bit]
    simp
    omega
  rw [z]
  conv => rhs; rw [e]
  rw [List.filter_map, List.length_map, List.length_nil, Nat.add_zero]
  congr 1
  apply List.filter_congr
  intro j hj
  rw [covU_bit]
  rw [List.mem_range] at hj
  apply decide_eq_decide.mpr
  exact ⟨fun q => q.2, fun q => ⟨hj, q⟩⟩
theorem nc_erase {rs : List RG} (hn : rs.length ≤ 8) (h : NC rs) (j : Nat) : NC (rs.eraseIdx j) := by
  intro p
  have h1 := h p
  have hs : (rs.eraseIdx j).Sublist rs := List.eraseIdx_sublist rs j
  rw [pop_cov (Nat.le_trans hs.length_le hn)]
  rw [pop_cov hn] at h1
  exact Nat.le_trans (hs.filter _).length_le h1
theorem wr_erase {T : TS} (hw : WT T) (j : Nat) : WT (T.1.eraseIdx j, T.2) := by
  obtain ⟨⟨h1, h2⟩, h3⟩ := hw
  have hs : (T.1.eraseIdx j).Sublist T.1 := List.eraseIdx_sublist T.1 j
  exact ⟨⟨Nat.le_trans hs.length_le h1, fun r hr => h2 r (hs.subset hr)⟩, h3⟩
theorem drop_ok {lay : List Nat} (hwf : wfB lay = true) (d : Nat) {μ : Mem} {x : Nat} {S : XS} (h : XAt μ x S) (v : Int32) : Rn lay (d + 3) mX_drop [rf 15 x, vi v] μ (if 0 ≤ v.toInt ∧ v.toInt < S.1.1.length then PX x (nI (S.1.1.length - 1)) (xSet S (S.1.1.eraseIdx v.toInt.toNat, S.1.2)) else PX x (mI 1) (xBad S)) := by
  refine Rn_intro ok_X_drop hwf rfl (fun G hC => g_X_drop_0 hC ?_)
  have hw := h.2.2.2.2.2.1.1
  have hn := hw.1.1
  refine useV (has_ok hwf _ h.1 hw v) ?_
  rw [bI_eq0]
  refine ⟨fun q => ?_, fun q => ?_⟩
  · have q := Classical.not_not.mp q
    rw [if_pos q]
    obtain ⟨j, j1, j2, j3⟩ := ix_of q (by omega)
    rw [j3]
    subst j2
    refine useN (copy_ok hwf _ (t := x + 6) h.1 hw (by omega)) (fun μ1 hp => ?_)
    obtain ⟨p1, p2⟩ := hp
    refine useN (remove_ok hwf _ p1 hw j1) (fun μ2 hp => ?_)
    obtain ⟨p3, p4⟩ := hp
    refine useSettle hwf d ((h.trial p2).trial p4) p3 (wr_erase hw j) (nc_erase hn h.2.2.2.2.2.1.2.1 j) (fun μ3 q3 => ⟨_, rfl, ?_, q3⟩)
    rw [q3.1.1]
    show nI (S.1.1.eraseIdx j).length = _
    rw [List.length_eraseIdx_of_lt j1]
  · rw [if_neg q]
    exact useBad hwf _ h
