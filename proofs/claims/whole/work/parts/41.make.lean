/-! NestRanges: the nest is made; what the calls share -/
/-- no place lies under more than five ranges -/
def NC (rs : List RG) : Prop := ∀ p, popN (cov rs p) ≤ 5
theorem pop_sub {a b : Nat} (h : ∀ j, j < 8 → a.testBit j = true → b.testBit j = true) : popN a ≤ popN b := nd_le (bts_nd a) (fun x hx => bts_mem.mpr ⟨(bts_mem.mp hx).1, h x (bts_mem.mp hx).1 (bts_mem.mp hx).2⟩)
theorem nc_of {rs : List RG} (h : crowd rs = false) (hn : rs.length ≤ 8) : NC rs := by
  intro p
  by_cases hex : ∃ r, r < rs.length ∧ ra rs r ≤ p ∧ p < rb rs r
  · -- of those over p the one that begins last
    obtain ⟨r, r1, r2, r3, r4⟩ : ∃ r, r < rs.length ∧ ra rs r ≤ p ∧ p < rb rs r ∧ ∀ q, q < rs.length → ra rs q ≤ p → p < rb rs q → ra rs q ≤ ra rs r := by
      have key : ∀ n, (∃ r, r < n ∧ r < rs.length ∧ ra rs r ≤ p ∧ p < rb rs r) → ∃ r, r < rs.length ∧ ra rs r ≤ p ∧ p < rb rs r ∧ ∀ q, q < n → q < rs.length → ra rs q ≤ p → p < rb rs q → ra rs q ≤ ra rs r := by
        intro n
        induction n with
        | zero => rintro ⟨r, hr, -⟩; omega
        | succ n ih =>
          rintro ⟨r, h1, h2, h3, h4⟩
          by_cases hn2 : ∃ r, r < n ∧ r < rs.length ∧ ra rs r ≤ p ∧ p < rb rs r
          · obtain ⟨s, s1, s2, s3, s4⟩ := ih hn2
            by_cases hb : n < rs.length ∧ ra rs n ≤ p ∧ p < rb rs n ∧ ra rs s < ra rs n
            · refine ⟨n, hb.1, hb.2.1, hb.2.2.1, fun q q1 q2 q3 q4 => ?_⟩
              by_cases e : q = n
              · rw [e]; exact Nat.le_refl _
              · have := s4 q (by omega) q2 q3 q4
                omega
            · refine ⟨s, s1, s2, s3, fun q q1 q2 q3 q4 => ?_⟩
              by_cases e : q = n
              · subst e
                omega
              · exact s4 q (by omega) q2 q3 q4
          · refine ⟨r, h2, h3, h4, fun q q1 q2 q3 q4 => ?_⟩
            by_cases e : q = n
            · by_cases e2 : r = n
              · rw [e, e2]; exact Nat.le_refl _
              · exact absurd ⟨r, by omega, h2, h3, h4⟩ hn2
            · exact absurd ⟨q, by omega, q2, q3, q4⟩ hn2
      obtain ⟨r, r1, r2, r3⟩ := hex
      obtain ⟨s, s1, s2, s3, s4⟩ := key rs.length ⟨r, r1, r1, r2, r3⟩
      exact ⟨s, s1, s2, s3, fun q q1 => s4 q q1 q1⟩
    have h1 : popN (cov rs p) ≤ popN (cov rs (ra rs r)) := pop_sub (fun j hj hb => by
      unfold cov at hb ⊢
      rw [covU_bit, decide_eq_true_eq] at hb ⊢
      exact ⟨hb.1, r4 j hb.1 hb.2.1 hb.2.2, by omega⟩)
    have h2 : ¬ 5 < popN (cov rs (ra rs r)) := fun q => by
      have := crowd_iff.mpr ⟨r, r1, q⟩
      rw [h] at this
      cases this
    omega
  · have h0 : popN (cov rs p) ≤ popN 0 := pop_sub (fun j hj hb => by
      unfold cov at hb
      rw [covU_bit, decide_eq_true_eq] at hb
      exact absurd ⟨j, hb⟩ hex)
    have : popN 0 = 0 := by decide
    omega
theorem clr_pop {c sk : Nat} (hc : c < 256) : popN (clr c sk) ≤ popN c := by
  unfold clr
  split
  · exact pop_sub (fun j hj hb => by
      rw [Nat.testBit_and] at hb
      simp at hb
      exact hb.1)
  · exact Nat.le_refl _
theorem okC_cv {rs : List RG} (hn : rs.length ≤ 8) (h : NC rs) (sk : Nat) (cs : List Nat) : okC (cvL rs sk cs) := fun c hc => by
  unfold cvL at hc
  obtain ⟨i, -, rfl⟩ := List.mem_map.mp hc
  exact ⟨clr_lt (cov_lt hn), Nat.le_trans (clr_pop (cov_lt hn)) (h _)⟩
abbrev csT (T : TS) : List Nat := cutsOf T.1 8
abbrev cvT (T : TS) : List Nat := cvL T.1 8 (csT T)
abbrev rkO (T : TS) : Nat → Nat := rkT T false
def zsT (T : TS) : List (List Nat) := chs (rkO T) (cvT T) none (few (rkO T) (cvT T))
def ndT (T : TS) : List Nd := nodesOf T.1 T.2.1 (csT T) (zsT T)
def NestIs (μ : Mem) (x : Nat) (T : TS) : Prop := SeAt μ (x + 115 + 1) (csT T) (cvT T) ∧ (∀ s, s < (cvT T).length → μ.1 (x + 115 + 5) s = nI (enc ((zsT T).getD s []))) ∧ NdAt μ (x + 115) (ndT T) ∧ μ.1 (x + 115) 9 = nI (few (rkO T) (cvT T)) ∧ μ.1 (x + 115) 10 = nI (asf (rkO T) (cvT T)) ∧ μ.1 (x + 115) 11 = nI (plU (rkO T) (cvT T) ((cvT T).length - 1))
/-- nothing but the nest, what it is made with, and whether it stands has changed -/
def FrX (x : Nat) (μ μ1 : Mem) : Prop := (∀ b, (b < x + 73 ∨ x + 127 ≤ b) → b ≠ x → μ1.1 b = μ.1 b) ∧ (∀ j, j ≠ 6 → μ1.1 x j = μ.1 x j) ∧ μ1.2 = μ.2
theorem FrX.rf (x : Nat) (μ : Mem) : FrX x μ μ := ⟨fun _ _ _ => rfl, fun _ _ => rfl, rfl⟩
theorem FrX.tr {x : Nat} {μ μ1 μ2 : Mem} (h : FrX x μ μ1) (h2 : FrX x μ1 μ2) : FrX x μ μ2 := ⟨fun b hb hb2 => (h2.1 b hb hb2).trans (h.1 b hb hb2), fun j hj => (h2.2.1 j hj).trans (h.2.1 j hj), h2.2.2.trans h.2.2⟩
theorem FrX.of {x lo hi : Nat} {μ μ1 : Mem} (h : Fri lo hi μ μ1) (h1 : x + 73 ≤ lo) (h2 : hi ≤ x + 127) : FrX x μ μ1 := ⟨fun b hb _ => h.1 b (by omega), fun j _ => by rw [h.1 x (by omega)], h.2⟩
theorem FrX.ofS {x : Nat} {S : List Nat} {μ μ1 : Mem} (h : Fr S μ μ1) (hs : ∀ b ∈ S, x + 73 ≤ b ∧ b < x + 127) : FrX x μ μ1 := ⟨fun b hb _ => h.1 b (fun q => by have := hs b q; omega), fun j _ => by rw [h.1 x (fun q => by have := hs x q; omega)], h.2⟩
theorem csT_len {T : TS} (hw : WT T) (sk : Nat) : (cutsOf T.1 sk).length ≤ 16 := by
  have := cutU_len T.1 sk T.1.length
  have := hw.1.1
  unfold cutsOf
  omega
theorem csT_le {T : TS} (hw : WT T) (sk : Nat) : ∀ c ∈ cutsOf T.1 sk, c ≤ 90 := fun c hc => Nat.le_trans (cutU_le hw.1 sk T.1.length (Nat.le_refl _) c hc) hw.2.1
theorem makeNest_ok {lay : List Nat} (hwf : wfB lay = true) (d : Nat) {μ : Mem} {x : Nat} {T : TS} (hT : TeAt μ (x + 1) T) (hw : WT T) (hnc : NC T.1) (h6 : μ.1 x 6 = nI 0 ∨ (μ.1 x 6 = nI 1 ∧ NestIs μ x T)) : Rn lay (d + 9) mX_makeNest [rf 15 x] μ (Pn fun μ1 => μ1.1 x 6 = nI 1 ∧ NestIs μ1 x T ∧ FrX x μ μ1) := by
  have hn := hw.1.1
  have hrk : ∀ r, r < 8 → rkO T r < 4 := fun r _ => rkT_lt hw false r
  have hok : okC (cvT T) := okC_cv hn hnc 8 (csT T)
  have hcl : (csT T).length ≤ 16 := csT_len hw 8
  have hcvl : (cvT T).length = (csT T).length - 1 := cvL_len T.1 8 (csT T)
  have h15 : (cvT T).length ≤ 15 := by omega
  have h100 : (cvT T).length ≤ 100 := by omega
  have hfe := feas_first hrk hok h100
  have hzl : (zsT T).length = (cvT T).length := chs_len _ _ _ _
  have hz : ∀ q, q < (cvT T).length → isSt ((cvT T).getD q 0) ((zsT T).getD q []) := fun q hq => stk_st (hok.at hq).1 (chs_in hrk _ _ _ hok h100 hfe q hq)
  refine Rn_intro ok_X_makeNest hwf rfl (fun G hC => g_X_makeNest_0 hC ?_)
  rcases h6 with h6 | ⟨h6, hne⟩
  · rw [h6]
    refine ⟨fun _ => ?_, fun z => absurd rfl z⟩
    have hcut := cut_ok hwf (d + 6) (s := x + 115 + 1) (sk := 8) hT hw (by omega)
    rw [show skI 8 = mI 0 from if_neg (by omega)] at hcut
    refine useN hcut (fun μ1 hp => ?_)
    obtain ⟨s1, f1⟩ := hp
    have hT1 : TeAt μ1 (x + 1) T := hT.far f1 (fun b hb hb2 => by simp at hb hb2; omega)
    refine useN (weigh_ok hwf d (w := x + 73) (alike := false) hT1 hw s1 h15 hok (by omega) (by omega)) (fun μ2 hp => ?_)
    obtain ⟨w1, w2, w3, f2⟩ := hp
    have s2 : SeAt μ2 (x + 115 + 1) (csT T) (cvT T) := s1.fr (fun b hb => f2.1 b (by simp at hb; omega))
    rw [up_n1 (by omega), w2, w3]
    -- the two numbers are laid down
    have hm3 : ∀ (μ3 : Mem), (∀ b, b ≠ x + 115 → μ3.1 b = μ2.1 b) → WeAt μ3 (x + 73) (rkO T) (cvT T) 0 ∧ SeAt μ3 (x + 115 + 1) (csT T) (cvT T) ∧ μ3.1 (x + 73) 6 = nI (few (rkO T) (cvT T)) := by
      intro μ3 h3
      refine ⟨fun s q1 q2 => ?_, s2.fr (fun b hb => h3 b (by simp at hb; omega)), by rw [h3 (x + 73) (by omega)]; exact w2⟩
      have q3 : s < 15 := Nat.lt_of_lt_of_le q2 h15
      obtain ⟨⟨r1, r2⟩, r3⟩ := w1 s q1 q2
      exact ⟨⟨by rw [h3 _ (by omega)]; exact r1, fun i hi => by rw [h3 _ (by omega)]; exact r2 i hi⟩, fun i hi => by rw [h3 _ (by omega)]; exact r3 i hi⟩
    obtain ⟨a1, a2, -⟩ := hm3 (upI (upI μ2 (x + 115) 9 (nI (few (rkO T) (cvT T)))) (x + 115) 10 (nI (asf (rkO T) (cvT T)))) (fun b hb => by rw [up_cell hb, up_cell hb])
    refine useV (splitsOfFirst_ok hwf (d + 6) hrk a1 a2 h15 hok) ?_
    obtain ⟨b1, b2, b3⟩ := hm3 (upI (upI (upI μ2 (x + 115) 9 (nI (few (rkO T) (cvT T)))) (x + 115) 10 (nI (asf (rkO T) (cvT T)))) (x + 115) 11 (nI (plU (rkO T) (cvT T) ((cvT T).length - 1)))) (fun b hb => by rw [up_cell hb, up_cell hb, up_cell hb])
    refine useN (choose_ok hwf (d + 6) (ch := x + 115 + 5) hrk b1 b3 b2 h15 hok (by omega) (by omega)) (fun μ4 hp => ?_)
    obtain ⟨c1, f4⟩ := hp
    have s4 : SeAt μ4 (x + 115 + 1) (csT T) (cvT T) := b2.fr (fun b hb => f4.1 b (by simp at hb ⊢; omega))
    have hT4 : TeAt μ4 (x + 1) T := by
      refine hT1.fr (fun b hb => ?_)
      have : b ≠ x + 115 ∧ b < x + 73 := by simp at hb; omega
      rw [f4.1 b (by simp; omega), up_cell this.1, up_cell this.1, up_cell this.1, f2.1 b (by omega)]
    refine useN (layNodes_ok hwf (d + 5) (o := x + 115) hT4 hw (by omega) s4 hcl (csT_le hw 8) hcvl hok hzl hz (fun q hq => c1 q (by omega))) (fun μ5 hp => ?_)
    obtain ⟨e1, f5⟩ := hp
    have k115 : ∀ j, j ≠ 8 → (upI μ5 x 6 (nI 1)).1 (x + 115) j = (upI (upI (upI μ2 (x + 115) 9 (nI (few (rkO T) (cvT T)))) (x + 115) 10 (nI (asf (rkO T) (cvT T)))) (x + 115) 11 (nI (plU (rkO T) (cvT T) ((cvT T).length - 1)))).1 (x + 115) j := fun j hj => by
      rw [up_n1 (by omega), f5.2.2 j hj, f4.1 (x + 115) (by simp)]
    refine ⟨rfl, by rw [up_at], ⟨s4.fr (fun b hb => ?_), fun s hs => ?_, ⟨?_, fun k hk => ?_⟩, ?_, ?_, ?_⟩, ⟨fun b hb hb2 => ?_, fun j hj => ?_, ?_⟩⟩
    · have hb : b = x + 115 + 1 ∨ b = x + 115 + 1 + 1 ∨ b = x + 115 + 1 + 2 ∨ b = x + 115 + 1 + 3 := by simpa using hb
      rw [up_cell (by omega), f5.1 b (by simp; omega)]
    · rw [up_n1 (by omega), f5.1 (x + 115 + 5) (by simp)]
      exact c1 s hs
    · rw [up_n1 (by omega)]; exact e1.1
    · simp (disch := omega) only [up_n1]
      exact e1.2 k hk
    · rw [k115 9 (by omega), up_n2 (by omega), up_n2 (by omega), up_at]
    · rw [k115 10 (by omega), up_n2 (by omega), up_at]
    · rw [k115 11 (by omega), up_at]
    · rw [up_cell hb2, f5.1 b (by simp; omega), f4.1 b (by simp; omega), up_cell (by omega), up_cell (by omega), up_cell (by omega), f2.1 b (by omega), f1.1 b (by simp; omega)]
    · rw [up_n2 hj, f5.1 x (by simp; omega), f4.1 x (by simp; omega), up_cell (by omega), up_cell (by omega), up_cell (by omega), f2.1 x (by omega), f1.1 x (by simp; omega)]
    · show μ5.2 = μ.2
      rw [f5.2.1, f4.2]
      show μ2.2 = μ.2
      rw [f2.2, f1.2]
  · rw [h6]
    exact ⟨fun z => absurd z (by decide), fun _ => ⟨rfl, h6, hne, FrX.rf _ _⟩⟩
theorem fewestWithout_ok {lay : List Nat} (hwf : wfB lay = true) (d : Nat) {μ : Mem} {x : Nat} {T : TS} (hT : TeAt μ (x + 1) T) (hw : WT T) (hnc : NC T.1) (sk : Nat) (alike : Bool) : Rn lay (d + 9) mX_fewestWithout [rf 15 x, vi (skI sk), vi (nI (if alike = true then 1 else 0))] μ (Pq fun v μ1 => v = nI (few (rkT T alike) (cvL T.1 sk (cutsOf T.1 sk))) ∧ Fri (x + 73) (x + 115) μ μ1) := by
  have hn := hw.1.1
  have hok : okC (cvL T.1 sk (cutsOf T.1 sk)) := okC_cv hn hnc sk _
  have hcl := csT_len hw sk
  have hcvl := cvL_len T.1 sk (cutsOf T.1 sk)
  refine Rn_intro ok_X_fewestWithout hwf rfl (fun G hC => g_X_fewestWithout_0 hC ?_)
  refine useN (cut_ok hwf (d + 6) (s := x + 111) (sk := sk) hT hw (by omega)) (fun μ1 hp => ?_)
  obtain ⟨s1, f1⟩ := hp
  have hT1 : TeAt μ1 (x + 1) T := hT.far f1 (fun b hb hb2 => by simp at hb hb2; omega)
  refine useN (weigh_ok hwf d (w := x + 73) (alike := alike) hT1 hw s1 (by omega) hok (by omega) (by omega)) (fun μ2 hp => ?_)
  obtain ⟨w1, w2, w3, f2⟩ := hp
  refine ⟨_, rfl, w2, fun b hb => ?_, ?_⟩
  · rw [f2.1 b (by omega), f1.1 b (by simp; omega)]
  · rw [f2.2, f1.2]
theorem refuseBad_ok {lay : List Nat} (hwf : wfB lay = true) (d : Nat) (μ : Mem) (x : Nat) : Rn lay d mX_refuseBad [rf 15 x] μ (fun v μ1 => v = some (vi (mI 1)) ∧ μ1 = upI μ x 7 (μ.1 x 7 + nI 1)) := Rn_intro ok_X_refuseBad hwf rfl (fun G hC => g_X_refuseBad_0 hC ⟨rfl, rfl⟩)
theorem refuseFull_ok {lay : List Nat} (hwf : wfB lay = true) (d : Nat) (μ : Mem) (x : Nat) : Rn lay d mX_refuseFull [rf 15 x] μ (fun v μ1 => v = some (vi (mI 3)) ∧ μ1 = upI μ x 9 (μ.1 x 9 + nI 1)) := Rn_intro ok_X_refuseFull hwf rfl (fun G hC => g_X_refuseFull_0 hC ⟨rfl, rfl⟩)
theorem settle_ok {lay : List Nat} (hwf : wfB lay = true) (d : Nat) {μ : Mem} {x : Nat} {T U : TS} {hist : List TS} (hT : TeAt μ (x + 1) T) (hw : WT T) (hU : TeAt μ (x + 6) U) (hwU : WT U) (hH : HiAt μ (x + 11) hist) : Rn lay (d + 2) mX_settle [rf 15 x] μ (Pn fun μ1 => TeAt μ1 (x + 1) U ∧ HiAt μ1 (x + 11) ((T :: hist).take 12) ∧ μ1.1 x 6 = nI 0 ∧ (∀ j, j ≠ 6 → μ1.1 x j = μ.1 x j) ∧ μ1.2 = μ.2) := by
  refine Rn_intro ok_X_settle hwf rfl (fun G hC => g_X_settle_0 hC ?_)
  refine useN (keep_ok hwf d hH hT hw (by omega)) (fun μ1 hp => ?_)
  obtain ⟨k1, f1⟩ := hp
  have hU1 : TeAt μ1 (x + 6) U := hU.fi f1 (by omega)
  refine useN (copy_ok hwf (d + 1) (t := x + 1) hU1 hwU (by omega)) (fun μ2 hp => ?_)
  obtain ⟨c1, f2⟩ := hp
  have hf2 := f2.te
  refine ⟨rfl, c1.fr (fun b hb => up_cell (by simp at hb; omega)), ?_, by rw [up_at], fun j hj => ?_, ?_⟩
  · have := k1.fi hf2 (by omega)
    obtain ⟨nx, h1, h2, h3, h4, h5⟩ := this
    refine ⟨nx, h1, by rw [up_n1 (by omega)]; exact h2, by rw [up_n1 (by omega)]; exact h3, h4, fun j T' hj => ?_⟩
    obtain ⟨a, b⟩ := h5 j T' hj
    refine ⟨a.fr (fun c hc => up_cell ?_), b⟩
    unfold slotH at hc
    simp at hc
    omega
  · rw [up_n2 hj, hf2.1 x (by omega), f1.1 x (by omega)]
  · show μ2.2 = μ.2
    rw [hf2.2, f1.2]
