/-! the reference: splits between two sections, the least of a stack -/
theorem ul_at (μ : Mem) (a k : Nat) (v : Int64) : (upL μ a k v).2 a k = v := by simp [upL]
theorem ul_n2 {μ : Mem} {a k j : Nat} {v : Int64} (h : j ≠ k) : (upL μ a k v).2 a j = μ.2 a j := by simp [upL, h]
theorem ul_1 (μ : Mem) (a k : Nat) (v : Int64) : (upL μ a k v).1 = μ.1 := rfl
theorem cdU_div {x : List Nat} (hx : ∀ i, x.getD i 0 < 8) (i : Nat) : cdU x (i + 1) / 8 = cdU x i ∧ cdU x (i + 1) % 8 = x.getD i 0 := by
  have e : cdU x (i + 1) = 8 * cdU x i + x.getD i 0 := rfl
  have := hx i
  rw [e]
  omega
theorem mRangeAt_ok {lay : List Nat} (hwf : wfB lay = true) (d : Nat) {μ : Mem} {m s i k : Nat} {cv : List Nat} {xs : List (List Nat)} (hcv : CvM μ m cv) (hS : SkM μ m s xs) (hs : s < cv.length) (hs15 : cv.length ≤ 15) (hc : cv.getD s 0 < 256) (hi : i < xs.length) (hx120 : xs.length ≤ 120) (hst : isSt (cv.getD s 0) (xs.getD i [])) (h5 : popN (cv.getD s 0) ≤ 5) (hk : k < (xs.getD i []).length) : Rn lay (d + 1) mM_rangeAt [rf 16 m, vi (nI s), vi (nI i), vi (nI k)] μ (Pv (nI ((xs.getD i []).getD k 0)) μ) := by
  have hl := hst.len
  have hx8 : ∀ q, (xs.getD i []).getD q 0 < 8 := gd8 (fun r hr => (hst.2 r |>.mp hr).1)
  refine Rn_intro ok_M_rangeAt hwf rfl (fun G hC => g_M_rangeAt_0 hC ?_)
  rw [pk_mul, nI_add, nx_cl (by omega), nx_cl (by omega), hcv s hs, hS.2 i hi]
  refine ⟨vin (by omega) (by omega), vin (by omega) (by omega), useV (mBits_ok hwf d hc μ) ?_⟩
  have loop : ∀ c j, j = k + c → j < (xs.getD i []).length → G 26 [un, un, un, vi (nI k), vi (nI (cdU (xs.getD i []) (j + 1))), vi (nI j)] [] μ := by
    intro c
    induction c with
    | zero =>
      intro j hj hjl
      have hlt := cdU_lt hx8 (j + 1)
      have h8 : 8 ^ (j + 1) ≤ 8 ^ 5 := Nat.pow_le_pow_right (by omega) (by omega)
      have h85 : (8 : Nat) ^ 5 = 32768 := by decide
      refine g_M_rangeAt_26 hC ?_
      rw [nx_le (by omega) (by omega), pk_rem (by omega) (by omega) (by omega), (cdU_div hx8 j).2]
      exact ⟨fun _ => pv_e (by rw [hj]; rfl), fun z => absurd (by omega) z⟩
    | succ c ih =>
      intro j hj hjl
      have hlt := cdU_lt hx8 (j + 1)
      have h8 : 8 ^ (j + 1) ≤ 8 ^ 5 := Nat.pow_le_pow_right (by omega) (by omega)
      have h85 : (8 : Nat) ^ 5 = 32768 := by decide
      obtain ⟨j', hj'⟩ : ∃ j', j = j' + 1 := ⟨j - 1, by omega⟩
      refine g_M_rangeAt_26 hC ?_
      rw [nx_le (by omega) (by omega), pk_div (by omega) (by omega) (by omega), (cdU_div hx8 j).1]
      refine ⟨fun z => absurd z (by omega), fun _ => ?_⟩
      subst hj'
      rw [nx_dec]
      exact ih j' (by omega) (by omega)
  have e1 : cd8 (xs.getD i []) = cdU (xs.getD i []) ((popN (cv.getD s 0) - 1) + 1) := by
    have := cdU_f (xs.getD i []) (xs.getD i []).length (Nat.le_refl _)
    rw [List.take_length] at this
    rw [← this]
    congr 1
    omega
  rw [e1, nx_sub (by omega)]
  exact loop (popN (cv.getD s 0) - 1 - k) _ (by omega) (by omega)
theorem alk_stop : ∀ (l m : List Nat), alk l m < l.length → alk l m < m.length → l.getD (alk l m) 0 ≠ m.getD (alk l m) 0
  | [], m, h, _ => absurd h (Nat.not_lt_zero _)
  | x :: l, [], _, h => absurd h (Nat.not_lt_zero _)
  | x :: l, y :: m, h1, h2 => by
    by_cases e : x = y
    · have ea : alk (x :: l) (y :: m) = alk l m + 1 := by show (if x = y then _ else _) = _; rw [if_pos e]
      rw [ea] at h1 h2 ⊢
      exact alk_stop l m (by simpa using h1) (by simpa using h2)
    · have ea : alk (x :: l) (y :: m) = 0 := by show (if x = y then _ else _) = _; rw [if_neg e]
      rw [ea]
      exact e
theorem alk_same {l m : List Nat} {i : Nat} (h : i < alk l m) : l.getD i 0 = m.getD i 0 := by
  obtain ⟨d1, d2⟩ := alk_dig i l m h
  obtain ⟨l1, l2⟩ := alk_le l m
  unfold dig at d1
  rw [gd_in (by omega), gd_in (by omega)] at d1
  have d1 : l.getD i 0 + 1 = m.getD i 0 + 1 := d1
  omega
/-- what the reference keeps of stacks -/
def NW (μ : Mem) (m : Nat) (rk : Nat → Nat) (cs cv : List Nat) : Prop := CuM μ m cs ∧ CvM μ m cv ∧ SksM μ m rk cv cv.length
theorem NW.fr {μ μ1 : Mem} {m : Nat} {rk : Nat → Nat} {cs cv S : List Nat} (h : NW μ m rk cs cv) (hf : FM m S [] μ μ1) (h1 : ∀ b ∈ [m + 7, m + 8, m + 9, m + 10], b ∉ S) : NW μ1 m rk cs cv := by
  obtain ⟨a, b, c⟩ := h
  refine ⟨⟨by rw [hf.2.1 9 (by simp)]; exact a.1, fun i hi => by rw [hf.1 (m + 7) (by omega) (h1 _ (by simp))]; exact a.2 i hi⟩, fun i hi => by rw [hf.1 (m + 8) (by omega) (h1 _ (by simp))]; exact b i hi, fun s h2 h3 => ?_⟩
  obtain ⟨u, v⟩ := c s h2 h3
  exact ⟨by rw [hf.1 (m + 9) (by omega) (h1 _ (by simp))]; exact u, fun i hi => by rw [hf.1 (m + 10) (by omega) (h1 _ (by simp))]; exact v i hi⟩
theorem alk_pop {c c' : Nat} {x y : List Nat} (hx : isSt c x) (hy : isSt c' y) : alk x y ≤ popN (c &&& c') := st_share hx hy (fun q hq => alk_dig q x y hq)
theorem mSplitsBy_ok {lay : List Nat} (hwf : wfB lay = true) (d : Nat) {μ : Mem} {m s i j : Nat} {rk : Nat → Nat} {cs cv : List Nat} (hN : NW μ m rk cs cv) (hok : okC cv) (hs : s + 1 < cv.length) (hs15 : cv.length ≤ 15) (hi : i < (stk rk (cv.getD s 0)).length) (hj : j < (stk rk (cv.getD (s + 1) 0)).length) : Rn lay (d + 2) mM_splitsBy [rf 16 m, vi (nI s), vi (nI i), vi (nI j)] μ (Pv (nI (popN (cv.getD s 0 &&& cv.getD (s + 1) 0) - alk ((stk rk (cv.getD s 0)).getD i []) ((stk rk (cv.getD (s + 1) 0)).getD j []))) μ) := by
  obtain ⟨hcu, hcv, hsk⟩ := hN
  obtain ⟨c1, c2⟩ := hok.at (show s < cv.length by omega)
  obtain ⟨e1, e2⟩ := hok.at hs
  have s1 := stk_st c1 (stk_get hi)
  have s2 := stk_st e1 (stk_get hj)
  have l1 := s1.len
  have l2 := s2.len
  have hle := alk_pop s1 s2
  have h8 := popN_and (cv.getD s 0) (cv.getD (s + 1) 0)
  obtain ⟨m1, m2⟩ := alk_le ((stk rk (cv.getD s 0)).getD i []) ((stk rk (cv.getD (s + 1) 0)).getD j [])
  have n1 := stk_len (rk := rk) c1 c2
  have n2 := stk_len (rk := rk) e1 e2
  refine Rn_intro ok_M_splitsBy hwf rfl (fun G hC => g_M_splitsBy_0 hC ?_)
  rw [nI_add, nx_cl (by omega), nx_cl (by omega), hcv s (by omega)]
  refine ⟨vin (by omega) (by omega), useV (mBits_ok hwf _ c1 μ) ⟨vin (by omega) (by omega), ?_⟩⟩
  rw [hcv (s + 1) hs]
  refine useV (mBits_ok hwf _ e1 μ) ?_
  have fin : G 68 [rf 16 m, vi (nI s), un, un, un, un, vi (nI (alk ((stk rk (cv.getD s 0)).getD i []) ((stk rk (cv.getD (s + 1) 0)).getD j [])))] [] μ := by
    refine g_M_splitsBy_68 hC ?_
    rw [nI_add, nx_cl (by omega), nx_cl (by omega), hcv s (by omega), hcv (s + 1) hs, nx_and]
    refine ⟨vin (by omega) (by omega), vin (by omega) (by omega), useV (mBits_ok hwf _ (Nat.lt_of_le_of_lt Nat.and_le_left c1) μ) (pv_e ?_)⟩
    rw [nx_sub hle]
  have loop : ∀ k a, a + k = alk ((stk rk (cv.getD s 0)).getD i []) ((stk rk (cv.getD (s + 1) 0)).getD j []) → G 27 [rf 16 m, vi (nI s), vi (nI i), vi (nI j), vi (nI (popN (cv.getD s 0))), vi (nI (popN (cv.getD (s + 1) 0))), vi (nI a)] [] μ := by
    intro k
    induction k with
    | zero =>
      intro a ha
      have ha : a = alk ((stk rk (cv.getD s 0)).getD i []) ((stk rk (cv.getD (s + 1) 0)).getD j []) := by omega
      refine g_M_splitsBy_27 hC ?_
      rw [nx_le (by omega) (by omega), nx_le (by omega) (by omega), nI_add]
      refine ⟨fun _ => by rw [ha]; exact fin, fun z => ⟨fun _ => by rw [ha]; exact fin, fun z2 => ?_⟩⟩
      refine useV (mRangeAt_ok hwf d hcv (hsk s (by omega) (by omega)) (by omega) hs15 c1 hi n1 s1 c2 (by omega)) ?_
      refine useV (mRangeAt_ok hwf d hcv (hsk (s + 1) (by omega) hs) hs hs15 e1 hj n2 s2 e2 (by omega)) ?_
      have b1 : ((stk rk (cv.getD s 0)).getD i []).getD a 0 < 8 := gd8 (fun r hr => (s1.2 r |>.mp hr).1) a
      have b2 : ((stk rk (cv.getD (s + 1) 0)).getD j []).getD a 0 < 8 := gd8 (fun r hr => (s2.2 r |>.mp hr).1) a
      rw [nx_eq (by omega) (by omega)]
      refine ⟨fun _ => by rw [ha]; exact fin, fun z3 => ?_⟩
      rw [ha] at z3
      exact absurd z3 (alk_stop _ _ (by omega) (by omega))
    | succ k ih =>
      intro a ha
      refine g_M_splitsBy_27 hC ?_
      rw [nx_le (by omega) (by omega), nx_le (by omega) (by omega), nI_add, nI_add]
      refine ⟨fun z => absurd z (by omega), fun _ => ⟨fun z => absurd z (by omega), fun _ => ?_⟩⟩
      refine useV (mRangeAt_ok hwf d hcv (hsk s (by omega) (by omega)) (by omega) hs15 c1 hi n1 s1 c2 (by omega)) ?_
      refine useV (mRangeAt_ok hwf d hcv (hsk (s + 1) (by omega) hs) hs hs15 e1 hj n2 s2 e2 (by omega)) ?_
      refine ⟨fun z => absurd ?_ z, fun _ => ih (a + 1) (by omega)⟩
      rw [alk_same (show a < alk ((stk rk (cv.getD s 0)).getD i []) ((stk rk (cv.getD (s + 1) 0)).getD j []) by omega)]
  exact loop _ 0 (Nat.zero_add _)
/-! the least, and in how many ways -/
def offU (F mf : Nat → Nat) : Nat → Nat × Nat
  | 0 => (1048576, 0)
  | j + 1 => offP (offU F mf j) (F j) (mf j)
theorem mnU_no {F mf : Nat → Nat} {c : Nat} : ∀ n, (∀ j, j < n → F j ≠ c) → mnU F mf 0 c n = 0
  | 0, _ => rfl
  | n + 1, h => by
    unfold mnU
    rw [if_neg (by rw [Nat.zero_add]; exact h n (by omega))]
    exact mnU_no n (fun j hj => h j (by omega))
theorem chU_s (F : Nat → Nat) (n : Nat) : chU F 0 (n + 1) = if F n < chU F 0 n then F n else chU F 0 n := by
  conv => lhs; unfold chU
  rw [Nat.zero_add]
theorem mnU_s (F mf : Nat → Nat) (c n : Nat) : mnU F mf 0 c (n + 1) = if F n = c then cap (mnU F mf 0 c n + mf n) else mnU F mf 0 c n := by
  conv => lhs; unfold mnU
  rw [Nat.zero_add]
  rfl
theorem chU_low {F : Nat → Nat} : ∀ n j, j < n → chU F 0 n ≤ F j
  | 0, j, h => absurd h (Nat.not_lt_zero _)
  | n + 1, j, h => by
    rw [chU_s]
    by_cases e : j = n
    · subst e
      split <;> omega
    · have := chU_low (F := F) n j (by omega)
      split <;> omega
theorem offU_val {F mf : Nat → Nat} : ∀ n, 0 < n → (∀ j, j < n → F j < 1000000) → (∀ j, j < n → mf j ≤ 1000000000) → offU F mf n = (chU F 0 n, mnU F mf 0 (chU F 0 n) n)
  | 0, h, _, _ => absurd h (Nat.lt_irrefl _)
  | n + 1, _, hF, hm => by
    have e : offU F mf (n + 1) = offP (offU F mf n) (F n) (mf n) := rfl
    have f1 := hF n (by omega)
    have f2 := hm n (by omega)
    rw [e]
    rcases Nat.eq_zero_or_pos n with q | q
    · subst q
      have ec : chU F 0 1 = F 0 := by
        rw [chU_s]
        exact if_pos f1
      rw [ec, mnU_s, if_pos rfl]
      unfold offP offU
      rw [if_pos (by show F 0 < 1048576; omega)]
      have : cap (mnU F mf 0 (F 0) 0 + mf 0) = mf 0 := by
        show cap (0 + mf 0) = mf 0
        unfold cap
        split <;> omega
      rw [this]
    · rw [offU_val n q (fun j hj => hF j (by omega)) (fun j hj => hm j (by omega)), offP_def, chU_s]
      dsimp only
      by_cases c1 : F n < chU F 0 n
      · rw [if_pos c1, if_pos c1, mnU_s, if_pos rfl, mnU_no n (fun j hj => by have := chU_low (F := F) n j hj; omega)]
        have : cap (0 + mf n) = mf n := by
          unfold cap
          split <;> omega
        rw [this]
      · rw [if_neg c1, if_neg c1, mnU_s]
        by_cases c2 : F n = chU F 0 n
        · rw [if_pos c2, if_pos c2]
        · rw [if_neg c2, if_neg c2]
theorem offU_bd {F mf : Nat → Nat} : ∀ n, (∀ j, j < n → F j < 1000000) → (∀ j, j < n → mf j ≤ 1000000000) → (offU F mf n).1 ≤ 1048576 ∧ (offU F mf n).2 ≤ 1000000000
  | 0, _, _ => ⟨Nat.le_refl _, by show 0 ≤ _; omega⟩
  | n + 1, hF, hm => by
    rw [offU_val (n + 1) (by omega) hF hm]
    exact ⟨Nat.le_trans (chU_le F 0 (n + 1)) (by omega), mnU_le F mf 0 _ (n + 1)⟩
def LsM (μ : Mem) (m s n : Nat) (cf mf : Nat → Nat) : Prop := ∀ i, i < n → μ.1 (m + 11) (120 * s + i) = nI (cf i) ∧ μ.2 (m + 12) (120 * s + i) = lN (mf i)
/-- only the least and the ways at one place have changed -/
def FL (m at' : Nat) (μ μ1 : Mem) : Prop := FM m [m + 11, m + 12] [] μ μ1 ∧ ∀ q, q ≠ at' → μ1.1 (m + 11) q = μ.1 (m + 11) q ∧ μ1.2 (m + 12) q = μ.2 (m + 12) q
theorem FL.rf (m a : Nat) (μ : Mem) : FL m a μ μ := ⟨FM.rf _ _ _ _, fun _ _ => ⟨rfl, rfl⟩⟩
theorem FL.up {m a : Nat} {μ μ1 : Mem} {v : Int32} (h : FL m a μ μ1) : FL m a μ (upI μ1 (m + 11) a v) := ⟨h.1.up (by simp) (by omega), fun q hq => ⟨by rw [up_n2 hq]; exact (h.2 q hq).1, (h.2 q hq).2⟩⟩
theorem FL.ul {m a : Nat} {μ μ1 : Mem} {v : Int64} (h : FL m a μ μ1) : FL m a μ (upL μ1 (m + 12) a v) := ⟨h.1.upl (by simp), fun q hq => ⟨(h.2 q hq).1, by rw [ul_n2 hq]; exact (h.2 q hq).2⟩⟩
theorem mSetLeast_ok {lay : List Nat} (hwf : wfB lay = true) (d : Nat) {μ : Mem} {m s i : Nat} {rk : Nat → Nat} {cs cv : List Nat} (hN : NW μ m rk cs cv) (hok : okC cv) (hrk : ∀ r, r < 8 → rk r < 4) (hcl : cs.length ≤ 16) (hvl : cv.length = cs.length - 1) (hs : s < cv.length) (hi : i < (stk rk (cv.getD s 0)).length) (hL : s + 1 < cv.length → LsM μ m (s + 1) (stk rk (cv.getD (s + 1) 0)).length (dpc rk (cv.drop (s + 1))) (dpm rk (cv.drop (s + 1)))) : Rn lay (d + 3) mM_setLeast [rf 16 m, vi (nI s), vi (nI i)] μ (Pn fun μ1 => FL m (120 * s + i) μ μ1 ∧ μ1.1 (m + 11) (120 * s + i) = nI (dpc rk (cv.drop s) i) ∧ μ1.2 (m + 12) (120 * s + i) = lN (dpm rk (cv.drop s) i)) := by
  obtain ⟨c1, c2⟩ := hok.at hs
  have n1 := stk_len (rk := rk) c1 c2
  have hv : vp_in (nI (120 * s + i)) 1800 := vin (by omega) (by omega)
  have hcl1 : nI (cs.length - 1) - nI 1 = nI (cs.length - 2) ∨ cs.length = 1 := by
    rcases Nat.lt_or_ge 1 cs.length with q | q
    · exact Or.inl (by rw [nx_sub (by omega)]; rfl)
    · omega
  have hsub : nI (cs.length - 1) - nI 1 = nI (cv.length - 1) := by rw [nx_sub (by omega), hvl]
  refine Rn_intro ok_M_setLeast hwf rfl (fun G hC => g_M_setLeast_0 hC ?_)
  by_cases hlast : s + 1 < cv.length
  · obtain ⟨e1, e2⟩ := hok.at hlast
    have n2 := stk_len (rk := rk) e1 e2
    have pos2 := stk_pos hrk e1 e2
    have hL := hL hlast
    have ed : cv.drop s = cv.getD s 0 :: cv.getD (s + 1) 0 :: cv.drop (s + 1 + 1) := by rw [drop_cons hs, drop_cons hlast]
    have ed1 : cv.drop (s + 1) = cv.getD (s + 1) 0 :: cv.drop (s + 1 + 1) := drop_cons hlast
    have hdle : ∀ j, dpc rk (cv.drop (s + 1)) j ≤ 8 * 15 := fun j => by
      have := dpc_le hrk (cv.drop (s + 1)) (hok.drop (s + 1)) j
      rw [List.length_drop] at this
      omega
    have hmle : ∀ j, dpm rk (cv.drop (s + 1)) j ≤ 1000000000 := fun j => dpm_le rk _ j
    have hp8 := popN_and (cv.getD s 0) (cv.getD (s + 1) 0)
    -- what a pair of stacks costs
    have hF : ∀ j, spF rk (cv.getD s 0) (cv.getD (s + 1) 0) i (dpc rk (cv.drop (s + 1))) j = dpc rk (cv.drop (s + 1)) j + popN (cv.getD s 0 &&& cv.getD (s + 1) 0) - alk ((stk rk (cv.getD s 0)).getD i []) ((stk rk (cv.getD (s + 1) 0)).getD j []) := fun j => rfl
    have ec : dpc rk (cv.drop s) i = chU (spF rk (cv.getD s 0) (cv.getD (s + 1) 0) i (dpc rk (cv.drop (s + 1)))) 0 (stk rk (cv.getD (s + 1) 0)).length := by rw [ed, ed1]; rfl
    have em : dpm rk (cv.drop s) i = mnU (spF rk (cv.getD s 0) (cv.getD (s + 1) 0) i (dpc rk (cv.drop (s + 1)))) (dpm rk (cv.drop (s + 1))) 0 (dpc rk (cv.drop s) i) (stk rk (cv.getD (s + 1) 0)).length := by rw [ed, ed1]; rfl
    generalize hFe : spF rk (cv.getD s 0) (cv.getD (s + 1) 0) i (dpc rk (cv.drop (s + 1))) = F at hF ec em
    have hFb : ∀ j, F j < 1000000 := fun j => by
      rw [hF j]
      have := hdle j
      omega
    have hend := offU_val (F := F) (mf := dpm rk (cv.drop (s + 1))) _ pos2 (fun j _ => hFb j) (fun j _ => hmle j)
    rw [← ec] at hend
    rw [← em] at hend
    have l53 : ∀ k j (μ' : Mem), j + k = (stk rk (cv.getD (s + 1) 0)).length → FL m (120 * s + i) μ μ' → μ'.1 (m + 11) (120 * s + i) = nI (offU F (dpm rk (cv.drop (s + 1))) j).1 → μ'.2 (m + 12) (120 * s + i) = lN (offU F (dpm rk (cv.drop (s + 1))) j).2 → G 53 [rf 16 m, vi (nI s), vi (nI i), vi (nI (120 * s + i)), vi (nI j), un] [] μ' := by
      intro k
      induction k with
      | zero =>
        intro j μ' hj hf h1 h2
        have hN' := hN.fr hf.1 (by simp)
        refine g_M_setLeast_53 hC ?_
        refine useV (mSections_ok hwf _ hN'.1.1 hcl) ?_
        rw [hsub, nx_le (by omega) (by omega), nI_add, nx_cl (by omega), (hN'.2.2 (s + 1) hlast hlast).1, nx_le (by omega) (by omega)]
        have ej : j = (stk rk (cv.getD (s + 1) 0)).length := by omega
        rw [ej, hend] at h1 h2
        exact ⟨fun z => absurd z (by omega), fun _ => ⟨vin (by omega) (by omega), fun _ => ⟨rfl, hf, h1, h2⟩, fun z => absurd (by omega) z⟩⟩
      | succ k ih =>
        intro j μ' hj hf h1 h2
        have hN' := hN.fr hf.1 (by simp)
        have hjl : j < (stk rk (cv.getD (s + 1) 0)).length := by omega
        obtain ⟨b1, b2⟩ := offU_bd (F := F) (mf := dpm rk (cv.drop (s + 1))) j (fun j _ => hFb j) (fun j _ => hmle j)
        have en : offU F (dpm rk (cv.drop (s + 1))) (j + 1) = offP (offU F (dpm rk (cv.drop (s + 1))) j) (F j) (dpm rk (cv.drop (s + 1)) j) := rfl
        obtain ⟨L1, L2⟩ := hL j hjl
        have L1 : μ'.1 (m + 11) (120 * (s + 1) + j) = nI (dpc rk (cv.drop (s + 1)) j) := by rw [(hf.2 _ (by omega)).1]; exact L1
        have L2 : μ'.2 (m + 12) (120 * (s + 1) + j) = lN (dpm rk (cv.drop (s + 1)) j) := by rw [(hf.2 _ (by omega)).2]; exact L2
        have hfb := hFb j
        have hmj := hmle j
        have hdj := hdle j
        refine g_M_setLeast_53 hC ?_
        refine useV (mSections_ok hwf _ hN'.1.1 hcl) ?_
        rw [hsub, nx_le (by omega) (by omega), nI_add s 1, nx_cl (by omega), (hN'.2.2 (s + 1) hlast hlast).1, nx_le (by omega) (by omega)]
        refine ⟨fun z => absurd z (by omega), fun _ => ⟨vin (by omega) (by omega), fun z => absurd z (by omega), fun _ => ?_⟩⟩
        refine useV (mSplitsBy_ok hwf d hN' hok hlast (by omega) hi hjl) ?_
        have s1 := stk_st c1 (stk_get hi)
        have s2 := stk_st e1 (stk_get hjl)
        have hle := alk_pop s1 s2
        have eix : nI (120 * s + i) + nI 120 - nI i + nI j = nI (120 * (s + 1) + j) := by
          rw [nI_add, nx_sub (by omega), nI_add]
          congr 1
          omega
        rw [eix, nx_cl (by omega), nx_cl (by omega), L1, h1, nI_add]
        have eF : popN (cv.getD s 0 &&& cv.getD (s + 1) 0) - alk ((stk rk (cv.getD s 0)).getD i []) ((stk rk (cv.getD (s + 1) 0)).getD j []) + dpc rk (cv.drop (s + 1)) j = F j := by
          rw [hF j]
          omega
        rw [eF, nx_le (by omega) (by omega)]
        have hv2 : vp_in (nI (120 * (s + 1) + j)) 1800 := vin (by omega) (by omega)
        refine ⟨hv2, hv, fun z => ?_, fun z => ⟨hv, hv, ?_⟩⟩
        · -- not less
          refine g_M_setLeast_127 hC ?_
          rw [nx_cl (by omega), h1, h2, nx_eq (by omega) (by omega), eix, nx_cl (by omega), L2, ul_at, ul_at, lN_add, lN_add, lg_cmp_le, lg_cmp_le, pk_lLE (by omega) (by omega), pk_lLE (by omega) (by omega), nI_add]
          refine ⟨hv, hv, fun z2 => ⟨hv, hv, fun z3 => ⟨hv, hv, ?_⟩, fun z3 => absurd (by omega) z3⟩, fun z2 => ⟨hv2, hv, hv, fun z3 => ⟨hv, hv, ?_⟩, fun z3 => ⟨hv, ?_⟩⟩⟩
          · have e3 : offU F (dpm rk (cv.drop (s + 1))) (j + 1) = offU F (dpm rk (cv.drop (s + 1))) j := by rw [en]; unfold offP; rw [if_neg (by omega), if_neg z2]
            exact ih (j + 1) _ (by omega) hf.ul.ul (by rw [e3, ul_1, ul_1]; exact h1) (by rw [e3, ul_at, Nat.add_zero])
          · have e3 : offU F (dpm rk (cv.drop (s + 1))) (j + 1) = ((offU F (dpm rk (cv.drop (s + 1))) j).1, (offU F (dpm rk (cv.drop (s + 1))) j).2 + dpm rk (cv.drop (s + 1)) j) := by
              rw [en]; unfold offP; rw [if_neg (by omega), if_pos z2]
              congr 1
              split <;> omega
            exact ih (j + 1) _ (by omega) hf.ul.ul (by rw [e3, ul_1, ul_1]; exact h1) (by rw [e3, ul_at])
          · have e3 : offU F (dpm rk (cv.drop (s + 1))) (j + 1) = ((offU F (dpm rk (cv.drop (s + 1))) j).1, 1000000000) := by
              rw [en]; unfold offP; rw [if_neg (by omega), if_pos z2]
              congr 1
              split <;> omega
            exact ih (j + 1) _ (by omega) hf.ul.ul (by rw [e3, ul_1, ul_1]; exact h1) (by rw [e3, ul_at])
        · -- less
          have e3 : offU F (dpm rk (cv.drop (s + 1))) (j + 1) = (F j, dpm rk (cv.drop (s + 1)) j) := by rw [en]; unfold offP; rw [if_pos (by omega)]
          refine g_M_setLeast_127 hC ?_
          have g1 : (upL (upI μ' (m + 11) (120 * s + i) (nI (F j))) (m + 12) (120 * s + i) (lN 0)).1 (m + 11) (120 * s + i) = nI (F j) := by rw [ul_1, up_at]
          have g2 : (upL (upI μ' (m + 11) (120 * s + i) (nI (F j))) (m + 12) (120 * s + i) (lN 0)).2 (m + 12) (120 * s + i) = lN 0 := ul_at _ _ _ _
          have g3 : (upL (upI μ' (m + 11) (120 * s + i) (nI (F j))) (m + 12) (120 * s + i) (lN 0)).2 (m + 12) (120 * (s + 1) + j) = lN (dpm rk (cv.drop (s + 1)) j) := by rw [ul_n2 (by omega)]; exact L2
          have g4 : FL m (120 * s + i) μ (upL (upI μ' (m + 11) (120 * s + i) (nI (F j))) (m + 12) (120 * s + i) (lN 0)) := hf.up.ul
          generalize upL (upI μ' (m + 11) (120 * s + i) (nI (F j))) (m + 12) (120 * s + i) (lN 0) = μ3 at g1 g2 g3 g4
          rw [nx_cl (by omega), g1, g2, eix, nx_cl (by omega), g3, ul_at, ul_at, lN_add, lN_add, lg_cmp_le, lg_cmp_le, pk_lLE (by omega) (by omega), pk_lLE (by omega) (by omega), nI_add]
          refine ⟨hv, hv, fun z2 => absurd rfl z2, fun z2 => ⟨hv2, hv, hv, fun z3 => ⟨hv, hv, ?_⟩, fun z3 => absurd (by omega) z3⟩⟩
          exact ih (j + 1) _ (by omega) g4.ul.ul (by rw [e3, ul_1, ul_1]; exact g1) (by rw [e3, ul_at, Nat.zero_add])
    have hne : ¬ s = cv.length - 1 := by omega
    refine useV (mSections_ok hwf _ hN.1.1 hcl) ?_
    rw [hsub, nx_eq (by omega) (by omega), pk_mul, nI_add, nx_cl (by omega)]
    refine ⟨fun _ => ⟨hv, ?_⟩, fun z => absurd z hne⟩
    have f1 : FL m (120 * s + i) μ (upI μ (m + 11) (120 * s + i) (nI 1048576)) := (FL.rf _ _ _).up
    refine useV (mSections_ok hwf _ (hN.fr f1.1 (by simp)).1.1 hcl) ?_
    rw [hsub, nx_eq (by omega) (by omega)]
    refine ⟨fun _ => ⟨hv, l53 (stk rk (cv.getD (s + 1) 0)).length 0 _ (by omega) f1.ul (by rw [ul_1, up_at]; rfl) (by rw [ul_at]; rfl)⟩, fun z => absurd z hne⟩
  · have hsl : s = cv.length - 1 := by omega
    have ed : cv.drop s = [cv.getD s 0] := by
      rw [drop_cons hs, List.drop_eq_nil_of_le (by omega)]
    have ec : dpc rk (cv.drop s) i = 0 := by rw [ed]; rfl
    have em : dpm rk (cv.drop s) i = 1 := by rw [ed]; rfl
    rw [ec, em] at hC
    refine useV (mSections_ok hwf _ hN.1.1 hcl) ?_
    rw [hsub, nx_eq (by omega) (by omega), pk_mul, nI_add, nx_cl (by omega)]
    refine ⟨fun z => absurd hsl z, fun _ => ⟨hv, ?_⟩⟩
    have f1 : FL m (120 * s + i) μ (upI μ (m + 11) (120 * s + i) (nI 0)) := (FL.rf _ _ _).up
    refine useV (mSections_ok hwf _ (hN.fr f1.1 (by simp)).1.1 hcl) ?_
    rw [hsub, nx_eq (by omega) (by omega)]
    refine ⟨fun z => absurd hsl z, fun _ => ⟨hv, ?_⟩⟩
    refine g_M_setLeast_53 hC ?_
    refine useV (mSections_ok hwf _ (hN.fr f1.ul.1 (by simp)).1.1 hcl) ?_
    rw [hsub, nx_le (by omega) (by omega)]
    exact ⟨fun _ => ⟨rfl, f1.ul, by rw [ul_1, up_at], by rw [ul_at]⟩, fun z => absurd (by omega) z⟩
