/-! the reference: the nest -/
/-- the chosen stacks by their numbers -/
def chx (rk : Nat → Nat) : List Nat → Option (Nat × List Nat) → Nat → List Nat
  | [], _, _ => []
  | c :: r, pre, left => chI rk c r pre left :: chx rk r (some (c, (stk rk c).getD (chI rk c r pre left) [])) (dpc rk (c :: r) (chI rk c r pre left))
theorem chx_len (rk : Nat → Nat) : ∀ (cv : List Nat) (pre : Option (Nat × List Nat)) (left : Nat), (chx rk cv pre left).length = cv.length
  | [], _, _ => rfl
  | c :: r, pre, left => by
    show (_ :: chx rk r _ _).length = _
    rw [List.length_cons, chx_len rk r, List.length_cons]
theorem chs_chx (rk : Nat → Nat) : ∀ (cv : List Nat) (pre : Option (Nat × List Nat)) (left s : Nat), s < cv.length → (chs rk cv pre left).getD s [] = (stk rk (cv.getD s 0)).getD ((chx rk cv pre left).getD s 0) []
  | [], _, _, s, h => absurd h (Nat.not_lt_zero _)
  | c :: r, pre, left, 0, _ => rfl
  | c :: r, pre, left, s + 1, h => chs_chx rk r _ _ s (by simpa using h)
/-- each choice, by the one ahead of it -/
theorem chx_step (rk : Nat → Nat) : ∀ (cv : List Nat) (pre : Option (Nat × List Nat)) (left s : Nat), s + 1 < cv.length → (chx rk cv pre left).getD (s + 1) 0 = chI rk (cv.getD (s + 1) 0) (cv.drop (s + 2)) (some (cv.getD s 0, (stk rk (cv.getD s 0)).getD ((chx rk cv pre left).getD s 0) [])) (dpc rk (cv.drop s) ((chx rk cv pre left).getD s 0))
  | [], _, _, s, h => absurd h (Nat.not_lt_zero _)
  | [c], _, _, s, h => by simp at h
  | c :: c' :: r, pre, left, 0, _ => rfl
  | c :: c' :: r, pre, left, s + 1, h => chx_step rk (c' :: r) _ _ s (by simpa using h)
theorem chx_in {rk : Nat → Nat} (hrk : ∀ r, r < 8 → rk r < 4) : ∀ (cv : List Nat) (pre : Option (Nat × List Nat)) (left : Nat), okC cv → cv.length ≤ 100 → feas rk cv pre left → ∀ s, s < cv.length → (chx rk cv pre left).getD s 0 < (stk rk (cv.getD s 0)).length
  | [], _, _, _, _, _, s, h => absurd h (Nat.not_lt_zero _)
  | c :: r, pre, left, hok, hl, hf, 0, _ => (chI_at hf).1
  | c :: r, pre, left, hok, hl, hf, s + 1, h => by
    have h1 := (chI_at hf).1
    have hl2 : r.length + 1 ≤ 100 := by simpa using hl
    exact chx_in hrk r _ _ hok.tl (by omega) (feas_step hrk hok (by omega) h1) s (by simpa using h)
theorem fst_one {p : Nat → Bool} {n c : Nat} (hc : c < n) (hp : p c = true) (hl : ∀ q, q < c → ¬ p q = true) : fstI p n 0 = c := by
  obtain ⟨a1, a2, a3⟩ := fstI_at (p := p) n 0 ⟨c, by omega, by omega, hp⟩
  rcases Nat.lt_trichotomy (fstI p n 0) c with q | q | q
  · exact absurd a3 (hl _ q)
  · exact q
  · exact absurd hp (fstI_lt n 0 c (by omega) q)
/-- least and ways of the sections from k on -/
def LsA (μ : Mem) (m : Nat) (rk : Nat → Nat) (cv : List Nat) (k : Nat) : Prop := ∀ s, k ≤ s → s < cv.length → LsM μ m s (stk rk (cv.getD s 0)).length (dpc rk (cv.drop s)) (dpm rk (cv.drop s))
def neS (m : Nat) : List Nat := [m + 7, m + 8, m + 9, m + 10, m + 11, m + 12, m + 13, m + 14]
/-- all that the nest is made of, in the reference -/
def NeM (μ : Mem) (m : Nat) (rk : Nat → Nat) (cs cv : List Nat) : Prop := NW μ m rk cs cv ∧ LsA μ m rk cv 0 ∧ ∀ s, s < cv.length → μ.1 (m + 13) s = nI ((chx rk cv none (few rk cv)).getD s 0)
theorem LsA.fr {μ μ1 : Mem} {m k : Nat} {rk : Nat → Nat} {cv S F : List Nat} (h : LsA μ m rk cv k) (hf : FM m S F μ μ1) (h1 : m + 11 ∉ S ∧ m + 12 ∉ S) : LsA μ1 m rk cv k := fun s h2 h3 i hi => by
  obtain ⟨a, b⟩ := h s h2 h3 i hi
  exact ⟨by rw [hf.1 (m + 11) (by omega) h1.1]; exact a, by rw [hf.2.2 (m + 12) h1.2]; exact b⟩
theorem mSetNest_ok {lay : List Nat} (hwf : wfB lay = true) (d : Nat) {μ : Mem} {m : Nat} {T : TS} (hT : MTe μ m T) (hw : WT T) (hnc : NC T.1) (sk : Nat) (fr : Bool) : Rn lay (d + 4) mM_setNest [rf 16 m, vi (skI sk), vi (nI (if fr = true then 1 else 0))] μ (Pq fun v μ1 => v = nI (few (rkT T fr) (cvL T.1 sk (cutsOf T.1 sk))) ∧ NeM μ1 m (rkT T fr) (cutsOf T.1 sk) (cvL T.1 sk (cutsOf T.1 sk)) ∧ FM m (neS m) [9] μ μ1) := by
  have hn := hw.1.1
  have hcl : (cutsOf T.1 sk).length ≤ 16 := csT_len hw sk
  have hvl : (cvL T.1 sk (cutsOf T.1 sk)).length = (cutsOf T.1 sk).length - 1 := cvL_len T.1 sk _
  have hok : okC (cvL T.1 sk (cutsOf T.1 sk)) := okC_cv hn hnc sk _
  have hrk : ∀ r, r < 8 → rkT T fr r < 4 := fun r _ => rkT_lt hw fr r
  have hbt : ∀ s, s < (cvL T.1 sk (cutsOf T.1 sk)).length → ∀ j, j < 8 → ((cvL T.1 sk (cutsOf T.1 sk)).getD s 0).testBit j = true → j < T.1.length := fun s hs j hj hb => by
    rw [cvL_at (by omega)] at hb
    have hc := cov_lt (p := (cutsOf T.1 sk).getD s 0) hn
    have : (cov T.1 ((cutsOf T.1 sk).getD s 0)).testBit j = true := by
      by_cases hk : sk < 8
      · exact ((clr_bit sk hk _ hc j hj).mp hb).1
      · unfold clr at hb
        rw [if_neg hk] at hb
        exact hb
    exact ((cov_bit _ _ _).mp this).1
  refine Rn_intro ok_M_setNest hwf rfl (fun G hC => g_M_setNest_0 hC ?_)
  refine useN (mSetCuts_ok hwf _ hT hw sk) (fun μ1 hp => ?_)
  obtain ⟨c1, c2, c3⟩ := hp
  refine useN (mSetStacks_ok hwf _ (hT.fr c3 (by simp) (by simp)) hw c1 c2 hcl hvl hok hbt fr) (fun μ2 hp => ?_)
  obtain ⟨k1, k2⟩ := hp
  have w0 : NW μ2 m (rkT T fr) (cutsOf T.1 sk) (cvL T.1 sk (cutsOf T.1 sk)) := ⟨⟨by rw [k2.2.1 9 (by simp)]; exact c1.1, fun i hi => by rw [k2.1 (m + 7) (by omega) (by simp [rkS])]; exact c1.2 i hi⟩, fun i hi => by rw [k2.1 (m + 8) (by omega) (by simp [rkS])]; exact c2 i hi, k1⟩
  have f0 : FM m (neS m) [9] μ μ2 := (c3.mono (by simp [neS]) (by simp)).tr (k2.mono (by simp [neS, rkS]) (by simp))
  refine useV (mSections_ok hwf _ w0.1.1 hcl) ?_
  rw [← hvl]
  generalize cvL T.1 sk (cutsOf T.1 sk) = cv at hvl hok hbt c2 k1 w0 hC
  generalize cutsOf T.1 sk = cs at hcl hvl c1 w0 hC
  generalize rkT T fr = rk at hrk k1 w0 hC
  clear hbt c1 c2 k1
  have h100 : cv.length ≤ 100 := by omega
  have hfe := feas_first hrk hok h100
  -- the choices
  have l151 : ∀ k s (μ' : Mem), s + k = cv.length → 1 ≤ s → NW μ' m rk cs cv → LsA μ' m rk cv 0 → (∀ q, q < s → q < cv.length → μ'.1 (m + 13) q = nI ((chx rk cv none (few rk cv)).getD q 0)) → FM m (neS m) [9] μ μ' → G 151 [rf 16 m, un, un, vi (nI cv.length), vi (nI (few rk cv)), vi (nI s), un, un, un] [] μ' := by
    intro k
    induction k with
    | zero =>
      intro s μ' hs h1 hN hL hch hf
      refine g_M_setNest_151 hC ?_
      rw [nx_le (by omega) (by omega)]
      refine ⟨fun _ => ?_, fun z => absurd (by omega) z⟩
      refine g_M_setNest_278 hC ?_
      rw [nx_0, nx_eq (by omega) (by omega)]
      refine ⟨fun _ => ⟨_, rfl, rfl, ⟨hN, hL, fun q hq => hch q (by omega) hq⟩, hf⟩, fun z => by omega⟩
    | succ k ih =>
      intro s μ' hs h1 hN hL hch hf
      have hsl : s < cv.length := by omega
      obtain ⟨s', hs'⟩ : ∃ s', s = s' + 1 := ⟨s - 1, by omega⟩
      subst hs'
      obtain ⟨p1, p2⟩ := hok.at (show s' < cv.length by omega)
      obtain ⟨q1, q2⟩ := hok.at hsl
      have n1 := stk_len (rk := rk) p1 p2
      have n2 := stk_len (rk := rk) q1 q2
      have hix := chx_in hrk cv none (few rk cv) hok h100 hfe s' (by omega)
      have hix2 := chx_in hrk cv none (few rk cv) hok h100 hfe (s' + 1) hsl
      have hst := chx_step rk cv none (few rk cv) s' hsl
      have hchs := hch s' (by omega) (by omega)
      generalize (chx rk cv none (few rk cv)).getD s' 0 = ix at hix hst hchs
      have ls1 := (hL s' (by omega) (by omega) ix hix).1
      have hd1 := dpc_le hrk (cv.drop s') (hok.drop s') ix
      rw [List.length_drop] at hd1
      have n3 : (stk rk (cv.getD (s' + 1) 0)).length ≤ 120 := n2
      -- the condition at a stack
      have hpre : ∀ i, (decide (bef (some (cv.getD s' 0, (stk rk (cv.getD s' 0)).getD ix [])) (cv.getD (s' + 1) 0) ((stk rk (cv.getD (s' + 1) 0)).getD i []) + dpc rk (cv.getD (s' + 1) 0 :: cv.drop (s' + 2)) i = dpc rk (cv.drop s') ix) = true) ↔ popN (cv.getD s' 0 &&& cv.getD (s' + 1) 0) - alk ((stk rk (cv.getD s' 0)).getD ix []) ((stk rk (cv.getD (s' + 1) 0)).getD i []) + dpc rk (cv.drop (s' + 1)) i = dpc rk (cv.drop s') ix := fun i => by
        rw [decide_eq_true_iff, ← drop_cons hsl]
        exact Iff.rfl
      -- its end
      have l187 : ∀ c (μ3 : Mem), c ≤ (stk rk (cv.getD (s' + 1) 0)).length → FM m [m + 13] [] μ' μ3 → (∀ q, q ≠ s' + 1 → μ3.1 (m + 13) q = μ'.1 (m + 13) q) → ((∀ i, c ≤ i → i < (stk rk (cv.getD (s' + 1) 0)).length → ¬ (popN (cv.getD s' 0 &&& cv.getD (s' + 1) 0) - alk ((stk rk (cv.getD s' 0)).getD ix []) ((stk rk (cv.getD (s' + 1) 0)).getD i []) + dpc rk (cv.drop (s' + 1)) i = dpc rk (cv.drop s') ix)) ∨ ∃ e, c ≤ e ∧ e < (stk rk (cv.getD (s' + 1) 0)).length ∧ μ3.1 (m + 13) (s' + 1) = nI e ∧ (popN (cv.getD s' 0 &&& cv.getD (s' + 1) 0) - alk ((stk rk (cv.getD s' 0)).getD ix []) ((stk rk (cv.getD (s' + 1) 0)).getD e []) + dpc rk (cv.drop (s' + 1)) e = dpc rk (cv.drop s') ix) ∧ ∀ i, c ≤ i → i < e → ¬ (popN (cv.getD s' 0 &&& cv.getD (s' + 1) 0) - alk ((stk rk (cv.getD s' 0)).getD ix []) ((stk rk (cv.getD (s' + 1) 0)).getD i []) + dpc rk (cv.drop (s' + 1)) i = dpc rk (cv.drop s') ix)) → G 187 [rf 16 m, un, un, vi (nI cv.length), vi (nI (few rk cv)), vi (nI (s' + 1)), vi (nI (120 * s' + ix)), vi (sI c), un] [] μ3 := by
        intro c
        induction c with
        | zero =>
          intro μ3 hc hf3 hq3 hb
          refine g_M_setNest_187 hC ⟨fun _ => ?_, fun z => absurd sI_0 z⟩
          rw [nI_add]
          refine ih (s' + 1 + 1) μ3 (by omega) (by omega) (hN.fr hf3 (by simp)) (hL.fr hf3 (by simp)) (fun q h2 h3 => ?_) (hf.tr (hf3.mono (by simp [neS]) (by simp)))
          by_cases e : q = s' + 1
          · subst e
            rcases hb with w | ⟨e, e1, e2, e3, e4, e5⟩
            · exfalso
              have hfs : feas rk (cv.drop (s' + 1)) (some (cv.getD s' 0, (stk rk (cv.getD s' 0)).getD ix [])) (dpc rk (cv.getD s' 0 :: cv.drop (s' + 1)) ix) := feas_step hrk (by rw [← drop_cons (show s' < cv.length by omega)]; exact hok.drop s') (by rw [List.length_drop]; omega) hix
              rw [drop_cons hsl] at hfs
              obtain ⟨i, i1, i2⟩ := hfs
              refine w i (by omega) i1 ?_
              rw [drop_cons hsl, drop_cons (show s' < cv.length by omega), drop_cons hsl]
              exact i2
            · rw [e3, hst]
              congr 1
              symm
              exact fst_one e2 ((hpre e).mpr e4) (fun q hq w => e5 q (by omega) hq ((hpre q).mp w))
          · rw [hq3 q e]
            exact hch q (by omega) h3
        | succ c ih3 =>
          intro μ3 hc hf3 hq3 hb
          have hcl2 : c < (stk rk (cv.getD (s' + 1) 0)).length := by omega
          have hN3 := hN.fr hf3 (by simp)
          have hL3 := hL.fr hf3 (by simp)
          have hch3 : μ3.1 (m + 13) s' = nI ix := by rw [hq3 s' (by omega)]; exact hchs
          have lc := (hL3 (s' + 1) (by omega) hsl c hcl2).1
          have lb := (hL3 s' (by omega) (by omega) ix hix).1
          have hd2 := dpc_le hrk (cv.drop (s' + 1)) (hok.drop (s' + 1)) c
          rw [List.length_drop] at hd2
          have hp8 := popN_and (cv.getD s' 0) (cv.getD (s' + 1) 0)
          have hv15 : vp_in (nI (s' + 1)) 15 := vin (by omega) (by omega)
          refine g_M_setNest_187 hC ⟨fun z => absurd z (sI_s c (by omega)), fun _ => ?_⟩
          show vp_in (nI (s' + 1) - nI 1) 15 ∧ (∃ P208 : PT, Rn lay (d + 3) mM_splitsBy [rf 16 m, vi (nI (s' + 1) - nI 1), vi (μ3.1 (m + 13) (nI (s' + 1) - nI 1).toNatClampNeg), vi (nI c)] μ3 P208 ∧ _)
          rw [nx_sub (by omega), Nat.add_sub_cancel, nx_cl (by omega), hch3]
          refine ⟨vin (by omega) (by omega), useV (mSplitsBy_ok hwf (d + 1) hN3 hok hsl (by omega) hix hcl2) ?_⟩
          simp (disch := omega) only [show sI (c + 1) = nI c from rfl, pk_mul, nI_add, nx_cl, lc, lb, nx_eq, sI_next]
          refine ⟨vin (by omega) (by omega), vin (by omega) (by omega), fun z => ⟨hv15, hv15, ?_⟩, fun z => ⟨hv15, ?_⟩⟩
          · refine ih3 _ (by omega) (hf3.up (by simp) (by omega)) (fun q hq => by rw [up_n2 hq]; exact hq3 q hq) ?_
            rcases hb with w | ⟨e, e1, e2, e3, e4, e5⟩
            · refine Or.inl (fun i h2 h3 => ?_)
              by_cases ei : i = c
              · rw [ei]; exact z
              · exact w i (by omega) h3
            · refine Or.inr ⟨e, by omega, e2, by rw [up_at]; exact e3, e4, fun i h2 h3 => ?_⟩
              by_cases ei : i = c
              · rw [ei]; exact z
              · exact e5 i (by omega) h3
          · exact ih3 _ (by omega) (hf3.up (by simp) (by omega)) (fun q hq => by rw [up_n2 hq]; exact hq3 q hq) (Or.inr ⟨c, Nat.le_refl _, hcl2, by rw [up_at], z, fun i h2 h3 => by omega⟩)
      refine g_M_setNest_151 hC ?_
      rw [nx_le (by omega) (by omega), nx_sub (by omega), Nat.add_sub_cancel, nx_cl (by omega), nx_cl (by omega), hchs, (hN.2.2 (s' + 1) hsl hsl).1, sI_pre, pk_mul, nI_add]
      refine ⟨fun z => absurd z (by omega), fun _ => ⟨vin (by omega) (by omega), vin (by omega) (by omega), l187 _ μ' (Nat.le_refl _) (FM.rf _ _ _ _) (fun _ _ => rfl) (Or.inl (fun i h2 h3 => by omega))⟩⟩
  -- the first choice
  have l67 : 0 < cv.length → ∀ k i (μ' : Mem) (al : Nat), i + k = (stk rk (cv.getD 0 0)).length → NW μ' m rk cs cv → LsA μ' m rk cv 0 → FM m (neS m) [9] μ μ' → ((i = 0 ∧ al = 1048576) ∨ (0 < i ∧ al = chU (dpc rk cv) 0 i ∧ ∃ c, c < i ∧ μ'.1 (m + 13) 0 = nI c ∧ dpc rk cv c = al ∧ ∀ q, q < c → ¬ dpc rk cv q = al)) → G 67 [rf 16 m, un, un, vi (nI cv.length), vi (nI al), vi (nI i), un, un, un] [] μ' := by
    intro hpos k
    obtain ⟨p1, p2⟩ := hok.at hpos
    have n1 := stk_len (rk := rk) p1 p2
    have pos1 := stk_pos hrk p1 p2
    have ecv : cv = cv.getD 0 0 :: cv.drop 1 := by
      have := drop_cons hpos
      rw [List.drop_zero] at this
      exact this
    have hdl : ∀ q, dpc rk cv q ≤ 8 * 15 := fun q => by
      have := dpc_le hrk cv hok q
      omega
    induction k with
    | zero =>
      intro i μ' al hi hN hL hf hb
      have hs0 := (hN.2.2 0 hpos hpos).1
      rcases hb with ⟨b1, b2⟩ | ⟨b1, b2, c, b3, b4, b5, b6⟩
      · omega
      · have ei : i = (stk rk (cv.getD 0 0)).length := by omega
        have efew : few rk cv = al := by
          rw [b2, ei]
          conv => lhs; rw [ecv]
          show chU (dpc rk (cv.getD 0 0 :: cv.drop 1)) 0 _ = _
          rw [← ecv]
        refine g_M_setNest_67 hC ?_
        rw [nx_0, nx_le (by omega) (by omega), c012.1, hs0, nx_le (by omega) (by omega)]
        refine ⟨fun z => by omega, fun _ => ⟨vin (by omega) (by omega), fun _ => ?_, fun z => absurd (by omega) z⟩⟩
        rw [← efew]
        refine l151 (cv.length - 1) 1 μ' (by omega) (Nat.le_refl _) hN hL (fun q h2 h3 => ?_) hf
        have eq0 : q = 0 := by omega
        subst eq0
        rw [b4]
        congr 1
        have e1 : (chx rk cv none (few rk cv)).getD 0 0 = chI rk (cv.getD 0 0) (cv.drop 1) none (few rk cv) := by
          conv => lhs; rw [show chx rk cv none (few rk cv) = chx rk (cv.getD 0 0 :: cv.drop 1) none (few rk cv) by rw [← ecv]]
          rfl
        rw [e1]
        symm
        refine fst_one (by omega) ?_ (fun q hq w => ?_)
        · rw [decide_eq_true_iff, ← ecv, efew]
          show 0 + dpc rk cv c = al
          omega
        · rw [decide_eq_true_iff, ← ecv, efew] at w
          have w : 0 + dpc rk cv q = al := w
          exact b6 q hq (by omega)
    | succ k ih =>
      intro i μ' al hi hN hL hf hb
      have hs0 := (hN.2.2 0 hpos hpos).1
      have hil : i < (stk rk (cv.getD 0 0)).length := by omega
      have l0 := (hL 0 (Nat.le_refl _) hpos i hil).1
      rw [List.drop_zero, Nat.mul_zero, Nat.zero_add] at l0
      have hdi := hdl i
      have hal : al ≤ 1048576 := by
        rcases hb with ⟨_, b2⟩ | ⟨_, b2, _⟩
        · omega
        · have := chU_le (dpc rk cv) 0 i
          omega
      refine g_M_setNest_67 hC ?_
      rw [nx_0, nx_le (by omega) (by omega), c012.1, hs0, nx_le (by omega) (by omega), nx_cl (by omega), l0, nx_le (by omega) (by omega)]
      have hv0 : vp_in (nI 0) 15 := vin (by omega) (by omega)
      have hvi : vp_in (nI i) 1800 := vin (by omega) (by omega)
      have up13 : ∀ v, NW (upI μ' (m + 13) 0 v) m rk cs cv ∧ LsA (upI μ' (m + 13) 0 v) m rk cv 0 ∧ FM m (neS m) [9] μ (upI μ' (m + 13) 0 v) := fun v => by
        have hf1 : FM m [m + 13] [] μ' (upI μ' (m + 13) 0 v) := (FM.rf _ _ _ _).up (by simp) (by omega)
        exact ⟨hN.fr hf1 (by simp), hL.fr hf1 (by simp), hf.tr (hf1.mono (by simp [neS]) (by simp))⟩
      refine ⟨fun z => by omega, fun _ => ⟨hv0, fun z => absurd z (by omega), fun _ => ⟨hvi, fun z => ?_, fun z => ?_⟩⟩⟩
      · refine g_M_setNest_99 hC ?_
        rw [c012.1, nI_add]
        refine ⟨fun _ => ⟨hv0, hv0, fun _ => ?_, fun w => absurd nx_0.symm w⟩, fun w => absurd nx_0.symm w⟩
        obtain ⟨u1, u2, u3⟩ := up13 (μ'.1 (m + 13) 0)
        refine ih (i + 1) _ al (by omega) u1 u2 u3 ?_
        rcases hb with ⟨b1, b2⟩ | ⟨b1, b2, c, b3, b4, b5, b6⟩
        · omega
        · refine Or.inr ⟨by omega, ?_, c, by omega, by rw [up_at]; exact b4, b5, b6⟩
          rw [chU_s, if_neg (by omega)]
          exact b2
      · refine g_M_setNest_99 hC ?_
        have n10 : ¬ nI 1 = 0 := by decide
        rw [c012.1, nI_add, nx_cl (by omega), up_n1 (by omega), up_n1 (by omega), l0]
        refine ⟨fun w => absurd w n10, fun _ => ⟨hv0, fun w => absurd w n10, fun _ => ⟨hvi, ?_⟩⟩⟩
        obtain ⟨u1, u2, u3⟩ := up13 (nI i)
        refine ih (i + 1) _ _ (by omega) u1 u2 u3 (Or.inr ⟨by omega, ?_, i, by omega, by rw [up_at], rfl, fun q hq w => ?_⟩)
        · rw [chU_s]
          rcases hb with ⟨b1, b2⟩ | ⟨b1, b2, _⟩
          · subst b1
            have : chU (dpc rk cv) 0 0 = 1000000 := rfl
            rw [this, if_pos (by omega)]
          · rw [if_pos (by omega)]
        · rcases hb with ⟨b1, b2⟩ | ⟨b1, b2, _⟩
          · omega
          · have := chU_low (F := dpc rk cv) i q hq
            omega
  -- section by section, from the last one back
  have l20 : ∀ k (μ' : Mem), k ≤ cv.length → NW μ' m rk cs cv → LsA μ' m rk cv k → FM m (neS m) [9] μ μ' → G 20 [rf 16 m, un, un, vi (nI cv.length), vi (sI k), un, un, un, un] [] μ' := by
    intro k
    induction k with
    | zero =>
      intro μ' hk hN hL hf
      refine g_M_setNest_20 hC ⟨fun _ => ?_, fun z => absurd sI_0 z⟩
      rcases Nat.eq_zero_or_pos cv.length with q | q
      · have ecv : cv = [] := List.eq_nil_of_length_eq_zero q
        refine g_M_setNest_67 hC ?_
        rw [q, nx_0, nx_le (by omega) (by omega)]
        refine ⟨fun _ => ?_, fun z => absurd (Nat.le_refl _) z⟩
        refine g_M_setNest_151 hC ?_
        rw [nx_le (by omega) (by omega)]
        refine ⟨fun _ => ?_, fun z => absurd (by omega) z⟩
        refine g_M_setNest_278 hC ⟨fun z => absurd nx_0.symm z, fun _ => ⟨_, rfl, by rw [ecv]; rfl, ⟨hN, hL, fun s hs => by omega⟩, hf⟩⟩
      · exact l67 q _ 0 μ' 1048576 (Nat.zero_add _) hN hL hf (Or.inl ⟨rfl, rfl⟩)
    | succ k ih =>
      intro μ' hk hN hL hf
      have hkl : k < cv.length := by omega
      obtain ⟨p1, p2⟩ := hok.at hkl
      have n1 := stk_len (rk := rk) p1 p2
      have l28 : ∀ c i (μ3 : Mem), i + c = (stk rk (cv.getD k 0)).length → NW μ3 m rk cs cv → LsA μ3 m rk cv (k + 1) → (∀ j, j < i → μ3.1 (m + 11) (120 * k + j) = nI (dpc rk (cv.drop k) j) ∧ μ3.2 (m + 12) (120 * k + j) = lN (dpm rk (cv.drop k) j)) → FM m (neS m) [9] μ μ3 → G 28 [rf 16 m, un, un, vi (nI cv.length), vi (nI k), vi (nI i), un, un, un] [] μ3 := by
        intro c
        induction c with
        | zero =>
          intro i μ3 hi hN3 hL3 hj3 hf3
          refine g_M_setNest_28 hC ?_
          rw [nx_cl (by omega), (hN3.2.2 k hkl hkl).1, nx_le (by omega) (by omega), sI_next]
          refine ⟨vin (by omega) (by omega), fun _ => ih μ3 (by omega) hN3 (fun s h2 h3 => ?_) hf3, fun z => absurd (by omega) z⟩
          by_cases e : s = k
          · subst e
            exact fun j hj => hj3 j (by omega)
          · exact hL3 s (by omega) h3
        | succ c ih3 =>
          intro i μ3 hi hN3 hL3 hj3 hf3
          have hil : i < (stk rk (cv.getD k 0)).length := by omega
          refine g_M_setNest_28 hC ?_
          rw [nx_cl (by omega), (hN3.2.2 k hkl hkl).1, nx_le (by omega) (by omega), nI_add]
          refine ⟨vin (by omega) (by omega), fun z => absurd z (by omega), fun _ => ?_⟩
          refine useN (mSetLeast_ok hwf d hN3 hok hrk hcl hvl hkl hil (fun h => hL3 (k + 1) (Nat.le_refl _) h)) (fun μ4 hp => ?_)
          obtain ⟨⟨g1, g2⟩, g3, g4⟩ := hp
          refine ih3 (i + 1) μ4 (by omega) (hN3.fr g1 (by simp)) (fun s h2 h3 j hj => ?_) (fun j hj => ?_) (hf3.tr (g1.mono (by simp [neS]) (by simp)))
          · have nj := stk_len (rk := rk) (hok.at h3).1 (hok.at h3).2
            obtain ⟨a, b⟩ := hL3 s h2 h3 j hj
            obtain ⟨e1, e2⟩ := g2 (120 * s + j) (by omega)
            exact ⟨by rw [e1]; exact a, by rw [e2]; exact b⟩
          · by_cases e : j = i
            · rw [e]
              exact ⟨g3, g4⟩
            · obtain ⟨a, b⟩ := hj3 j (by omega)
              obtain ⟨e1, e2⟩ := g2 (120 * k + j) (by omega)
              exact ⟨by rw [e1]; exact a, by rw [e2]; exact b⟩
      refine g_M_setNest_20 hC ⟨fun z => absurd z (sI_s k (by omega)), fun _ => ?_⟩
      exact l28 _ 0 μ' (Nat.zero_add _) hN hL (fun j hj => absurd hj (Nat.not_lt_zero _)) hf
  rw [sI_pre]
  exact l20 cv.length μ2 (Nat.le_refl _) w0 (fun s h2 h3 => by omega) f0
