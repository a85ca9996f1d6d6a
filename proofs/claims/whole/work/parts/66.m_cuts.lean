/-! the reference: cuts and covers -/
def CuM (μ : Mem) (m : Nat) (l : List Nat) : Prop := μ.1 m 9 = nI l.length ∧ ∀ i, i < l.length → μ.1 (m + 7) i = nI (l.getD i 0)
def CvM (μ : Mem) (m : Nat) (cv : List Nat) : Prop := ∀ i, i < cv.length → μ.1 (m + 8) i = nI (cv.getD i 0)
theorem mSections_ok {lay : List Nat} (hwf : wfB lay = true) (d : Nat) {μ : Mem} {m n : Nat} (h : μ.1 m 9 = nI n) (hn : n ≤ 16) : Rn lay d mM_sections [rf 16 m] μ (Pv (nI (n - 1)) μ) := by
  refine Rn_intro ok_M_sections hwf rfl (fun G hC => g_M_sections_0 hC ?_)
  rw [h, nx_0, nx_le (by omega) (by omega)]
  refine ⟨fun z => pv_e (by rw [show n - 1 = 0 by omega]), fun z => pv_e (by rw [nx_sub (by omega)])⟩
theorem mCut_ok {lay : List Nat} (hwf : wfB lay = true) (d : Nat) {μ : Mem} {m : Nat} {l : List Nat} (hC : CuM μ m l) (hl : l.length < 16) (hb : ∀ c ∈ l, c ≤ 90) {p : Nat} (hp : p ≤ 90) : Rn lay d mM_comesCut [rf 16 m, vi (nI p)] μ (Pn fun μ1 => CuM μ1 m (insC l p) ∧ FM m [m + 7] [9] μ μ1) := by
  obtain ⟨hc, hi⟩ := hC
  have hbd : ∀ i, l.getD i 0 ≤ 90 := fun i => by
    rw [List.getD]
    cases hq : l[i]? with
    | none => simp
    | some c => exact hb c (List.mem_of_getElem? hq)
  refine Rn_intro ok_M_comesCut hwf rfl (fun G hG => g_M_comesCut_0 hG ?_)
  have f75 : ∀ (μ' : Mem) (k : Nat), k = posC l p → ¬ l[k]? = some p → μ'.1 m 9 = nI l.length → (∀ i, i < k → μ'.1 (m + 7) i = nI (l.getD i 0)) → (∀ i, k < i → i ≤ l.length → μ'.1 (m + 7) i = nI (l.getD (i - 1) 0)) → FM m [m + 7] [9] μ μ' → G 75 [rf 16 m, vi (nI p), vi (nI k), un] [] μ' := by
    intro μ' k hk hne h3 hlo hhi hf
    have hkl : k ≤ l.length := by rw [hk]; exact posC_le l p
    have e : insC l p = l.take k ++ p :: l.drop k := by
      unfold insC
      rw [← hk, if_neg hne]
    refine g_M_comesCut_75 hG ?_
    simp (disch := omega) only [nx_cl, nx_in', up_n1, h3, nI_add]
    refine ⟨by omega, rfl, ⟨?_, fun i hi2 => ?_⟩, (hf.up (by simp) (by omega)).upf (by simp)⟩
    · rw [up_at, e]
      congr 1
      simp
      omega
    · rw [e] at hi2 ⊢
      have hi3 : i ≤ l.length := by
        simp at hi2
        omega
      rw [up_n1 (by omega)]
      by_cases h1 : i = k
      · subst h1
        rw [up_at, List.getD, List.getElem?_append_right (by simp; omega)]
        simp [Nat.min_eq_left hkl]
      · rw [up_n2 h1]
        rcases Nat.lt_or_ge i k with q | q
        · rw [hlo i q, List.getD, List.getD, List.getElem?_append_left (by simp; omega), List.getElem?_take, if_pos q]
        · rw [hhi i (by omega) hi3, List.getD, List.getD, List.getElem?_append_right (by simp; omega)]
          congr 2
          rw [List.length_take, Nat.min_eq_left hkl, show i - k = (i - k - 1) + 1 by omega, List.getElem?_cons_succ, List.getElem?_drop]
          congr 1
          omega
  have f50 : ∀ n (μ' : Mem) (k : Nat), k = posC l p → ¬ l[k]? = some p → k + n ≤ l.length → μ'.1 m 9 = nI l.length → (∀ i, i < k + n → μ'.1 (m + 7) i = nI (l.getD i 0)) → (∀ i, k + n < i → i ≤ l.length → μ'.1 (m + 7) i = nI (l.getD (i - 1) 0)) → FM m [m + 7] [9] μ μ' → G 50 [rf 16 m, vi (nI p), vi (nI k), vi (nI (k + n))] [] μ' := by
    intro n
    induction n with
    | zero =>
      intro μ' k hk hne hkn h3 hlo hhi hf
      refine g_M_comesCut_50 hG ?_
      rw [nx_le (by omega) (by omega)]
      exact ⟨fun _ => f75 μ' k hk hne h3 hlo hhi hf, fun z => absurd (by omega) z⟩
    | succ n ih =>
      intro μ' k hk hne hkn h3 hlo hhi hf
      refine g_M_comesCut_50 hG ?_
      rw [show k + (n + 1) = (k + n) + 1 by omega] at hlo hhi ⊢
      rw [nx_le (by omega) (by omega), nx_dec, nx_sub (by omega), Nat.add_sub_cancel]
      simp (disch := omega) only [nx_cl, nx_in']
      refine ⟨fun z => absurd z (by omega), fun _ => ⟨by omega, by omega, ih _ k hk hne (by omega) ?_ (fun i hi2 => ?_) (fun i hi2 hi3 => ?_) (hf.up (by simp) (by omega))⟩⟩
      · rw [up_n1 (by omega)]; exact h3
      · rw [up_n2 (by omega)]; exact hlo i (by omega)
      · by_cases e : i = k + n + 1
        · subst e
          rw [up_at, Nat.add_sub_cancel]
          exact hlo (k + n) (by omega)
        · rw [up_n2 e]
          exact hhi i (by omega) hi3
  have f26 : ∀ k, k ≤ l.length → k = posC l p → G 26 [rf 16 m, vi (nI p), vi (nI k), un] [] μ := by
    intro k hkl hk
    refine g_M_comesCut_26 hG ?_
    rw [hc]
    have tail : ¬ l[k]? = some p → G 50 [rf 16 m, vi (nI p), vi (nI k), vi (nI l.length)] [] μ := by
      intro hne
      have := f50 (l.length - k) μ k hk hne (by omega) hc (fun i hi2 => hi i (by omega)) (fun i hi2 hi3 => by omega) (FM.rf _ _ _ _)
      rw [show k + (l.length - k) = l.length by omega] at this
      exact this
    rw [nx_le (by omega) (by omega)]
    refine ⟨fun z => tail ?_, fun z => ?_⟩
    · rw [List.getElem?_eq_none z]
      simp
    · have hkl2 : k < l.length := by omega
      have hg : l[k]? = some (l.getD k 0) := by rw [List.getD, List.getElem?_eq_getElem hkl2]; rfl
      rw [nx_in' (by omega) (by omega), nx_cl (by omega), hi k hkl2, nx_eq (by have := hbd k; omega) (by omega)]
      refine ⟨by omega, fun z3 => tail (by rw [hg]; simp; exact z3), fun z3 => ⟨rfl, ?_, FM.rf _ _ _ _⟩⟩
      unfold insC
      rw [← hk, if_pos (by rw [hg, z3])]
      exact ⟨hc, hi⟩
  have f2 : ∀ n k, k + n = l.length → (∀ i, i < k → l.getD i 0 < p) → G 2 [rf 16 m, vi (nI p), vi (nI k), un] [] μ := by
    intro n
    induction n with
    | zero =>
      intro k hk hlt
      refine g_M_comesCut_2 hG ?_
      rw [hc, nx_le (by omega) (by omega)]
      exact ⟨fun _ => f26 k (by omega) (posC_stop hlt (by omega) (fun q => by omega)).symm, fun z => absurd (by omega) z⟩
    | succ n ih =>
      intro k hk hlt
      have := hbd k
      refine g_M_comesCut_2 hG ?_
      simp (disch := omega) only [hc, nx_le, nx_cl, nx_in', hi k (by omega), nI_add]
      refine ⟨fun z => absurd z (by omega), fun _ => ⟨by omega, fun z => ?_, fun z => ?_⟩⟩
      · exact f26 k (by omega) (posC_stop hlt (by omega) (fun q => by omega)).symm
      · refine ih (k + 1) (by omega) (fun i hi2 => ?_)
        rcases Nat.lt_or_ge i k with q | q
        · exact hlt i q
        · rw [show i = k by omega]; omega
  exact f2 l.length 0 (by omega) (fun i hi2 => by omega)
/-- the ranges over a section, bit by bit, as the reference looks for them -/
def mcU (rs : List RG) (sk : Nat) (cs : List Nat) (s : Nat) : Nat → Nat
  | 0 => 0
  | i + 1 => mcU rs sk cs s i ||| (if ¬ i = sk ∧ ra rs i ≤ cs.getD s 0 ∧ cs.getD (s + 1) 0 ≤ rb rs i then 2 ^ i else 0)
theorem mcU_bit (rs : List RG) (sk : Nat) (cs : List Nat) (s j : Nat) : ∀ i, (mcU rs sk cs s i).testBit j = decide (j < i ∧ ¬ j = sk ∧ ra rs j ≤ cs.getD s 0 ∧ cs.getD (s + 1) 0 ≤ rb rs j)
  | 0 => by simp [mcU]
  | i + 1 => by
    unfold mcU
    rw [Nat.testBit_or, mcU_bit rs sk cs s j i]
    by_cases hc : ¬ i = sk ∧ ra rs i ≤ cs.getD s 0 ∧ cs.getD (s + 1) 0 ≤ rb rs i
    · rw [if_pos hc, Nat.testBit_two_pow]
      by_cases e : i = j
      · subst e
        rw [decide_eq_true (show i < i + 1 ∧ ¬ i = sk ∧ ra rs i ≤ cs.getD s 0 ∧ cs.getD (s + 1) 0 ≤ rb rs i from ⟨by omega, hc⟩)]
        simp
      · simp [e, show (j < i + 1) = (j < i) from propext (by omega)]
    · rw [if_neg hc, Nat.zero_testBit, Bool.or_false]
      by_cases e : i = j
      · subst e
        apply decide_eq_decide.mpr
        exact ⟨fun q => absurd q.1 (Nat.lt_irrefl _), fun q => absurd q.2 hc⟩
      · apply decide_eq_decide.mpr
        constructor
        · exact fun q => ⟨by omega, q.2⟩
        · exact fun q => ⟨by omega, q.2⟩
theorem hi_bit {c j : Nat} (hc : c < 256) (hj : 8 ≤ j) : c.testBit j = false := Nat.testBit_lt_two_pow (Nat.lt_of_lt_of_le hc (Nat.pow_le_pow_right (n := 2) (by omega) hj))
theorem mcU_cv {L : Nat} {rs : List RG} (hw : WR L rs) (sk : Nat) {s : Nat} (hs : s + 1 < (cutsOf rs sk).length) : mcU rs sk (cutsOf rs sk) s rs.length = clr (cov rs ((cutsOf rs sk).getD s 0)) sk := by
  have hn := hw.1
  have hc := cov_lt (p := (cutsOf rs sk).getD s 0) hn
  have hlt : (cutsOf rs sk).getD s 0 < (cutsOf rs sk).getD (s + 1) 0 := srt_at (cutU_srt rs sk rs.length) (by omega) hs
  apply Nat.eq_of_testBit_eq
  intro j
  rw [mcU_bit]
  rcases Nat.lt_or_ge j 8 with hj | hj
  · have hb : (clr (cov rs ((cutsOf rs sk).getD s 0)) sk).testBit j = true ↔ (cov rs ((cutsOf rs sk).getD s 0)).testBit j = true ∧ ¬ j = sk := by
      by_cases hk : sk < 8
      · exact clr_bit sk hk _ hc j hj
      · unfold clr
        rw [if_neg hk]
        exact ⟨fun q => ⟨q, by omega⟩, fun q => q.1⟩
    rw [cov_bit] at hb
    have : (j < rs.length ∧ ¬ j = sk ∧ ra rs j ≤ (cutsOf rs sk).getD s 0 ∧ (cutsOf rs sk).getD (s + 1) 0 ≤ rb rs j) ↔ (clr (cov rs ((cutsOf rs sk).getD s 0)) sk).testBit j = true := by
      rw [hb]
      constructor
      · rintro ⟨q1, q2, q3, q4⟩
        exact ⟨⟨q1, q3, by omega⟩, q2⟩
      · rintro ⟨⟨q1, q3, q4⟩, q2⟩
        exact ⟨q1, q2, q3, cut_next q1 q2 hs q3 q4⟩
    cases hcl : (clr (cov rs ((cutsOf rs sk).getD s 0)) sk).testBit j with
    | true => exact decide_eq_true (this.mpr hcl)
    | false => exact decide_eq_false (fun q => by rw [this.mp q] at hcl; cases hcl)
  · rw [hi_bit (clr_lt hc) hj]
    exact decide_eq_false (fun q => by omega)
theorem mcU_lt (rs : List RG) (sk : Nat) (cs : List Nat) (s : Nat) : ∀ i, mcU rs sk cs s i < 2 ^ i
  | 0 => by simp [mcU]
  | i + 1 => by
    have ih := mcU_lt rs sk cs s i
    have h1 : mcU rs sk cs s i < 2 ^ (i + 1) := Nat.lt_of_lt_of_le ih (Nat.pow_le_pow_right (by omega) (by omega))
    unfold mcU
    refine Nat.or_lt_two_pow h1 ?_
    split
    · exact Nat.pow_lt_pow_right (by omega) (by omega)
    · exact Nat.two_pow_pos _
theorem mSetCuts_ok {lay : List Nat} (hwf : wfB lay = true) (d : Nat) {μ : Mem} {m : Nat} {T : TS} (hT : MTe μ m T) (hw : WT T) (sk : Nat) : Rn lay (d + 1) mM_setCuts [rf 16 m, vi (skI sk)] μ (Pn fun μ1 => CuM μ1 m (cutsOf T.1 sk) ∧ CvM μ1 m (cvL T.1 sk (cutsOf T.1 sk)) ∧ FM m [m + 7, m + 8] [9] μ μ1) := by
  have hn := hw.1.1
  have hL := hw.2.1
  have hcl : (cutsOf T.1 sk).length ≤ 16 := csT_len hw sk
  have hcle : ∀ i, (cutsOf T.1 sk).getD i 0 ≤ 90 := fun i => by
    rw [List.getD]
    cases hq : (cutsOf T.1 sk)[i]? with
    | none => simp
    | some c => exact csT_le hw sk c (List.mem_of_getElem? hq)
  refine Rn_intro ok_M_setCuts hwf rfl (fun G hG => g_M_setCuts_0 hG ?_)
  -- covers, section by section
  have l2 : ∀ n s (μ' : Mem), s + n = (cutsOf T.1 sk).length - 1 → CuM μ' m (cutsOf T.1 sk) → (∀ i, i < s → μ'.1 (m + 8) i = nI ((cvL T.1 sk (cutsOf T.1 sk)).getD i 0)) → FM m [m + 7, m + 8] [9] μ μ' → G 56 [rf 16 m, vi (skI sk), vi (nI s), un, un] [] μ' := by
    intro n
    induction n with
    | zero =>
      intro s μ' hs hc hv hf
      refine g_M_setCuts_56 hG ?_
      refine useV (mSections_ok hwf d hc.1 hcl) ?_
      rw [nx_le (by omega) (by omega)]
      exact ⟨fun _ => ⟨rfl, hc, fun i hi => hv i (by rw [cvL_len] at hi; omega), hf⟩, fun z => absurd (by omega) z⟩
    | succ n ih =>
      intro s μ' hs hc hv hf
      refine g_M_setCuts_56 hG ?_
      refine useV (mSections_ok hwf d hc.1 hcl) ?_
      rw [nx_le (by omega) (by omega), nx_cl (by omega)]
      have hv15 : vp_in (nI s) 15 := vin (by omega) (by omega)
      have hv16 : vp_in (nI s) 16 := vin (by omega) (by omega)
      refine ⟨fun z => absurd z (by omega), fun _ => ⟨hv15, ?_⟩⟩
      have inner : ∀ k i (μ2 : Mem), i + k = T.1.length → CuM μ2 m (cutsOf T.1 sk) → (∀ j, j < s → μ2.1 (m + 8) j = nI ((cvL T.1 sk (cutsOf T.1 sk)).getD j 0)) → μ2.1 (m + 8) s = nI (mcU T.1 sk (cutsOf T.1 sk) s i) → FM m [m + 7, m + 8] [9] μ μ2 → G 73 [rf 16 m, vi (skI sk), vi (nI s), vi (nI i), un] [] μ2 := by
        intro k
        induction k with
        | zero =>
          intro i μ2 hi hc2 hv2 hcu hf2
          have hT2 : MTe μ2 m T := hT.fr hf2 (by simp) (by simp)
          refine g_M_setCuts_73 hG ?_
          rw [hT2.1, nx_le (by omega) (by omega), nI_add]
          refine ⟨fun _ => ih (s + 1) μ2 (by omega) hc2 (fun j hj => ?_) hf2, fun z => absurd (by omega) z⟩
          by_cases e : j = s
          · subst e
            rw [hcu, show i = T.1.length by omega, mcU_cv hw.1 sk (by omega), cvL_at (by omega)]
          · exact hv2 j (by omega)
        | succ k ih2 =>
          intro i μ2 hi hc2 hv2 hcu hf2
          have hT2 : MTe μ2 m T := hT.fr hf2 (by simp) (by simp)
          have hil : i < T.1.length := by omega
          obtain ⟨e1, e2, e3⟩ := hT2.2.2.1 i hil
          obtain ⟨a1, a2, a3⟩ := hw.1.at hil
          have c1 := hc2.2 s (by omega)
          have c2 := hc2.2 (s + 1) (by omega)
          have k1 := hcle s
          have k2 := hcle (s + 1)
          have hvi : vp_in (nI i) 9 := vin (by omega) (by omega)
          have step : ∀ z, z = (if ¬ i = sk ∧ ra T.1 i ≤ (cutsOf T.1 sk).getD s 0 ∧ (cutsOf T.1 sk).getD (s + 1) 0 ≤ rb T.1 i then 2 ^ i else 0) → G 73 [rf 16 m, vi (skI sk), vi (nI s), vi (nI (i + 1)), un] [] (upI μ2 (m + 8) s (nI (mcU T.1 sk (cutsOf T.1 sk) s i ||| z))) := fun z hz => by
            refine ih2 (i + 1) _ (by omega) ⟨by rw [up_n1 (by omega)]; exact hc2.1, fun j hj => by rw [up_n1 (by omega)]; exact hc2.2 j hj⟩ (fun j hj => by rw [up_n2 (by omega)]; exact hv2 j hj) ?_ (hf2.up (by simp) (by omega))
            rw [up_at, hz]
            rfl
          have s122 : ¬ (¬ i = sk ∧ ra T.1 i ≤ (cutsOf T.1 sk).getD s 0 ∧ (cutsOf T.1 sk).getD (s + 1) 0 ≤ rb T.1 i) → G 122 [rf 16 m, vi (skI sk), vi (nI s), vi (nI i), un] [] μ2 := fun w => by
            refine g_M_setCuts_122 hG ?_
            rw [nx_cl (by omega), hcu, nx_or, nI_add]
            exact ⟨hv15, hv15, step 0 (by rw [if_neg w])⟩
          refine g_M_setCuts_73 hG ?_
          simp (disch := omega) only [hT2.1, nx_le, skI_eq, nI_add, nx_cl, e2, e3, c1, c2, nx_lt, hcu, nx_shl, nx_or]
          refine ⟨fun z => absurd z (by omega), fun _ => ⟨fun z => s122 (fun y => y.1 z), fun z => ⟨hvi, hv16, fun z2 => s122 (fun y => by have := y.2.1; omega), fun z2 => ⟨hvi, vin (by omega) (by omega), fun z3 => s122 (fun y => by have := y.2.2; omega), fun z3 => ⟨hv15, hv15, step _ (by rw [if_pos ⟨z, by omega, by omega⟩])⟩⟩⟩⟩⟩
      refine inner T.1.length 0 _ (by omega) ⟨by rw [up_n1 (by omega)]; exact hc.1, fun j hj => by rw [up_n1 (by omega)]; exact hc.2 j hj⟩ (fun j hj => by rw [up_n2 (by omega)]; exact hv j hj) (by rw [up_at]; rfl) (hf.up (by simp) (by omega))
  have loop : ∀ n i (μ' : Mem), i + n = T.1.length → CuM μ' m (cutU T.1 sk i) → FM m [m + 7, m + 8] [9] μ μ' → G 7 [rf 16 m, vi (skI sk), vi (nI i), un, un] [] μ' := by
    intro n
    induction n with
    | zero =>
      intro i μ' hi hc hf
      have hT' : MTe μ' m T := hT.fr hf (by simp) (by simp)
      have hi2 : i = T.1.length := by omega
      subst hi2
      refine g_M_setCuts_7 hG ?_
      rw [hT'.1, nx_le (by omega) (by omega)]
      exact ⟨fun _ => l2 ((cutsOf T.1 sk).length - 1) 0 μ' (by omega) hc (fun i hi => absurd hi (Nat.not_lt_zero _)) hf, fun z => absurd (by omega) z⟩
    | succ n ih =>
      intro i μ' hi hc hf
      have hil : i < T.1.length := by omega
      have hT' : MTe μ' m T := hT.fr hf (by simp) (by simp)
      obtain ⟨e1, e2, e3⟩ := hT'.2.2.1 i hil
      obtain ⟨a1, a2, a3⟩ := hw.1.at hil
      have hl := cutU_len T.1 sk i
      have hle := cutU_le hw.1 sk i (by omega)
      have hvi : vp_in (nI i) 9 := vin (by omega) (by omega)
      refine g_M_setCuts_7 hG ?_
      rw [hT'.1, nx_le (by omega) (by omega), skI_eq (by omega), nI_add]
      refine ⟨fun z => absurd z (by omega), fun _ => ⟨fun z => ?_, fun z => ?_⟩⟩
      · refine ih (i + 1) μ' (by omega) ?_ hf
        unfold cutU
        rw [if_pos (Or.inl z)]
        exact hc
      · refine useV (mIsEmpty_T hwf d hT' hw hil) ?_
        rw [bI_eq0, nx_cl (by omega), e2]
        refine ⟨fun z2 => ?_, fun z2 => ⟨hvi, ?_⟩⟩
        · refine ih (i + 1) μ' (by omega) ?_ hf
          unfold cutU
          rw [if_pos (Or.inr (Decidable.not_not.mp z2))]
          exact hc
        · refine useN (mCut_ok hwf d hc (by omega) (fun c hc2 => Nat.le_trans (hle c hc2) hL) (by omega)) (fun μ1 hp => ?_)
          obtain ⟨p1, p2⟩ := hp
          have g3 : μ1.1 (m + 4) i = nI (rb T.1 i) := by
            rw [p2.1 (m + 4) (by omega) (by simp)]
            exact e3
          rw [g3]
          refine ⟨hvi, ?_⟩
          have hl2 := insC_len (l := cutU T.1 sk i) (p := ra T.1 i)
          refine useN (mCut_ok hwf d p1 (by omega) (fun c hc2 => ?_) (by omega)) (fun μ2 hp2 => ?_)
          · rcases insC_in hc2 with e | e
            · omega
            · exact Nat.le_trans (hle c e) hL
          · obtain ⟨p3, p4⟩ := hp2
            refine ih (i + 1) μ2 (by omega) ?_ ((hf.tr (p2.mono (by simp) (by simp))).tr (p4.mono (by simp) (by simp)))
            have ecut : cutU T.1 sk (i + 1) = insC (insC (cutU T.1 sk i) (ra T.1 i)) (rb T.1 i) := by
              conv => lhs; unfold cutU
              rw [if_neg (fun w => w.elim z z2)]
            rw [ecut]
            exact p3
  exact loop T.1.length 0 _ (by omega) ⟨by rw [up_at]; rfl, fun i hi => absurd hi (Nat.not_lt_zero _)⟩ ((FM.rf _ _ _ _).upf (by simp))
