/-! the reference: its text comes, goes, is noted and brought back -/
theorem mComes_ok {lay : List Nat} (hwf : wfB lay = true) (d : Nat) {μ : Mem} {m : Nat} {T : TS} (hT : MTe μ m T) {k a b : Nat} (hn : T.1.length < 9) : Rn lay d mM_comes [rf 16 m, vi (nI k), vi (nI a), vi (nI b)] μ (Pn fun μ1 => MTe μ1 m (T.1 ++ [(k, a, b)], T.2) ∧ FM m [m + 2, m + 3, m + 4] [2] μ μ1) := by
  refine Rn_intro ok_M_comes hwf rfl (fun G hC => g_M_comes_0 hC ?_)
  simp (disch := omega) only [hT.1, nx_cl, nx_in', up_n1, nI_add]
  refine ⟨by omega, by omega, by omega, rfl, ⟨?_, ?_, fun i hi => ?_, fun j hj => ?_⟩, ((((FM.rf _ _ _ _).up (by simp) (by omega)).up (by simp) (by omega)).up (by simp) (by omega)).upf (by simp)⟩
  · rw [up_at]; simp
  · simp (disch := omega) only [up_n1, up_n2]; exact hT.2.1
  · rw [List.length_append, List.length_singleton] at hi
    rw [← el_1, ← el_2, ← el_3]
    by_cases e : i = T.1.length
    · subst e
      rw [el_last]
      simp (disch := omega) only [up_n1, up_at, and_self]
    · rw [el_app (by omega)]
      simp (disch := omega) only [up_n1, up_n2]
      exact hT.2.2.1 i (by omega)
  · simp (disch := omega) only [up_n1]; exact hT.2.2.2 j hj
theorem mGoes_ok {lay : List Nat} (hwf : wfB lay = true) (d : Nat) {μ : Mem} {m : Nat} {T : TS} (hT : MTe μ m T) (hn : T.1.length ≤ 9) {j : Nat} (hj : j < T.1.length) : Rn lay d mM_goes [rf 16 m, vi (nI j)] μ (Pn fun μ1 => MTe μ1 m (T.1.eraseIdx j, T.2) ∧ FM m [m + 2, m + 3, m + 4] [2] μ μ1) := by
  refine Rn_intro ok_M_goes hwf rfl (fun G hC => g_M_goes_0 hC ?_)
  rw [hT.1, nx_sub (by omega)]
  have loop : ∀ k q (μ' : Mem), q + k = T.1.length - 1 → j ≤ q → (∀ i, i < T.1.length → μ'.1 (m + 2) i = nI (if j ≤ i ∧ i < q then el T.1 (i + 1) else el T.1 i).1 ∧ μ'.1 (m + 3) i = nI (if j ≤ i ∧ i < q then el T.1 (i + 1) else el T.1 i).2.1 ∧ μ'.1 (m + 4) i = nI (if j ≤ i ∧ i < q then el T.1 (i + 1) else el T.1 i).2.2) → μ'.1 m 2 = nI (T.1.length - 1) → FM m [m + 2, m + 3, m + 4] [2] μ μ' → G 12 [rf 16 m, un, vi (nI q)] [] μ' := by
    intro k
    induction k with
    | zero =>
      intro q μ' hq hjq hf hc hfr
      refine g_M_goes_12 hC ?_
      rw [hc, nx_le (by omega) (by omega)]
      refine ⟨fun _ => ⟨rfl, ⟨?_, ?_, fun i hi => ?_, fun k hk => ?_⟩, hfr⟩, fun z => absurd (by omega) z⟩
      · rw [hc]
        show _ = nI (T.1.eraseIdx j).length
        rw [List.length_eraseIdx_of_lt hj]
      · rw [hfr.2.1 1 (by simp)]; exact hT.2.1
      · have hi : i < (T.1.eraseIdx j).length := hi
        rw [List.length_eraseIdx_of_lt hj] at hi
        have := hf i (by omega)
        show _ = nI (el (T.1.eraseIdx j) i).1 ∧ _ = nI (el (T.1.eraseIdx j) i).2.1 ∧ _ = nI (el (T.1.eraseIdx j) i).2.2
        rw [el_erase]
        by_cases e : i < j
        · rw [if_pos e]
          rw [if_neg (by omega)] at this
          exact this
        · rw [if_neg e]
          rw [if_pos (by omega)] at this
          exact this
      · rw [hfr.1 (m + 5) (by omega) (by simp)]; exact hT.2.2.2 k hk
    | succ k ih =>
      intro q μ' hq hjq hf hc hfr
      have hq1 := hf (q + 1) (by omega)
      rw [if_neg (by omega)] at hq1
      obtain ⟨e1, e2, e3⟩ := hq1
      refine g_M_goes_12 hC ?_
      simp (disch := omega) only [hc, nI_add, nx_le, nx_cl, nx_in', up_n1, e1, e2, e3]
      refine ⟨fun z => absurd z (by omega), fun _ => ⟨by omega, by omega, by omega, by omega, by omega, by omega, ih (q + 1) _ (by omega) (by omega) (fun i hi => ?_) (by simp (disch := omega) only [up_n1]; exact hc) (((hfr.up (by simp) (by omega)).up (by simp) (by omega)).up (by simp) (by omega))⟩⟩
      by_cases e : i = q
      · subst e
        simp (disch := omega) only [up_n1, up_at]
        rw [if_pos (by omega)]
        exact ⟨rfl, rfl, rfl⟩
      · simp (disch := omega) only [up_n1, up_n2]
        have := hf i hi
        by_cases w : j ≤ i ∧ i < q
        · rw [if_pos w] at this
          rw [if_pos (by omega)]
          exact this
        · rw [if_neg w] at this
          rw [if_neg (by omega)]
          exact this
  refine loop (T.1.length - 1 - j) j _ (by omega) (Nat.le_refl _) (fun i hi => ?_) (by rw [up_at]) ((FM.rf _ _ _ _).upf (by simp))
  rw [if_neg (by omega)]
  simp (disch := omega) only [up_n1]
  exact hT.2.2.1 i hi
theorem mBegins_ok {lay : List Nat} (hwf : wfB lay = true) (d : Nat) (μ : Mem) (m : Nat) {L : Nat} : Rn lay d mM_begins [rf 16 m, vi (nI L)] μ (Pn fun μ1 => MTe μ1 m ([], L, rk0) ∧ MHi μ1 m [] ∧ FM m [m + 5] [1, 2, 8] μ μ1) := by
  refine Rn_intro ok_M_begins hwf rfl (fun G hC => g_M_begins_0 hC ?_)
  have loop : ∀ k i (μ' : Mem), i + k = 4 → μ'.1 m 1 = nI L → μ'.1 m 2 = nI 0 → μ'.1 m 8 = nI 0 → (∀ j, j < i → μ'.1 (m + 5) j = nI j) → FM m [m + 5] [1, 2, 8] μ μ' → G 17 [rf 16 m, un, vi (nI i)] [] μ' := by
    intro k
    induction k with
    | zero =>
      intro i μ' hi h1 h2 h8 hj hf
      refine g_M_begins_17 hC ?_
      rw [nx_le (by omega) (by omega)]
      refine ⟨fun _ => ⟨rfl, ⟨h2, h1, fun i hi => absurd hi (Nat.not_lt_zero _), fun k hk => ?_⟩, ⟨h8, by simp, fun j T hj => by simp at hj⟩, hf⟩, fun z => absurd (by omega) z⟩
      rw [hj k (by omega)]
      have : ∀ k, k < 4 → k = rk0.getD k 0 := by decide
      rw [← this k hk]
    | succ k ih =>
      intro i μ' hi h1 h2 h8 hj hf
      refine g_M_begins_17 hC ?_
      rw [nx_le (by omega) (by omega), nx_in' (by omega) (by omega), nx_cl (by omega), nI_add]
      refine ⟨fun z => absurd z (by omega), fun _ => ⟨by omega, ih (i + 1) _ (by omega) (by rw [up_n1 (by omega)]; exact h1) (by rw [up_n1 (by omega)]; exact h2) (by rw [up_n1 (by omega)]; exact h8) (fun j hj2 => ?_) (hf.up (by simp) (by omega))⟩⟩
      by_cases e : j = i
      · rw [e, up_at]
      · rw [up_n2 e]
        exact hj j (by omega)
  exact loop 4 0 _ (by omega) (by rw [up_n2 (by omega), up_n2 (by omega), up_at]) (by rw [up_n2 (by omega), up_at]) (by rw [up_at]) (fun j hj => absurd hj (Nat.not_lt_zero _)) ((((FM.rf _ _ _ _).upf (by simp)).upf (by simp)).upf (by simp))
theorem take12 {T : TS} {hist : List TS} : (T :: hist).take 12 = T :: hist.take 11 := rfl
theorem mNotes_ok {lay : List Nat} (hwf : wfB lay = true) (d : Nat) {μ : Mem} {m : Nat} {T : TS} {hist : List TS} (hT : MTe μ m T) (hw : WT T) (hH : MHi μ m hist) : Rn lay d mM_notes [rf 16 m] μ (Pn fun μ1 => MHi μ1 m ((T :: hist).take 12) ∧ FM m [m + 6] [8] μ μ1) := by
  have hn := hw.1.1
  obtain ⟨h8, hl, hs⟩ := hH
  refine Rn_intro ok_M_notes hwf rfl (fun G hC => g_M_notes_0 hC ?_)
  have wr : ∀ (n : Nat) (μ0 : Mem), n = (hist.take 11).length → μ0.1 m 8 = nI n → (∀ j T', (hist.take 11)[j]? = some T' → SlAt μ0 m (n - 1 - j) T' ∧ WT T') → FM m [m + 6] [8] μ μ0 → μ0.1 (m + 6) (30 * n) = nI T.2.1 → μ0.1 (m + 6) (30 * n + 1) = nI T.1.length → G 81 [rf 16 m, vi (nI (30 * n)), vi (nI 0)] [] μ0 := by
    intro n μ0 hnl g8 gs gf ga gb
    have hn11 : n ≤ 11 := by
      rw [hnl, List.length_take]
      omega
    have fin : ∀ μ' : Mem, (∀ j, j < 30 * n → μ'.1 (m + 6) j = μ0.1 (m + 6) j) → SlAt μ' m n T → FM m [m + 6] [8] μ μ' → μ'.1 m 8 = nI n → G 173 [rf 16 m, un, un] [] μ' := by
      intro μ' hlow hsl hf hc
      refine g_M_notes_173 hC ⟨rfl, ⟨?_, ?_, fun j T' hj => ?_⟩, hf.upf (by simp)⟩
      · rw [up_at, hc, nI_add, take12, List.length_cons, ← hnl]
      · rw [take12, List.length_cons, ← hnl]
        omega
      · rw [take12] at hj ⊢
        rw [List.length_cons, ← hnl]
        cases j with
        | zero =>
          have hj : T = T' := by simpa using hj
          subst hj
          refine ⟨SlAt.eq (by simpa using hsl) (fun i _ _ => by rw [up_n1 (by omega)]) hn, hw⟩
        | succ j =>
          have hj : (hist.take 11)[j]? = some T' := by simpa using hj
          have hjl : j < n := by
            rw [hnl]
            exact (List.getElem?_eq_some_iff.mp hj).1
          obtain ⟨c1, c2⟩ := gs j T' hj
          rw [show n + 1 - 1 - (j + 1) = n - 1 - j by omega]
          refine ⟨c1.eq (fun i i1 i2 => ?_) c2.1.1, c2⟩
          rw [up_n1 (by omega)]
          exact hlow i (by omega)
    have l2 : ∀ k i (μ' : Mem), i + k = 8 → (∀ j, j < 30 * n → μ'.1 (m + 6) j = μ0.1 (m + 6) j) → μ'.1 (m + 6) (30 * n) = nI T.2.1 → μ'.1 (m + 6) (30 * n + 1) = nI T.1.length → (∀ k, k < 4 → μ'.1 (m + 6) (30 * n + 2 + k) = nI (T.2.2.getD k 0)) → (∀ j, j < i → j < T.1.length → μ'.1 (m + 6) (30 * n + 6 + j) = nI (kd T.1 j) ∧ μ'.1 (m + 6) (30 * n + 14 + j) = nI (ra T.1 j) ∧ μ'.1 (m + 6) (30 * n + 22 + j) = nI (rb T.1 j)) → FM m [m + 6] [8] μ μ' → μ'.1 m 8 = nI n → G 110 [rf 16 m, vi (nI (30 * n)), vi (nI i)] [] μ' := by
      intro k
      induction k with
      | zero =>
        intro i μ' hi hlow c1 c2 c3 c4 hf hc
        refine g_M_notes_110 hC ?_
        rw [nx_le (by omega) (by omega)]
        exact ⟨fun _ => fin μ' hlow ⟨c1, c2, c3, fun i hi => c4 i (by omega) hi⟩ hf hc, fun z => absurd (by omega) z⟩
      | succ k ih =>
        intro i μ' hi hlow c1 c2 c3 c4 hf hc
        refine g_M_notes_110 hC ?_
        have g2 := hf.1 (m + 2) (by omega) (by simp)
        have g3 := hf.1 (m + 3) (by omega) (by simp)
        have g4 := hf.1 (m + 4) (by omega) (by simp)
        simp (disch := omega) only [nx_le, nI_add, nx_in', nx_cl, up_n1, g2, g3, g4]
        refine ⟨fun z => absurd z (by omega), fun _ => ⟨by omega, by omega, by omega, by omega, by omega, by omega, ih (i + 1) _ (by omega) (fun j hj => ?_) ?_ ?_ (fun k hk => ?_) (fun j hj hl2 => ?_) (((hf.up (by simp) (by omega)).up (by simp) (by omega)).up (by simp) (by omega)) (by simp (disch := omega) only [up_n1]; exact hc)⟩⟩
        · simp (disch := omega) only [up_n2]
          exact hlow j hj
        · simp (disch := omega) only [up_n2]
          exact c1
        · simp (disch := omega) only [up_n2]
          exact c2
        · simp (disch := omega) only [up_n2]
          exact c3 k hk
        · by_cases e : j = i
          · subst e
            obtain ⟨e1, e2, e3⟩ := hT.2.2.1 j hl2
            simp (disch := omega) only [up_n2, up_at, e1, e2, e3, and_self]
          · simp (disch := omega) only [up_n2]
            exact c4 j (by omega) hl2
    have l1 : ∀ k i (μ' : Mem), i + k = 4 → (∀ j, j < 30 * n → μ'.1 (m + 6) j = μ0.1 (m + 6) j) → μ'.1 (m + 6) (30 * n) = nI T.2.1 → μ'.1 (m + 6) (30 * n + 1) = nI T.1.length → (∀ j, j < i → μ'.1 (m + 6) (30 * n + 2 + j) = nI (T.2.2.getD j 0)) → FM m [m + 6] [8] μ μ' → μ'.1 m 8 = nI n → G 81 [rf 16 m, vi (nI (30 * n)), vi (nI i)] [] μ' := by
      intro k
      induction k with
      | zero =>
        intro i μ' hi hlow c1 c2 c3 hf hc
        refine g_M_notes_81 hC ?_
        rw [nx_le (by omega) (by omega)]
        exact ⟨fun _ => l2 8 0 μ' (by omega) hlow c1 c2 (fun k hk => c3 k (by omega)) (fun j hj => absurd hj (Nat.not_lt_zero _)) hf hc, fun z => absurd (by omega) z⟩
      | succ k ih =>
        intro i μ' hi hlow c1 c2 c3 hf hc
        refine g_M_notes_81 hC ?_
        have g5 := hf.1 (m + 5) (by omega) (by simp)
        have e5 := hT.2.2.2 i (by omega)
        simp (disch := omega) only [nx_le, nI_add, nx_in', nx_cl, g5, e5]
        refine ⟨fun z => absurd z (by omega), fun _ => ⟨by omega, by omega, ih (i + 1) _ (by omega) (fun j hj => ?_) ?_ ?_ (fun j hj => ?_) (hf.up (by simp) (by omega)) (by rw [up_n1 (by omega)]; exact hc)⟩⟩
        · rw [up_n2 (by omega)]
          exact hlow j hj
        · rw [up_n2 (by omega)]
          exact c1
        · rw [up_n2 (by omega)]
          exact c2
        · by_cases e : j = i
          · rw [e, up_at]
          · rw [up_n2 (by omega)]
            exact c3 j (by omega)
    exact l1 4 0 μ0 (by omega) (fun _ _ => rfl) ga gb (fun j hj => absurd hj (Nat.not_lt_zero _)) gf g8
  rw [h8, nx_eq (by omega) (by omega)]
  refine ⟨fun z => ?_, fun z => ?_⟩
  · simp (disch := omega) only [pk_mul, nI_add, nx_in', nx_cl, up_n1, hT.1, hT.2.1]
    have et : hist.take 11 = hist := List.take_of_length_le (by omega)
    refine ⟨by omega, by omega, wr hist.length _ (by rw [et]) (by simp (disch := omega) only [up_n1]; exact h8) (fun j T' hj => ?_) (((FM.rf _ _ _ _).up (by simp) (by omega)).up (by simp) (by omega)) (by rw [up_n2 (by omega), up_at]) (by rw [up_at])⟩
    rw [et] at hj
    have hjl := (List.getElem?_eq_some_iff.mp hj).1
    obtain ⟨c1, c2⟩ := hs j T' hj
    refine ⟨c1.eq (fun i i1 i2 => ?_) c2.1.1, c2⟩
    simp (disch := omega) only [up_n2]
  · have hlt : (hist.take 11).length = 11 := by rw [List.length_take]; omega
    have loop : ∀ k i (μ' : Mem), i + k = 330 → (∀ j, j < 360 → μ'.1 (m + 6) j = if j < i then μ.1 (m + 6) (j + 30) else μ.1 (m + 6) j) → FM m [m + 6] [8] μ μ' → μ'.1 m 8 = nI 12 → G 11 [rf 16 m, vi (nI i), un] [] μ' := by
      intro k
      induction k with
      | zero =>
        intro i μ' hi hj hf hc
        have ei : i = 330 := by omega
        subst ei
        refine g_M_notes_11 hC ?_
        have g1 := hf.2.1 1 (by simp)
        have g2 := hf.2.1 2 (by simp)
        simp (disch := omega) only [up_at, up_n1, up_n2, hc, nx_sub, pk_mul, nI_add, nx_in', nx_cl, g1, g2, hT.1, hT.2.1, nx_le]
        refine ⟨fun _ => ⟨by omega, by omega, wr 11 _ hlt.symm (by simp (disch := omega) only [up_n1, up_at]) (fun j T' hj2 => ?_) (((hf.upf (by simp)).up (by simp) (by omega)).up (by simp) (by omega)) (by rw [up_n2 (by omega), up_at]) (by rw [up_at])⟩, fun z => absurd (by omega) z⟩
        have hjl := (List.getElem?_eq_some_iff.mp hj2).1
        rw [hlt] at hjl
        rw [List.getElem?_take_of_lt hjl] at hj2
        obtain ⟨c1, c2⟩ := hs j T' hj2
        rw [z, show 12 - 1 - j = (11 - 1 - j) + 1 by omega] at c1
        refine ⟨?_, c2⟩
        have hl8 := c2.1.1
        obtain ⟨d1, d2, d3, d4⟩ := c1
        have key : ∀ q, 30 * (11 - 1 - j) ≤ q → q < 30 * (11 - 1 - j) + 30 → (upI (upI (upI μ' m 8 (nI (12 - 1))) (m + 6) (30 * (12 - 1)) (nI T.2.1)) (m + 6) (30 * (12 - 1) + 1) (nI T.1.length)).1 (m + 6) q = μ.1 (m + 6) (q + 30) := fun q q1 q2 => by
          rw [up_n2 (by omega), up_n2 (by omega), up_n1 (by omega), hj q (by omega), if_pos (by omega)]
        refine ⟨?_, ?_, fun k hk => ?_, fun i hi => ?_⟩
        · rw [key _ (by omega) (by omega), show 30 * (11 - 1 - j) + 30 = 30 * (11 - 1 - j + 1) by omega]
          exact d1
        · rw [key _ (by omega) (by omega), show 30 * (11 - 1 - j) + 1 + 30 = 30 * (11 - 1 - j + 1) + 1 by omega]
          exact d2
        · rw [key _ (by omega) (by omega), show 30 * (11 - 1 - j) + 2 + k + 30 = 30 * (11 - 1 - j + 1) + 2 + k by omega]
          exact d3 k hk
        · rw [key _ (by omega) (by omega), key _ (by omega) (by omega), key _ (by omega) (by omega), show 30 * (11 - 1 - j) + 6 + i + 30 = 30 * (11 - 1 - j + 1) + 6 + i by omega, show 30 * (11 - 1 - j) + 14 + i + 30 = 30 * (11 - 1 - j + 1) + 14 + i by omega, show 30 * (11 - 1 - j) + 22 + i + 30 = 30 * (11 - 1 - j + 1) + 22 + i by omega]
          exact d4 i hi
      | succ k ih =>
        intro i μ' hi hj hf hc
        refine g_M_notes_11 hC ?_
        have hji := hj (i + 30) (by omega)
        rw [if_neg (by omega)] at hji
        rw [nx_le (by omega) (by omega)]
        refine ⟨fun z => absurd z (by omega), fun _ => ?_⟩
        rw [nI_add, nI_add, nx_in' (by omega) (by omega), nx_in' (by omega) (by omega), nx_cl (by omega), nx_cl (by omega), hji]
        refine ⟨by omega, by omega, ih (i + 1) _ (by omega) (fun j hj2 => ?_) (hf.up (by simp) (by omega)) (by rw [up_n1 (by omega)]; exact hc)⟩
        by_cases e : j = i
        · rw [e, up_at, if_pos (by omega)]
        · rw [up_n2 e, hj j hj2]
          by_cases w : j < i
          · rw [if_pos w, if_pos (by omega)]
          · rw [if_neg w, if_neg (by omega)]
    exact loop 330 0 μ (by omega) (fun j _ => by rw [if_neg (by omega)]) (FM.rf _ _ _ _) (by rw [h8, z])
theorem mBack_ok {lay : List Nat} (hwf : wfB lay = true) (d : Nat) {μ : Mem} {m : Nat} {T : TS} {hist : List TS} (hH : MHi μ m (T :: hist)) : Rn lay d mM_takesBack [rf 16 m] μ (Pn fun μ1 => MTe μ1 m T ∧ MHi μ1 m hist ∧ FM m [m + 2, m + 3, m + 4, m + 5] [1, 2, 8] μ μ1) := by
  obtain ⟨h8, hl, hs⟩ := hH
  rw [List.length_cons] at h8 hl hs
  obtain ⟨s1, s2⟩ := hs 0 T rfl
  rw [show hist.length + 1 - 1 - 0 = hist.length by omega] at s1
  have hn := s2.1.1
  obtain ⟨d1, d2, d3, d4⟩ := s1
  refine Rn_intro ok_M_takesBack hwf rfl (fun G hC => g_M_takesBack_0 hC ?_)
  have fin : ∀ μ' : Mem, MTe μ' m T → μ'.1 m 8 = nI hist.length → FM m [m + 2, m + 3, m + 4, m + 5] [1, 2, 8] μ μ' → MTe μ' m T ∧ MHi μ' m hist ∧ FM m [m + 2, m + 3, m + 4, m + 5] [1, 2, 8] μ μ' := by
    intro μ' hT hc hf
    refine ⟨hT, ⟨hc, by omega, fun j T' hj => ?_⟩, hf⟩
    obtain ⟨c1, c2⟩ := hs (j + 1) T' (by simpa using hj)
    rw [show hist.length + 1 - 1 - (j + 1) = hist.length - 1 - j by omega] at c1
    exact ⟨c1.eq (fun i _ _ => by rw [hf.1 (m + 6) (by omega) (by simp)]) c2.1.1, c2⟩
  have l2 : ∀ k i (μ' : Mem), i + k = 8 → μ'.1 m 1 = nI T.2.1 → μ'.1 m 2 = nI T.1.length → μ'.1 m 8 = nI hist.length → (∀ k, k < 4 → μ'.1 (m + 5) k = nI (T.2.2.getD k 0)) → (∀ j, j < i → j < T.1.length → μ'.1 (m + 2) j = nI (kd T.1 j) ∧ μ'.1 (m + 3) j = nI (ra T.1 j) ∧ μ'.1 (m + 4) j = nI (rb T.1 j)) → FM m [m + 2, m + 3, m + 4, m + 5] [1, 2, 8] μ μ' → G 71 [rf 16 m, vi (nI (30 * hist.length)), vi (nI i)] [] μ' := by
    intro k
    induction k with
    | zero =>
      intro i μ' hi c1 c2 c8 c3 c4 hf
      refine g_M_takesBack_71 hC ?_
      rw [nx_le (by omega) (by omega)]
      exact ⟨fun _ => ⟨rfl, fin μ' ⟨c2, c1, fun i hi => c4 i (by omega) hi, c3⟩ c8 hf⟩, fun z => absurd (by omega) z⟩
    | succ k ih =>
      intro i μ' hi c1 c2 c8 c3 c4 hf
      refine g_M_takesBack_71 hC ?_
      have g6 := hf.1 (m + 6) (by omega) (by simp)
      simp (disch := omega) only [nx_le, nI_add, nx_in', nx_cl, up_n1, g6]
      refine ⟨fun z => absurd z (by omega), fun _ => ⟨by omega, by omega, by omega, by omega, by omega, by omega, ih (i + 1) _ (by omega) ?_ ?_ ?_ (fun k hk => ?_) (fun j hj hl2 => ?_) (((hf.up (by simp) (by omega)).up (by simp) (by omega)).up (by simp) (by omega))⟩⟩
      · simp (disch := omega) only [up_n1]
        exact c1
      · simp (disch := omega) only [up_n1]
        exact c2
      · simp (disch := omega) only [up_n1]
        exact c8
      · simp (disch := omega) only [up_n1]
        exact c3 k hk
      · by_cases e : j = i
        · subst e
          obtain ⟨e1, e2, e3⟩ := d4 j hl2
          simp (disch := omega) only [up_n1, up_at, e1, e2, e3, and_self]
        · simp (disch := omega) only [up_n1, up_n2]
          exact c4 j (by omega) hl2
  have l1 : ∀ k i (μ' : Mem), i + k = 4 → μ'.1 m 1 = nI T.2.1 → μ'.1 m 2 = nI T.1.length → μ'.1 m 8 = nI hist.length → (∀ j, j < i → μ'.1 (m + 5) j = nI (T.2.2.getD j 0)) → FM m [m + 2, m + 3, m + 4, m + 5] [1, 2, 8] μ μ' → G 42 [rf 16 m, vi (nI (30 * hist.length)), vi (nI i)] [] μ' := by
    intro k
    induction k with
    | zero =>
      intro i μ' hi c1 c2 c8 c3 hf
      refine g_M_takesBack_42 hC ?_
      rw [nx_le (by omega) (by omega)]
      exact ⟨fun _ => l2 8 0 μ' (by omega) c1 c2 c8 (fun k hk => c3 k (by omega)) (fun j hj => absurd hj (Nat.not_lt_zero _)) hf, fun z => absurd (by omega) z⟩
    | succ k ih =>
      intro i μ' hi c1 c2 c8 c3 hf
      refine g_M_takesBack_42 hC ?_
      have g6 := hf.1 (m + 6) (by omega) (by simp)
      have e3 := d3 i (by omega)
      simp (disch := omega) only [nx_le, nI_add, nx_in', nx_cl, g6, e3]
      refine ⟨fun z => absurd z (by omega), fun _ => ⟨by omega, by omega, ih (i + 1) _ (by omega) (by rw [up_n1 (by omega)]; exact c1) (by rw [up_n1 (by omega)]; exact c2) (by rw [up_n1 (by omega)]; exact c8) (fun j hj => ?_) (hf.up (by simp) (by omega))⟩⟩
      by_cases e : j = i
      · rw [e, up_at]
      · rw [up_n2 e]
        exact c3 j (by omega)
  simp (disch := omega) only [up_at, up_n1, up_n2, h8, nx_sub, Nat.add_sub_cancel, pk_mul, nI_add, nx_in', nx_cl, d1, d2]
  refine ⟨by omega, by omega, l1 4 0 _ (by omega) (by rw [up_n2 (by omega), up_at]) (by rw [up_at]) (by rw [up_n2 (by omega), up_n2 (by omega), up_at]) (fun j hj => absurd hj (Nat.not_lt_zero _)) ((((FM.rf _ _ _ _).upf (by simp)).upf (by simp)).upf (by simp))⟩
