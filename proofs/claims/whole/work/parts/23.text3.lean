/-! Text: its edits -/
def el (rs : List RG) (i : Nat) : RG := rs.getD i (0, 0, 0)
theorem el_1 (rs : List RG) (i : Nat) : (el rs i).1 = kd rs i := rfl
theorem el_2 (rs : List RG) (i : Nat) : (el rs i).2.1 = ra rs i := rfl
theorem el_3 (rs : List RG) (i : Nat) : (el rs i).2.2 = rb rs i := rfl
theorem el_in {rs : List RG} {i : Nat} (h : i < rs.length) : rs[i]? = some (el rs i) := rg_at h
theorem el_of {rs : List RG} {i : Nat} {x : RG} (h : rs[i]? = some x) : el rs i = x := by
  unfold el
  rw [List.getD, h]
  rfl
theorem el_app {rs : List RG} {x : RG} {i : Nat} (h : i < rs.length) : el (rs ++ [x]) i = el rs i := el_of (by rw [List.getElem?_append_left h]; exact el_in h)
theorem el_last {rs : List RG} {x : RG} : el (rs ++ [x]) rs.length = x := el_of (by simp)
theorem el_set {rs : List RG} {x : RG} {i j : Nat} (hj : j < rs.length) : el (rs.set j x) i = if i = j then x else el rs i := by
  by_cases h : i = j
  · subst h
    rw [if_pos rfl]
    exact el_of (List.getElem?_set_self hj)
  · rw [if_neg h]
    unfold el
    rw [List.getD, List.getD, List.getElem?_set_ne (Ne.symm h)]
theorem el_erase {rs : List RG} {i j : Nat} : el (rs.eraseIdx j) i = if i < j then el rs i else el rs (i + 1) := by
  unfold el
  rw [List.getD, List.getElem?_eraseIdx]
  split <;> rw [List.getD]
theorem el_map {rs : List RG} {f : RG → RG} {i : Nat} (h : i < rs.length) : el (rs.map f) i = f (el rs i) := el_of (by rw [List.getElem?_map, el_in h]; rfl)
def FAt (μ : Mem) (t n : Nat) (f : Nat → RG) : Prop := ∀ i, i < n → μ.1 (t + 1) i = nI (f i).1 ∧ μ.1 (t + 2) i = nI (f i).2.1 ∧ μ.1 (t + 3) i = nI (f i).2.2
theorem FAt.to {μ : Mem} {t : Nat} {f : Nat → RG} {rs : List RG} (h : FAt μ t rs.length f) (he : ∀ i, i < rs.length → f i = el rs i) : RAt μ (t + 1) (t + 2) (t + 3) rs := fun i hi => by
  have := h i hi
  rw [he i hi] at this
  exact this
abbrev teC (t : Nat) : List Nat := [t, t + 1, t + 2, t + 3, t + 4]
theorem TeAt.fr {μ μ1 : Mem} {t : Nat} {T : TS} (h : TeAt μ t T) (h0 : ∀ b ∈ teC t, μ1.1 b = μ.1 b) : TeAt μ1 t T := by
  obtain ⟨h1, h2, h3, h4⟩ := h
  have e0 := h0 t (by simp)
  have e1 := h0 (t + 1) (by simp)
  have e2 := h0 (t + 2) (by simp)
  have e3 := h0 (t + 3) (by simp)
  have e4 := h0 (t + 4) (by simp)
  refine ⟨by rw [e0]; exact h1, by rw [e0]; exact h2, fun i hi => ?_, fun k hk => by rw [e4]; exact h4 k hk⟩
  rw [e1, e2, e3]
  exact h3 i hi
theorem TeAt.far {μ μ1 : Mem} {t : Nat} {T : TS} {S : List Nat} (h : TeAt μ t T) (hf : Fr S μ μ1) (hd : ∀ b ∈ teC t, b ∉ S) : TeAt μ1 t T := h.fr (fun b hb => hf.1 b (hd b hb))
def rk0 : List Nat := [0, 1, 2, 3]
theorem clear_ok {lay : List Nat} (hwf : wfB lay = true) (d : Nat) (μ : Mem) (t : Nat) {L : Nat} : Rn lay d mTe_clear [rf 13 t, vi (nI L)] μ (Pn fun μ1 => TeAt μ1 t ([], L, rk0) ∧ Fr (teC t) μ μ1) := by
  refine Rn_intro ok_Te_clear hwf rfl (fun G hC => g_Te_clear_0 hC ?_)
  have loop : ∀ k i (μ' : Mem), i + k = 4 → μ'.1 t 4 = nI 0 → μ'.1 t 5 = nI L → (∀ j, j < i → μ'.1 (t + 4) j = nI j) → Fr (teC t) μ μ' → G 12 [rf 13 t, un, vi (nI i)] [] μ' := by
    intro k
    induction k with
    | zero =>
      intro i μ' hi h4 h5 hj hf
      refine g_Te_clear_12 hC ?_
      rw [nx_le (by omega) (by omega)]
      refine ⟨fun _ => ⟨rfl, ⟨h4, h5, fun i hi => by simp at hi, fun k hk => ?_⟩, hf⟩, fun q => absurd (by omega) q⟩
      rw [hj k (by omega)]
      rcases (show k = 0 ∨ k = 1 ∨ k = 2 ∨ k = 3 by omega) with e | e | e | e <;> subst e <;> rfl
    | succ k ih =>
      intro i μ' hi h4 h5 hj hf
      refine g_Te_clear_12 hC ?_
      simp (disch := omega) only [nx_le, nx_cl, nx_in', nI_add]
      refine ⟨fun q => absurd q (by omega), fun _ => ⟨by omega, ih (i + 1) _ (by omega) ?_ ?_ (fun j hj2 => ?_) (hf.up (by simp))⟩⟩
      · rw [up_n1 (by omega)]; exact h4
      · rw [up_n1 (by omega)]; exact h5
      · by_cases e : j = i
        · subst e; rw [up_at]
        · rw [up_n2 e]; exact hj j (by omega)
  refine loop 4 0 _ (by omega) ?_ ?_ (fun j hj => by omega) (((Fr.rf _ _).up (by simp)).up (by simp))
  · rw [up_n2 (by omega), up_at]
  · rw [up_at]
theorem copy_ok {lay : List Nat} (hwf : wfB lay = true) (d : Nat) {μ : Mem} {t u : Nat} {T : TS} (hT : TeAt μ u T) (hw : WT T) (hd : t + 5 ≤ u ∨ u + 5 ≤ t) : Rn lay d mTe_copy [rf 13 t, rf 13 u] μ (Pn fun μ1 => TeAt μ1 t T ∧ Fr (teC t) μ μ1) := by
  have hn := hw.1.1
  refine Rn_intro ok_Te_copy hwf rfl (fun G hC => g_Te_copy_0 hC ?_)
  have l2 : ∀ k i (μ' : Mem), i + k = 4 → μ'.1 t 4 = nI T.1.length → μ'.1 t 5 = nI T.2.1 → RAt μ' (t + 1) (t + 2) (t + 3) T.1 → (∀ j, j < i → μ'.1 (t + 4) j = nI (T.2.2.getD j 0)) → Fr (teC t) μ μ' → G 68 [rf 13 t, rf 13 u, vi (nI i)] [] μ' := by
    intro k
    induction k with
    | zero =>
      intro i μ' hi h4 h5 hr hj hf
      refine g_Te_copy_68 hC ?_
      rw [nx_le (by omega) (by omega)]
      exact ⟨fun _ => ⟨rfl, ⟨h4, h5, hr, fun k hk => hj k (by omega)⟩, hf⟩, fun q => absurd (by omega) q⟩
    | succ k ih =>
      intro i μ' hi h4 h5 hr hj hf
      have hs : μ'.1 (u + 4) i = nI (T.2.2.getD i 0) := by
        rw [hf.1 (u + 4) (by simp; omega)]
        exact hT.2.2.2 i (by omega)
      refine g_Te_copy_68 hC ?_
      simp (disch := omega) only [nx_le, nx_cl, nx_in', nI_add, hs]
      refine ⟨fun q => absurd q (by omega), fun _ => ⟨by omega, by omega, ih (i + 1) _ (by omega) ?_ ?_ ?_ (fun j hj2 => ?_) (hf.up (by simp))⟩⟩
      · rw [up_n1 (by omega)]; exact h4
      · rw [up_n1 (by omega)]; exact h5
      · intro j hj
        rw [up_n1 (by omega), up_n1 (by omega), up_n1 (by omega)]
        exact hr j hj
      · by_cases e : j = i
        · subst e; rw [up_at]
        · rw [up_n2 e]; exact hj j (by omega)
  have l1 : ∀ k i (μ' : Mem), i + k = 8 → μ'.1 t 4 = nI T.1.length → μ'.1 t 5 = nI T.2.1 → (∀ j, j < i → j < T.1.length → μ'.1 (t + 1) j = nI (kd T.1 j) ∧ μ'.1 (t + 2) j = nI (ra T.1 j) ∧ μ'.1 (t + 3) j = nI (rb T.1 j)) → Fr (teC t) μ μ' → G 18 [rf 13 t, rf 13 u, vi (nI i)] [] μ' := by
    intro k
    induction k with
    | zero =>
      intro i μ' hi h4 h5 hr hf
      refine g_Te_copy_18 hC ?_
      rw [nx_le (by omega) (by omega)]
      exact ⟨fun _ => l2 4 0 μ' (by omega) h4 h5 (fun j hj => hr j (by omega) hj) (fun j hj => by omega) hf, fun q => absurd (by omega) q⟩
    | succ k ih =>
      intro i μ' hi h4 h5 hr hf
      have g1 := hf.1 (u + 1) (by simp; omega)
      have g2 := hf.1 (u + 2) (by simp; omega)
      have g3 := hf.1 (u + 3) (by simp; omega)
      refine g_Te_copy_18 hC ?_
      simp (disch := omega) only [nx_le, nx_cl, nx_in', nI_add, up_n1, g1, g2, g3]
      refine ⟨fun q => absurd q (by omega), fun _ => ⟨by omega, by omega, by omega, by omega, by omega, by omega, ih (i + 1) _ (by omega) ?_ ?_ (fun j hj hl => ?_) (((hf.up (by simp)).up (by simp)).up (by simp))⟩⟩
      · rw [up_n1 (by omega), up_n1 (by omega), up_n1 (by omega)]; exact h4
      · rw [up_n1 (by omega), up_n1 (by omega), up_n1 (by omega)]; exact h5
      · by_cases e : j = i
        · subst e
          obtain ⟨e1, e2, e3⟩ := hT.2.2.1 j hl
          simp (disch := omega) only [up_n1, up_at, e1, e2, e3, and_self]
        · simp (disch := omega) only [up_n1, up_n2]
          exact hr j (by omega) hl
  refine l1 8 0 _ (by omega) ?_ ?_ (fun j hj => by omega) (((Fr.rf _ _).up (by simp)).up (by simp))
  · rw [up_n2 (by omega), up_at]; exact hT.1
  · rw [up_at, up_n1 (by omega)]; exact hT.2.1
theorem append_ok {lay : List Nat} (hwf : wfB lay = true) (d : Nat) {μ : Mem} {t : Nat} {T : TS} (hT : TeAt μ t T) {k a b : Nat} (hn : T.1.length < 8) : Rn lay d mTe_append [rf 13 t, vi (nI k), vi (nI a), vi (nI b)] μ (Pq fun x μ1 => x = nI 1 ∧ TeAt μ1 t (T.1 ++ [(k, a, b)], T.2) ∧ Fr (teC t) μ μ1) := by
  refine Rn_intro ok_Te_append hwf rfl (fun G hC => g_Te_append_0 hC ?_)
  simp (disch := omega) only [hT.1, nx_0, nx_lt, nx_cl, nx_in', up_n1, nI_add]
  refine ⟨fun q => absurd q (by omega), fun _ => ⟨fun _ => ⟨by omega, by omega, by omega, nI 1, rfl, rfl, ⟨?_, ?_, fun i hi => ?_, fun j hj => ?_⟩, ((((Fr.rf _ _).up (by simp)).up (by simp)).up (by simp)).up (by simp)⟩, fun q => absurd (by omega) q⟩⟩
  · rw [up_at]; simp
  · simp (disch := omega) only [up_n1, up_n2]; exact hT.2.1
  · rw [List.length_append, List.length_singleton] at hi
    rw [← el_1, ← el_2, ← el_3]
    by_cases e : i = T.1.length
    · subst e
      rw [el_last]
      simp (disch := omega) only [up_n1, up_at, and_self]
    · rw [el_app (by omega)]
      simp (disch := omega) only [up_n1, up_n2]
      exact hT.2.2.1 i (by omega)
  · simp (disch := omega) only [up_n1]; exact hT.2.2.2 j hj
theorem append_no {lay : List Nat} (hwf : wfB lay = true) (d : Nat) {μ : Mem} {t : Nat} {T : TS} (hT : TeAt μ t T) (k a b : Int32) (hn : T.1.length = 8) : Rn lay d mTe_append [rf 13 t, vi k, vi a, vi b] μ (Pv (nI 0) μ) := by
  refine Rn_intro ok_Te_append hwf rfl (fun G hC => g_Te_append_0 hC ?_)
  simp (disch := omega) only [hT.1, hn, nx_0, nx_lt]
  exact ⟨fun q => absurd q (by omega), fun _ => ⟨fun q => absurd q (by omega), fun _ => pv_e rfl⟩⟩
theorem lay_ok {lay : List Nat} (hwf : wfB lay = true) (d : Nat) {μ : Mem} {t : Nat} {T : TS} (hT : TeAt μ t T) (hw : WT T) {j a b : Nat} (hj : j < T.1.length) : Rn lay (d + 1) mTe_lay [rf 13 t, vi (nI j), vi (nI a), vi (nI b)] μ (Pn fun μ1 => TeAt μ1 t (T.1.set j (kd T.1 j, a, b), T.2) ∧ Fr (teC t) μ μ1) := by
  have hn := hw.1.1
  refine Rn_intro ok_Te_lay hwf rfl (fun G hC => g_Te_lay_0 hC ?_)
  refine useV (has_nat hwf d hT hw (by omega)) ?_
  simp (disch := omega) only [bI_eq0, nx_cl, nx_in']
  refine ⟨fun _ => ⟨by omega, by omega, rfl, ⟨?_, ?_, fun i hi => ?_, fun j hj => ?_⟩, ((Fr.rf _ _).up (by simp)).up (by simp)⟩, fun q => absurd hj q⟩
  · simp (disch := omega) only [up_n1]; rw [hT.1]; simp
  · simp (disch := omega) only [up_n1]; exact hT.2.1
  · rw [List.length_set] at hi
    obtain ⟨e1, e2, e3⟩ := hT.2.2.1 i hi
    rw [← el_1, ← el_2, ← el_3, el_set hj]
    by_cases e : i = j
    · subst e
      simp (disch := omega) only [up_n1, up_at, if_true, e1, and_self]
    · simp (disch := omega) only [up_n1, up_n2, if_neg e]
      exact hT.2.2.1 i hi
  · simp (disch := omega) only [up_n1]; exact hT.2.2.2 j hj
theorem remove_ok {lay : List Nat} (hwf : wfB lay = true) (d : Nat) {μ : Mem} {t : Nat} {T : TS} (hT : TeAt μ t T) (hw : WT T) {j : Nat} (hj : j < T.1.length) : Rn lay (d + 1) mTe_remove [rf 13 t, vi (nI j)] μ (Pn fun μ1 => TeAt μ1 t (T.1.eraseIdx j, T.2) ∧ Fr (teC t) μ μ1) := by
  have hn := hw.1.1
  refine Rn_intro ok_Te_remove hwf rfl (fun G hC => g_Te_remove_0 hC ?_)
  have loop : ∀ k q (μ' : Mem), q + 1 + k = T.1.length → j ≤ q → FAt μ' t T.1.length (fun i => if j ≤ i ∧ i < q then el T.1 (i + 1) else el T.1 i) → Fr [t + 1, t + 2, t + 3] μ μ' → G 11 [rf 13 t, un, vi (nI q)] [] μ' := by
    intro k
    induction k with
    | zero =>
      intro q μ' hq hjq hf hfr
      have g0 := hfr.1 t (by simp)
      have g4 := hfr.1 (t + 4) (by simp)
      have hc : μ'.1 t 4 = nI T.1.length := by rw [g0]; exact hT.1
      have h77 : G 77 [rf 13 t, un, un] [] μ' := by
        refine g_Te_remove_77 hC ⟨rfl, ⟨?_, ?_, fun i hi => ?_, fun k hk => ?_⟩, (hfr.mono (by simp)).up (by simp)⟩
        · rw [up_at, hc, nx_sub (by omega), List.length_eraseIdx_of_lt hj]
        · rw [up_n2 (by omega), g0]; exact hT.2.1
        · rw [List.length_eraseIdx_of_lt hj] at hi
          have := hf i (by omega)
          dsimp only at this
          rw [← el_1, ← el_2, ← el_3, el_erase]
          simp (disch := omega) only [up_n1]
          by_cases e : i < j
          · rw [if_pos e]
            rw [if_neg (by omega)] at this
            exact this
          · rw [if_neg e]
            rw [if_pos (by omega)] at this
            exact this
        · rw [up_n1 (by omega), g4]; exact hT.2.2.2 k hk
      refine g_Te_remove_11 hC ?_
      simp (disch := omega) only [hc, nI_add, nx_le]
      exact ⟨fun _ => h77, fun z => absurd (by omega) z⟩
    | succ k ih =>
      intro q μ' hq hjq hf hfr
      have g0 := hfr.1 t (by simp)
      have hc : μ'.1 t 4 = nI T.1.length := by rw [g0]; exact hT.1
      have hq1 := hf (q + 1) (by omega)
      dsimp only at hq1
      rw [if_neg (by omega)] at hq1
      obtain ⟨e1, e2, e3⟩ := hq1
      refine g_Te_remove_11 hC ?_
      simp (disch := omega) only [hc, nI_add, nx_le, nx_cl, nx_in', up_n1, e1, e2, e3]
      refine ⟨fun z => absurd z (by omega), fun _ => ⟨fun z => absurd z (by omega), fun _ => ⟨by omega, by omega, by omega, by omega, by omega, by omega, ih (q + 1) _ (by omega) (by omega) (fun i hi => ?_) (((hfr.up (by simp)).up (by simp)).up (by simp))⟩⟩⟩
      by_cases e : i = q
      · subst e
        simp (disch := omega) only [up_n1, up_at]
        rw [if_pos (by omega)]
        exact ⟨rfl, rfl, rfl⟩
      · simp (disch := omega) only [up_n1, up_n2]
        have := hf i hi
        simp only [show (j ≤ i ∧ i < q + 1) = (j ≤ i ∧ i < q) from propext (by omega)]
        exact this
  refine useV (has_nat hwf d hT hw (by omega)) ?_
  rw [bI_eq0]
  refine ⟨fun _ => loop (T.1.length - (j + 1)) j μ (by omega) (by omega) (fun i hi => ?_) (Fr.rf _ _), fun q => absurd hj q⟩
  simp only [show ¬ (j ≤ i ∧ i < j) by omega, if_false]
  exact hT.2.2.1 i hi
