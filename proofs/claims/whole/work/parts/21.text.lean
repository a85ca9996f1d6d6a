/-! Text: its questions -/
theorem isKind_ok {lay : List Nat} (hwf : wfB lay = true) (d : Nat) (x : Int32) (μ : Mem) : Rn lay d mTe_isKindNumber [vi x] μ (Pv (bI (0 ≤ x.toInt ∧ x.toInt < 4)) μ) := by
  refine Rn_intro ok_Te_isKindNumber hwf rfl (fun G hC => g_Te_isKindNumber_0 hC ?_)
  simp (disch := omega) only [i_lt, i_le, i_0, nI_ti]
  repeat' first | exact pv_f (by omega) | exact pv_t (by omega) | refine ⟨fun _ => ?_, fun _ => ?_⟩
theorem has_ok {lay : List Nat} (hwf : wfB lay = true) (d : Nat) {μ : Mem} {t : Nat} {T : TS} (hT : TeAt μ t T) (hw : WT T) (x : Int32) : Rn lay d mTe_has [rf 13 t, vi x] μ (Pv (bI (0 ≤ x.toInt ∧ x.toInt < T.1.length)) μ) := by
  have hn := hw.1.1
  refine Rn_intro ok_Te_has hwf rfl (fun G hC => g_Te_has_0 hC ?_)
  simp (disch := omega) only [hT.1, i_lt, i_le, i_0, nI_ti]
  repeat' first | exact pv_f (by omega) | exact pv_t (by omega) | refine ⟨fun _ => ?_, fun _ => ?_⟩
theorem has_nat {lay : List Nat} (hwf : wfB lay = true) (d : Nat) {μ : Mem} {t : Nat} {T : TS} (hT : TeAt μ t T) (hw : WT T) {j : Nat} (hj : j < 2147483648) : Rn lay d mTe_has [rf 13 t, vi (nI j)] μ (Pv (bI (j < T.1.length)) μ) := by
  have h := has_ok hwf d hT hw (nI j)
  rw [bIc (e := j < T.1.length) (by rw [nI_ti hj]; omega)] at h
  exact h
theorem holds_ok {lay : List Nat} (hwf : wfB lay = true) (d : Nat) {μ : Mem} {t : Nat} {T : TS} (hT : TeAt μ t T) (hw : WT T) (x y : Int32) : Rn lay d mTe_holds [rf 13 t, vi x, vi y] μ (Pv (bI (0 ≤ x.toInt ∧ x.toInt ≤ y.toInt ∧ y.toInt ≤ T.2.1)) μ) := by
  have hn := hw.2.1
  refine Rn_intro ok_Te_holds hwf rfl (fun G hC => g_Te_holds_0 hC ?_)
  simp (disch := omega) only [hT.2.1, i_lt, i_le, i_0, nI_ti]
  repeat' first | exact pv_f (by omega) | exact pv_t (by omega) | refine ⟨fun _ => ?_, fun _ => ?_⟩
theorem isEmpty_ok {lay : List Nat} (hwf : wfB lay = true) (d : Nat) {μ : Mem} {t : Nat} {T : TS} (hT : TeAt μ t T) (hw : WT T) {j : Nat} (hj : j < T.1.length) : Rn lay (d + 1) mTe_isEmpty [rf 13 t, vi (nI j)] μ (Pv (bI (ra T.1 j = rb T.1 j)) μ) := by
  have hn := hw.1.1
  obtain ⟨e1, e2, e3⟩ := hT.2.2.1 j hj
  have ⟨b1, b2, b3⟩ := hw.1.at hj
  have hL := hw.2.1
  refine Rn_intro ok_Te_isEmpty hwf rfl (fun G hC => g_Te_isEmpty_0 hC ?_)
  refine useV (has_nat hwf d hT hw (by omega)) ?_
  simp (disch := omega) only [bI_eq0, hj, nx_cl, e2, e3, nx_eq, nx_in']
  refine ⟨fun q => absurd trivial q, fun _ => ⟨by omega, by omega, fun _ => ?_, fun _ => ?_⟩⟩
  · exact pv_f (by omega)
  · exact pv_t (by omega)
theorem rankOf_ok {lay : List Nat} (hwf : wfB lay = true) (d : Nat) {μ : Mem} {t : Nat} {T : TS} (hT : TeAt μ t T) (hw : WT T) {j : Nat} (hj : j < 2147483648) : Rn lay (d + 1) mTe_rankOf [rf 13 t, vi (nI j)] μ (Pv (nI (if j < T.1.length then T.2.2.getD (kd T.1 j) 0 else 0)) μ) := by
  have hn := hw.1.1
  refine Rn_intro ok_Te_rankOf hwf rfl (fun G hC => g_Te_rankOf_0 hC ?_)
  refine useV (has_nat hwf d hT hw hj) ?_
  simp (disch := omega) only [bI_eq0]
  refine ⟨fun q => ?_, fun q => pv_e (by rw [if_neg q])⟩
  have hj2 : j < T.1.length := Decidable.not_not.mp q
  obtain ⟨e1, e2, e3⟩ := hT.2.2.1 j hj2
  have ⟨b1, b2, b3⟩ := hw.1.at hj2
  rw [nx_cl hj, e1]
  refine ⟨by rw [nx_in' (by omega) (by omega)]; omega, ?_⟩
  refine useV (isKind_ok hwf d _ μ) ?_
  simp (disch := omega) only [bI_eq0, nI_ti, nx_cl, nx_in', hT.2.2.2 _ b1]
  refine ⟨fun q => absurd (by omega) q, fun _ => ⟨b1, pv_e (by rw [if_pos hj2])⟩⟩
theorem ranksAsOne_ok {lay : List Nat} (hwf : wfB lay = true) (d : Nat) {μ : Mem} {t : Nat} {T : TS} (hT : TeAt μ t T) : Rn lay d mTe_ranksAsOne [rf 13 t] μ (Pv (nI (1000 * T.2.2.getD 0 0 + 100 * T.2.2.getD 1 0 + 10 * T.2.2.getD 2 0 + T.2.2.getD 3 0)) μ) := by
  have h0 := hT.2.2.2 0 (by omega)
  have h1 := hT.2.2.2 1 (by omega)
  have h2 := hT.2.2.2 2 (by omega)
  have h3 := hT.2.2.2 3 (by omega)
  refine Rn_intro ok_Te_ranksAsOne hwf rfl (fun G hC => g_Te_ranksAsOne_0 hC ?_)
  iterate 4
    refine g_Te_ranksAsOne_4 hC ?_
    simp (disch := omega) only [nI_add, nx_le, nx_cl, nx_in', pk_mul, h0, h1, h2, h3]
    refine ⟨fun q => absurd q (by omega), fun _ => ⟨by omega, ?_⟩⟩
  refine g_Te_ranksAsOne_4 hC ?_
  simp (disch := omega) only [nI_add, nx_le]
  refine ⟨fun _ => pv_e (by congr 1; omega), fun q => absurd (by omega) q⟩
/-- the ranges over a place, as bits, of the first i -/
def covU (rs : List RG) (p : Nat) : Nat → Nat
  | 0 => 0
  | i + 1 => covU rs p i ||| (if ra rs i ≤ p ∧ p < rb rs i then 2 ^ i else 0)
def cov (rs : List RG) (p : Nat) : Nat := covU rs p rs.length
theorem covU_lt (rs : List RG) (p : Nat) : ∀ i, covU rs p i < 2 ^ i
  | 0 => by simp [covU]
  | i + 1 => by
    have ih := covU_lt rs p i
    have h1 : covU rs p i < 2 ^ (i + 1) := Nat.lt_of_lt_of_le ih (Nat.pow_le_pow_right (by omega) (by omega))
    unfold covU
    refine Nat.or_lt_two_pow h1 ?_
    split
    · exact Nat.pow_lt_pow_right (by omega) (by omega)
    · exact Nat.two_pow_pos _
theorem cov_lt {rs : List RG} {p : Nat} (h : rs.length ≤ 8) : cov rs p < 256 := Nat.lt_of_lt_of_le (covU_lt rs p _) (by
  have := Nat.pow_le_pow_right (show 0 < 2 by omega) h
  exact this)
theorem covU_bit (rs : List RG) (p j : Nat) : ∀ i, (covU rs p i).testBit j = decide (j < i ∧ ra rs j ≤ p ∧ p < rb rs j)
  | 0 => by simp [covU]
  | i + 1 => by
    unfold covU
    rw [Nat.testBit_or, covU_bit rs p j i]
    by_cases hc : ra rs i ≤ p ∧ p < rb rs i
    · rw [if_pos hc, Nat.testBit_two_pow]
      by_cases e : i = j
      · subst e
        simp [hc]
      · simp [e, show (j < i + 1) = (j < i) from propext (by omega)]
    · rw [if_neg hc, Nat.zero_testBit, Bool.or_false]
      by_cases e : i = j
      · subst e
        simp [hc]
      · simp [show (j < i + 1) = (j < i) from propext (by omega)]
theorem coverAt_ok {lay : List Nat} (hwf : wfB lay = true) (d : Nat) {μ : Mem} {t : Nat} {T : TS} (hT : TeAt μ t T) (hw : WT T) {p : Nat} (hp : p < 2147483648) : Rn lay d mTe_coverAt [rf 13 t, vi (nI p)] μ (Pv (nI (cov T.1 p)) μ) := by
  have hn := hw.1.1
  have hL := hw.2.1
  refine Rn_intro ok_Te_coverAt hwf rfl (fun G hC => g_Te_coverAt_0 hC ?_)
  have loop : ∀ k i, i + k = T.1.length → G 4 [rf 13 t, vi (nI p), vi (nI (covU T.1 p i)), vi (nI i)] [] μ := by
    intro k
    induction k with
    | zero =>
      intro i hi
      refine g_Te_coverAt_4 hC ?_
      simp (disch := omega) only [hT.1, nx_le]
      refine ⟨fun _ => pv_e (by rw [cov, ← hi]; rfl), fun q => absurd (by omega) q⟩
    | succ k ih =>
      intro i hi
      have hil : i < T.1.length := by omega
      obtain ⟨e1, e2, e3⟩ := hT.2.2.1 i hil
      have ⟨b1, b2, b3⟩ := hw.1.at hil
      have ih := ih (i + 1) (by omega)
      refine g_Te_coverAt_4 hC ?_
      simp (disch := omega) only [hT.1, nx_le, nx_lt, nx_cl, nx_in', e2, e3, nI_add, nx_shl, nx_or]
      have hg : ∀ z, z = (if ra T.1 i ≤ p ∧ p < rb T.1 i then 2 ^ i else 0) → G 4 [rf 13 t, vi (nI p), vi (nI (covU T.1 p i ||| z)), vi (nI (i + 1))] [] μ := fun z hz => by
        rw [hz]
        exact ih
      refine ⟨fun q => absurd q (by omega), fun _ => ⟨fun q => absurd q (by omega), fun _ => ⟨by omega, fun q => ?_, fun q => ⟨by omega, fun q2 => ?_, fun q2 => ?_⟩⟩⟩⟩
      · have := hg 0 (by rw [if_neg (by omega)])
        simpa using this
      · have := hg 0 (by rw [if_neg (by omega)])
        simpa using this
      · exact hg _ (by rw [if_pos (by omega)])
  exact loop T.1.length 0 (by omega)
