/-! Integer.bitCount of small numbers; Text: crowded, across -/
def popN (c : Nat) : Nat := ((List.range 8).filter (fun j => c.testBit j)).length
theorem popN_le (c : Nat) : popN c ≤ 8 := Nat.le_trans (List.length_filter_le _ _) (by simp)
theorem bitCount_ok {lay : List Nat} (hwf : wfB lay = true) (d : Nat) {c : Nat} (hc : c < 256) (μ : Mem) : Rn lay d mInt_bitCount [vi (nI c)] μ (Pv (nI (popN c)) μ) := by
  refine Rn_intro ok_Int_bitCount hwf rfl (fun G hC => g_Int_bitCount_0 hC ?_)
  refine pv_e ?_
  clear hC
  revert c
  decide +kernel
def crowd (rs : List RG) : Bool := (List.range rs.length).any fun r => decide (5 < popN (cov rs (ra rs r)))
theorem crowd_iff {rs : List RG} : crowd rs = true ↔ ∃ r, r < rs.length ∧ 5 < popN (cov rs (ra rs r)) := by
  unfold crowd
  rw [List.any_eq_true]
  constructor
  · rintro ⟨r, h1, h2⟩
    exact ⟨r, List.mem_range.mp h1, of_decide_eq_true h2⟩
  · rintro ⟨r, h1, h2⟩
    exact ⟨r, List.mem_range.mpr h1, decide_eq_true h2⟩
theorem isCrowded_ok {lay : List Nat} (hwf : wfB lay = true) (d : Nat) {μ : Mem} {t : Nat} {T : TS} (hT : TeAt μ t T) (hw : WT T) : Rn lay (d + 1) mTe_isCrowded [rf 13 t] μ (Pv (bI (crowd T.1 = true)) μ) := by
  have hn := hw.1.1
  have hL := hw.2.1
  refine Rn_intro ok_Te_isCrowded hwf rfl (fun G hC => g_Te_isCrowded_0 hC ?_)
  have loop : ∀ k i, i + k = T.1.length → (∀ r, r < i → ¬ 5 < popN (cov T.1 (ra T.1 r))) → G 2 [rf 13 t, vi (nI i)] [] μ := by
    intro k
    induction k with
    | zero =>
      intro i hi hq
      refine g_Te_isCrowded_2 hC ?_
      simp (disch := omega) only [hT.1, nx_le]
      refine ⟨fun _ => pv_f (fun z => ?_), fun q => absurd (by omega) q⟩
      obtain ⟨r, h1, h2⟩ := crowd_iff.mp z
      exact hq r (by omega) h2
    | succ k ih =>
      intro i hi hq
      have hil : i < T.1.length := by omega
      obtain ⟨e1, e2, e3⟩ := hT.2.2.1 i hil
      have ⟨b1, b2, b3⟩ := hw.1.at hil
      have hp := popN_le (cov T.1 (ra T.1 i))
      refine g_Te_isCrowded_2 hC ?_
      simp (disch := omega) only [hT.1, nx_le, nx_cl, nx_in', e2, nI_add]
      refine ⟨fun q => absurd q (by omega), fun _ => ⟨fun q => absurd q (by omega), fun _ => ⟨by omega, ?_⟩⟩⟩
      refine useV (coverAt_ok hwf d hT hw (by omega)) ?_
      refine useV (bitCount_ok hwf d (cov_lt hn) μ) ?_
      rw [nx_le (by omega) (by omega)]
      refine ⟨fun q => ih (i + 1) (by omega) (fun r hr => ?_), fun q => pv_t (crowd_iff.mpr ⟨i, hil, by omega⟩)⟩
      rcases Nat.lt_or_ge r i with z | z
      · exact hq r z
      · rw [show r = i by omega]
        omega
  exact loop T.1.length 0 (by omega) (fun r hr => by omega)
abbrev xs2 (rs : List RG) (r q : Nat) : Prop := ra rs r < ra rs q ∧ ra rs q < rb rs r ∧ rb rs r < rb rs q
theorem isAcross_ok {lay : List Nat} (hwf : wfB lay = true) (d : Nat) {μ : Mem} {t : Nat} {T : TS} (hT : TeAt μ t T) (hw : WT T) {r q : Nat} (hr : r < T.1.length) (hq : q < T.1.length) : Rn lay (d + 1) mTe_isAcross [rf 13 t, vi (nI r), vi (nI q)] μ (Pv (bI (xs2 T.1 r q)) μ) := by
  have hn := hw.1.1
  have hL := hw.2.1
  obtain ⟨-, e2, e3⟩ := hT.2.2.1 r hr
  obtain ⟨-, f2, f3⟩ := hT.2.2.1 q hq
  obtain ⟨-, b2, b3⟩ := hw.1.at hr
  obtain ⟨-, c2, c3⟩ := hw.1.at hq
  refine Rn_intro ok_Te_isAcross hwf rfl (fun G hC => g_Te_isAcross_0 hC ?_)
  refine useV (has_nat hwf d hT hw (by omega)) ?_
  rw [bI_eq0]
  refine ⟨fun z => absurd hr z, fun _ => ?_⟩
  refine useV (has_nat hwf d hT hw (by omega)) ?_
  simp (disch := omega) only [bI_eq0, nx_le, nx_cl, nx_in', e2, e3, f2, f3]
  refine ⟨fun _ => ⟨by omega, by omega, fun z => pv_f (by omega), fun z => ⟨by omega, by omega, fun z => pv_f (by omega), fun z => ⟨by omega, by omega, fun z => pv_f (by omega), fun z => pv_t (by omega)⟩⟩⟩, fun z => absurd hq z⟩
/-- how many of the first i lie across r -/
def xsU (rs : List RG) (r : Nat) : Nat → Nat
  | 0 => 0
  | i + 1 => xsU rs r i + (if xs2 rs r i ∨ xs2 rs i r then 1 else 0)
theorem xsU_le (rs : List RG) (r : Nat) : ∀ i, xsU rs r i ≤ i
  | 0 => Nat.le_refl 0
  | i + 1 => by
    have := xsU_le rs r i
    unfold xsU
    split <;> omega
theorem howManyAcross_ok {lay : List Nat} (hwf : wfB lay = true) (d : Nat) {μ : Mem} {t : Nat} {T : TS} (hT : TeAt μ t T) (hw : WT T) {r : Nat} (hr : r < T.1.length) : Rn lay (d + 2) mTe_howManyAcross [rf 13 t, vi (nI r)] μ (Pv (nI (xsU T.1 r T.1.length)) μ) := by
  have hn := hw.1.1
  refine Rn_intro ok_Te_howManyAcross hwf rfl (fun G hC => g_Te_howManyAcross_0 hC ?_)
  have loop : ∀ k i, i + k = T.1.length → G 4 [rf 13 t, vi (nI r), vi (nI (xsU T.1 r i)), vi (nI i)] [] μ := by
    intro k
    induction k with
    | zero =>
      intro i hi
      refine g_Te_howManyAcross_4 hC ?_
      simp (disch := omega) only [hT.1, nx_le]
      refine ⟨fun _ => pv_e (by rw [← hi]; rfl), fun q => absurd (by omega) q⟩
    | succ k ih =>
      intro i hi
      have hil : i < T.1.length := by omega
      have ih := ih (i + 1) (by omega)
      unfold xsU at ih
      refine g_Te_howManyAcross_4 hC ?_
      simp (disch := omega) only [hT.1, nx_le, nI_add]
      refine ⟨fun q => absurd q (by omega), fun _ => ⟨fun q => absurd q (by omega), fun _ => ?_⟩⟩
      refine useV (isAcross_ok hwf d hT hw hr hil) ?_
      rw [bI_eq0]
      refine ⟨fun z => ?_, fun z => ?_⟩
      · rw [if_pos (Or.inl (Decidable.not_not.mp z))] at ih
        exact ih
      refine useV (isAcross_ok hwf d hT hw hil hr) ?_
      rw [bI_eq0]
      refine ⟨fun z2 => ?_, fun z2 => ?_⟩
      · rw [if_neg (fun w => w.elim z z2)] at ih
        exact ih
      · rw [if_pos (Or.inr (Decidable.not_not.mp z2))] at ih
        exact ih
  exact loop T.1.length 0 (by omega)
