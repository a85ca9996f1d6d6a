abbrev hangB (rs : List RG) (r q : Nat) : Prop := ¬ ra rs r = rb rs r ∧ ¬ ra rs q = rb rs q ∧ kd rs r = kd rs q ∧ ra rs r ≤ rb rs q ∧ ra rs q ≤ rb rs r
theorem hang_ok {lay : List Nat} (hwf : wfB lay = true) (d : Nat) {μ : Mem} {t : Nat} {T : TS} (hT : TeAt μ t T) (hw : WT T) {r q : Nat} (hr : r < T.1.length) (hq : q < T.1.length) : Rn lay (d + 2) mTe_hangTogether [rf 13 t, vi (nI r), vi (nI q)] μ (Pv (bI (hangB T.1 r q)) μ) := by
  have hn := hw.1.1
  have hL := hw.2.1
  obtain ⟨e1, e2, e3⟩ := hT.2.2.1 r hr
  obtain ⟨f1, f2, f3⟩ := hT.2.2.1 q hq
  obtain ⟨a1, a2, a3⟩ := hw.1.at hr
  obtain ⟨c1, c2, c3⟩ := hw.1.at hq
  refine Rn_intro ok_Te_hangTogether hwf rfl (fun G hC => g_Te_hangTogether_0 hC ?_)
  refine useV (isEmpty_ok hwf d hT hw hr) ?_
  rw [bI_eq0]
  refine ⟨fun z => pv_f (fun w => w.1 (Decidable.not_not.mp z)), fun z => ?_⟩
  refine useV (isEmpty_ok hwf d hT hw hq) ?_
  rw [bI_eq0]
  refine ⟨fun z2 => pv_f (fun w => w.2.1 (Decidable.not_not.mp z2)), fun z2 => ?_⟩
  simp (disch := omega) only [nx_lt, nx_eq, nx_cl, nx_in', e1, e2, e3, f1, f2, f3]
  refine ⟨by omega, by omega, fun z3 => ⟨by omega, by omega, fun z4 => pv_f (by omega), fun z4 => ⟨by omega, by omega, fun z5 => pv_f (by omega), fun z5 => pv_t (by omega)⟩⟩, fun z3 => pv_f (by omega)⟩
def mrg (rs : List RG) (r q : Nat) : List RG := (rs.set r (kd rs r, (if ra rs q < ra rs r then ra rs q else ra rs r), (if rb rs r < rb rs q then rb rs q else rb rs r))).eraseIdx q
theorem mrg_len {rs : List RG} {r q : Nat} (hq : q < rs.length) : (mrg rs r q).length = rs.length - 1 := by
  unfold mrg
  rw [List.length_eraseIdx_of_lt (by rw [List.length_set]; exact hq), List.length_set]
theorem WR_set {L : Nat} {rs : List RG} {j : Nat} {x : RG} (h : WR L rs) (hx : x.1 < 4 ∧ x.2.1 ≤ x.2.2 ∧ x.2.2 ≤ L) : WR L (rs.set j x) := ⟨by rw [List.length_set]; exact h.1, fun r hr => by
  rcases List.mem_or_eq_of_mem_set hr with q | q
  · exact h.2 r q
  · rw [q]; exact hx⟩
theorem WR_erase {L : Nat} {rs : List RG} {j : Nat} (h : WR L rs) : WR L (rs.eraseIdx j) := ⟨Nat.le_trans (List.length_eraseIdx_le rs j) h.1, fun r hr => h.2 r (List.mem_of_mem_eraseIdx hr)⟩
theorem WR_mrg {L : Nat} {rs : List RG} {r q : Nat} (h : WR L rs) (hr : r < rs.length) (hq : q < rs.length) : WR L (mrg rs r q) := by
  obtain ⟨a1, a2, a3⟩ := h.at hr
  obtain ⟨c1, c2, c3⟩ := h.at hq
  refine WR_erase (WR_set h ⟨a1, ?_, ?_⟩)
  · dsimp only
    split <;> split <;> omega
  · dsimp only
    split <;> omega
def gathQ (r : Nat) : Nat → List RG → List RG
  | 0, rs => rs
  | q + 1, rs => if q + 1 ≤ r then rs else gathQ r q (if hangB rs r (q + 1) then mrg rs r (q + 1) else rs)
def gathN (r : Nat) : Nat → List RG → List RG
  | 0, rs => rs
  | n + 1, rs => gathN r n (gathQ r (rs.length - 1) rs)
def gather (rs : List RG) (r : Nat) : List RG := if ra rs r = rb rs r then rs else gathN r 8 rs
theorem gathQ_inv {L r : Nat} : ∀ (q : Nat) (rs : List RG), WR L rs → r < rs.length → q < rs.length → WR L (gathQ r q rs) ∧ r < (gathQ r q rs).length
  | 0, rs, h, hr, _ => ⟨h, hr⟩
  | q + 1, rs, h, hr, hq => by
    unfold gathQ
    split
    · exact ⟨h, hr⟩
    · split
      · exact gathQ_inv q _ (WR_mrg h hr hq) (by rw [mrg_len hq]; omega) (by rw [mrg_len hq]; omega)
      · exact gathQ_inv q rs h hr (by omega)
theorem gathN_inv {L r : Nat} : ∀ (n : Nat) (rs : List RG), WR L rs → r < rs.length → WR L (gathN r n rs) ∧ r < (gathN r n rs).length
  | 0, rs, h, hr => ⟨h, hr⟩
  | n + 1, rs, h, hr => by
    obtain ⟨h1, h2⟩ := gathQ_inv (rs.length - 1) rs h hr (by omega)
    exact gathN_inv n _ h1 h2
theorem gather_inv {L r : Nat} {rs : List RG} (h : WR L rs) (hr : r < rs.length) : WR L (gather rs r) ∧ r < (gather rs r).length := by
  unfold gather
  split
  · exact ⟨h, hr⟩
  · exact gathN_inv 8 rs h hr
theorem nx_dec (q : Nat) : nI (q + 1) + mI 0 = nI q := by
  rw [mI_0]
  exact pk_m1 q
theorem gather_ok {lay : List Nat} (hwf : wfB lay = true) (d : Nat) {μ : Mem} {t : Nat} {T : TS} (hT : TeAt μ t T) (hw : WT T) {r : Nat} (hr : r < T.1.length) : Rn lay (d + 3) mTe_gatherInto [rf 13 t, vi (nI r)] μ (Pn fun μ1 => TeAt μ1 t (gather T.1 r, T.2) ∧ Fr (teC t) μ μ1) := by
  obtain ⟨hw1, hw2⟩ := hw
  refine Rn_intro ok_Te_gatherInto hwf rfl (fun G hC => g_Te_gatherInto_0 hC ?_)
  -- one round
  have inner : ∀ q (rs : List RG) (μ' : Mem) (i : Nat), TeAt μ' t (rs, T.2) → WR T.2.1 rs → r < rs.length → q < rs.length → r ≤ q → Fr (teC t) μ μ' → (∀ μ2, TeAt μ2 t (gathQ r q rs, T.2) → Fr (teC t) μ μ2 → G 11 [rf 13 t, vi (nI r), vi (nI i + nI 1), un] [] μ2) → G 29 [rf 13 t, vi (nI r), vi (nI i), vi (nI q)] [] μ' := by
    intro q
    induction q with
    | zero =>
      intro rs μ' i hT' hW hrl hql hrq hf hk
      have := hW.1
      refine g_Te_gatherInto_29 hC ?_
      rw [nx_le (by omega) (by omega)]
      refine ⟨fun _ => hk μ' hT' hf, fun z => absurd (by omega) z⟩
    | succ q ih =>
      intro rs μ' i hT' hW hrl hql hrq hf hk
      have hn := hW.1
      have hw' : WT (rs, T.2) := ⟨hW, hw2⟩
      obtain ⟨e1, e2, e3⟩ := hT'.2.2.1 r hrl
      obtain ⟨f1, f2, f3⟩ := hT'.2.2.1 (q + 1) hql
      obtain ⟨a1, a2, a3⟩ := hW.at hrl
      obtain ⟨c1, c2, c3⟩ := hW.at hql
      have hL := hw2.1
      refine g_Te_gatherInto_29 hC ?_
      rw [nx_le (by omega) (by omega)]
      refine ⟨fun z => ?_, fun z => ?_⟩
      · have e : gathQ r (q + 1) rs = rs := by unfold gathQ; rw [if_pos z]
        rw [e] at hk
        exact hk μ' hT' hf
      · have e : gathQ r (q + 1) rs = gathQ r q (if hangB rs r (q + 1) then mrg rs r (q + 1) else rs) := by
          conv => lhs; unfold gathQ
          rw [if_neg z]
        rw [e] at hk
        refine useV (hang_ok hwf d hT' hw' hrl hql) ?_
        rw [bI_eq0, nx_dec]
        refine ⟨fun z2 => ?_, fun z2 => ?_⟩
        · rw [if_neg z2] at hk
          exact ih rs μ' i hT' hW hrl (by omega) (by omega) hf hk
        · have z2 := Decidable.not_not.mp z2
          rw [if_pos z2] at hk
          have hif1 : (if nI (ra rs (q + 1)) < nI (ra rs r) then nI (ra rs (q + 1)) else nI (ra rs r)) = nI (if ra rs (q + 1) < ra rs r then ra rs (q + 1) else ra rs r) := by
            simp only [nx_lt (show ra rs (q + 1) < 2147483648 by omega) (show ra rs r < 2147483648 by omega)]
            split <;> rfl
          have hif2 : (if nI (rb rs r) < nI (rb rs (q + 1)) then nI (rb rs (q + 1)) else nI (rb rs r)) = nI (if rb rs r < rb rs (q + 1) then rb rs (q + 1) else rb rs r) := by
            simp only [nx_lt (show rb rs r < 2147483648 by omega) (show rb rs (q + 1) < 2147483648 by omega)]
            split <;> rfl
          simp (disch := omega) only [nx_cl, nx_in', e2, e3, f2, f3]
          rw [hif1, hif2]
          refine ⟨by omega, by omega, by omega, by omega, ?_⟩
          refine useN (lay_ok hwf (d + 1) hT' hw' hrl) (fun μ1 h1 => ?_)
          obtain ⟨h1, h2⟩ := h1
          have hW2 : WR T.2.1 (rs.set r (kd rs r, (if ra rs (q + 1) < ra rs r then ra rs (q + 1) else ra rs r), (if rb rs r < rb rs (q + 1) then rb rs (q + 1) else rb rs r))) := by
            refine WR_set hW ⟨a1, ?_, ?_⟩
            · dsimp only
              split <;> split <;> omega
            · dsimp only
              split <;> omega
          refine useN (remove_ok hwf (d + 1) h1 ⟨hW2, hw2⟩ (by rw [List.length_set]; exact hql)) (fun μ2 h3 => ?_)
          obtain ⟨h3, h4⟩ := h3
          exact ih (mrg rs r (q + 1)) μ2 i h3 (WR_mrg hW hrl hql) (by rw [mrg_len hql]; omega) (by rw [mrg_len hql]; omega) (by omega) ((hf.tr h2).tr h4) hk
  have outer : ∀ k i (rs : List RG) (μ' : Mem), i + k = 8 → TeAt μ' t (rs, T.2) → WR T.2.1 rs → r < rs.length → Fr (teC t) μ μ' → gathN r k rs = gathN r 8 T.1 → ¬ ra T.1 r = rb T.1 r → G 11 [rf 13 t, vi (nI r), vi (nI i), un] [] μ' := by
    intro k
    induction k with
    | zero =>
      intro i rs μ' hi hT' hW hrl hf hg hne
      refine g_Te_gatherInto_11 hC ?_
      rw [nx_le (by omega) (by omega)]
      refine ⟨fun _ => ⟨rfl, ?_, hf⟩, fun z => absurd (by omega) z⟩
      unfold gather
      rw [if_neg hne, ← hg]
      exact hT'
    | succ k ih =>
      intro i rs μ' hi hT' hW hrl hf hg hne
      have hn := hW.1
      refine g_Te_gatherInto_11 hC ?_
      have hmin : (if nI 8 < nI rs.length then nI 8 else nI rs.length) = nI rs.length := by
        rw [if_neg (by rw [nx_lt (by omega) (by omega)]; omega)]
      rw [nx_le (by omega) (by omega), hT'.1, hmin, nx_sub (by omega)]
      refine ⟨fun z => absurd z (by omega), fun _ => ?_⟩
      refine inner (rs.length - 1) rs μ' i hT' hW hrl (by omega) (by omega) hf (fun μ2 h2 hf2 => ?_)
      rw [nI_add]
      obtain ⟨h3, h4⟩ := gathQ_inv (rs.length - 1) rs hW hrl (by omega)
      exact ih (i + 1) _ μ2 (by omega) h2 h3 h4 hf2 hg hne
  refine useV (isEmpty_ok hwf (d + 1) hT ⟨hw1, hw2⟩ hr) ?_
  rw [bI_eq0]
  refine ⟨fun z => outer 8 0 T.1 μ (by omega) hT hw1 hr (Fr.rf _ _) rfl z, fun z => ⟨rfl, ?_, Fr.rf _ _⟩⟩
  unfold gather
  rw [if_pos (Decidable.not_not.mp z)]
  exact hT
theorem placeBy_ok {lay : List Nat} (hwf : wfB lay = true) (d : Nat) {μ : Mem} {t L : Nat} (hL : μ.1 t 5 = nI L) (hL2 : L ≤ 90) {X : Nat} (hX : X < 2 ^ 62) : Rn lay d mTe_placeBy [rf 13 t, vl (lN X)] μ (Pv (nI (X % (L + 1))) μ) := by
  refine Rn_intro ok_Te_placeBy hwf rfl (fun G hC => g_Te_placeBy_0 hC ?_)
  have e1 : (nI L).toInt64 + lN 1 = lN (L + 1) := by rw [nI_l (by omega), lN_add]
  rw [hL, e1, lg_cmp_ge, lN_le (by omega) (by omega), pk_lRem (by omega) (by omega) (by omega), lN_i]
  refine ⟨fun _ => ⟨fun z => ?_, pv_e rfl⟩, fun z => absurd (by omega) z⟩
  have h0 : lN (L + 1) = lN 0 := z
  rw [lN_eq (by omega) (by omega)] at h0
  omega
