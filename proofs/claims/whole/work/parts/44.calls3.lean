/-! the calls that put in and take out -/
theorem nc_map {rs : List RG} {f : RG → RG} (h : NC rs) (hf : ∀ y, ∃ y', ∀ r ∈ rs, (f r).2.1 ≤ y → y < (f r).2.2 → r.2.1 ≤ y' ∧ y' < r.2.2) : NC (rs.map f) := by
  intro y
  obtain ⟨y', hy⟩ := hf y
  refine Nat.le_trans (pop_sub (b := cov rs y') (fun j _ hj => ?_)) (h y')
  unfold cov at hj ⊢
  rw [covU_bit, List.length_map, decide_eq_true_eq] at hj
  rw [covU_bit, decide_eq_true_eq]
  obtain ⟨j1, j2, j3⟩ := hj
  rw [← el_2, el_map j1] at j2
  rw [← el_3, el_map j1] at j3
  exact ⟨j1, hy (el rs j) (List.mem_of_getElem? (el_in j1)) j2 j3⟩
theorem put_wt {T : TS} (hw : WT T) {p m : Nat} (hL : T.2.1 + m ≤ 90) : WT (T.1.map (putR p m), T.2.1 + m, T.2.2) := by
  obtain ⟨⟨w1, w2⟩, w3, w4⟩ := hw
  refine ⟨⟨by rw [List.length_map]; exact w1, fun r hr => ?_⟩, hL, w4⟩
  obtain ⟨s, s1, s2⟩ := List.mem_map.mp hr
  obtain ⟨u1, u2, u3⟩ := w2 s s1
  subst s2
  refine ⟨u1, ?_, ?_⟩
  · show (if p < s.2.1 ∨ (s.2.1 = p ∧ ¬ s.2.1 = s.2.2) then s.2.1 + m else s.2.1) ≤ (if p < s.2.2 then s.2.2 + m else s.2.2)
    split <;> split <;> omega
  · show (if p < s.2.2 then s.2.2 + m else s.2.2) ≤ T.2.1 + m
    split <;> omega
theorem put_nc {rs : List RG} (h : NC rs) (p m : Nat) : NC (rs.map (putR p m)) := by
  refine nc_map h (fun y => ⟨if y < p then y else if y < p + m then p else y - m, fun r _ h1 h2 => ?_⟩)
  have h1 : (if p < r.2.1 ∨ (r.2.1 = p ∧ ¬ r.2.1 = r.2.2) then r.2.1 + m else r.2.1) ≤ y := h1
  have h2 : y < (if p < r.2.2 then r.2.2 + m else r.2.2) := h2
  split at h1 <;> split at h2 <;> split <;> (try split) <;> omega
theorem tak_wt {T : TS} (hw : WT T) {p q : Nat} (hp : p ≤ q) (hq : q ≤ T.2.1) : WT (T.1.map (takR p q), T.2.1 - (q - p), T.2.2) := by
  obtain ⟨⟨w1, w2⟩, w3, w4⟩ := hw
  refine ⟨⟨by rw [List.length_map]; exact w1, fun r hr => ?_⟩, by show T.2.1 - (q - p) ≤ 90; omega, w4⟩
  obtain ⟨s, s1, s2⟩ := List.mem_map.mp hr
  obtain ⟨u1, u2, u3⟩ := w2 s s1
  subst s2
  refine ⟨u1, ?_, ?_⟩
  · show aft p q s.2.1 ≤ aft p q s.2.2
    unfold aft
    repeat' split
    all_goals omega
  · show aft p q s.2.2 ≤ T.2.1 - (q - p)
    unfold aft
    repeat' split
    all_goals omega
theorem tak_nc {rs : List RG} (h : NC rs) {p q : Nat} (hp : p ≤ q) : NC (rs.map (takR p q)) := by
  refine nc_map h (fun y => ⟨if y < p then y else y + (q - p), fun r _ h1 h2 => ?_⟩)
  have h1 : aft p q r.2.1 ≤ y := h1
  have h2 : y < aft p q r.2.2 := h2
  unfold aft at h1 h2
  repeat' split at h1
  all_goals (repeat' split at h2)
  all_goals split
  all_goals omega
theorem puts_ok {lay : List Nat} (hwf : wfB lay = true) (d : Nat) {μ : Mem} {x : Nat} {S : XS} (h : XAt μ x S) (p m : Int32) : Rn lay (d + 3) mX_puts [rf 15 x, vi p, vi m] μ (if (0 ≤ p.toInt ∧ p.toInt ≤ S.1.2.1) ∧ 1 ≤ m.toInt ∧ m.toInt ≤ 90 then (if S.1.2.1 + tN m ≤ 90 then PX x (nI (S.1.2.1 + tN m)) (xSet S (S.1.1.map (putR (tN p) (tN m)), S.1.2.1 + tN m, S.1.2.2)) else PX x (mI 3) (xFull S)) else PX x (mI 1) (xBad S)) := by
  refine Rn_intro ok_X_puts hwf rfl (fun G hC => g_X_puts_0 hC ?_)
  have hw := h.2.2.2.2.2.1.1
  have hn := hw.1.1
  have hL := hw.2.1
  have e1 : (nI 1).toInt = 1 := by decide
  have e90 : (nI 90).toInt = 90 := by decide
  rw [h.1.2.1]
  refine ⟨fun q => ?_, fun q => ⟨fun q2 => ?_, fun q2 => ⟨fun q3 => ?_, fun q3 => ⟨fun q4 => ?_, fun q4 => ?_⟩⟩⟩⟩
  · rw [i_lt, i_0] at q
    rw [if_neg (by omega)]
    exact useBad hwf _ h
  · rw [i_lt, nI_ti (by omega)] at q2
    rw [if_neg (by omega)]
    exact useBad hwf _ h
  · rw [i_lt, e1] at q3
    rw [if_neg (by omega)]
    exact useBad hwf _ h
  · rw [i_lt, i_0] at q
    rw [i_lt, nI_ti (by omega)] at q2
    rw [i_lt, e1] at q3
    rw [i_le, e90] at q4
    rw [if_pos (by omega)]
    obtain ⟨p', p1, p2, p3⟩ := nat_of (v := p) (by omega)
    obtain ⟨m', m1, m2, m3⟩ := nat_of (v := m) (by omega)
    have ep : tN p = p' := by unfold tN; rw [p3]; rfl
    have em : tN m = m' := by unfold tN; rw [m3]; rfl
    rw [ep, em, p2, m2, nI_add, nx_le (by omega) (by omega)]
    refine ⟨fun z => ?_, fun z => ?_⟩
    · rw [if_pos z]
      refine useN (copy_ok hwf _ (t := x + 6) h.1 hw (by omega)) (fun μ1 hp => ?_)
      obtain ⟨c1, c2⟩ := hp
      refine useN (putIn_ok hwf _ (p := p') (m := m') c1 hw (by omega) (by omega)) (fun μ2 hp => ?_)
      obtain ⟨c3, c4⟩ := hp
      exact useSettle hwf d ((h.trial c2).trial c4) c3 (put_wt hw z) (put_nc h.2.2.2.2.2.1.2.1 p' m') (fun μ3 q3 => ⟨_, rfl, q3.1.2.1, q3⟩)
    · rw [if_neg z]
      exact useFull hwf _ h
  · rw [i_le, e90] at q4
    rw [if_neg (by omega)]
    exact useBad hwf _ h
theorem takes_ok {lay : List Nat} (hwf : wfB lay = true) (d : Nat) {μ : Mem} {x : Nat} {S : XS} (h : XAt μ x S) (p q : Int32) : Rn lay (d + 3) mX_takes [rf 15 x, vi p, vi q] μ (if 0 ≤ p.toInt ∧ p.toInt < q.toInt ∧ q.toInt ≤ S.1.2.1 then PX x (nI (S.1.2.1 - (tN q - tN p))) (xSet S (S.1.1.map (takR (tN p) (tN q)), S.1.2.1 - (tN q - tN p), S.1.2.2)) else PX x (mI 1) (xBad S)) := by
  refine Rn_intro ok_X_takes hwf rfl (fun G hC => g_X_takes_0 hC ?_)
  have hw := h.2.2.2.2.2.1.1
  have hn := hw.1.1
  have hL := hw.2.1
  rw [h.1.2.1]
  refine ⟨fun z => ?_, fun z => ⟨fun z2 => ?_, fun z2 => ⟨fun z3 => ?_, fun z3 => ?_⟩⟩⟩
  · rw [i_lt, i_0] at z
    rw [if_neg (by omega)]
    exact useBad hwf _ h
  · rw [i_le] at z2
    rw [if_neg (by omega)]
    exact useBad hwf _ h
  · rw [i_lt, i_0] at z
    rw [i_le] at z2
    rw [i_le, nI_ti (by omega)] at z3
    rw [if_pos (by omega)]
    obtain ⟨p', p1, p2, p3⟩ := nat_of (v := p) (by omega)
    obtain ⟨q', q1, q2, q3⟩ := nat_of (v := q) (by omega)
    have ep : tN p = p' := by unfold tN; rw [p3]; rfl
    have eq : tN q = q' := by unfold tN; rw [q3]; rfl
    rw [ep, eq, p2, q2]
    have hpq : p' ≤ q' := by omega
    have hq : q' ≤ S.1.2.1 := by omega
    refine useN (copy_ok hwf _ (t := x + 6) h.1 hw (by omega)) (fun μ1 hp => ?_)
    obtain ⟨c1, c2⟩ := hp
    refine useN (takeOut_ok hwf _ c1 hw hpq hq) (fun μ2 hp => ?_)
    obtain ⟨c3, c4⟩ := hp
    exact useSettle hwf d ((h.trial c2).trial c4) c3 (tak_wt hw hpq hq) (tak_nc h.2.2.2.2.2.1.2.1 hpq) (fun μ3 q3 => ⟨_, rfl, q3.1.2.1, q3⟩)
  · rw [i_le, nI_ti (by omega)] at z3
    rw [if_neg (by omega)]
    exact useBad hwf _ h
