/-! ranges of a kind that hang together: what every merging keeps -/
theorem cnt_er (P : RG → Bool) : ∀ (l : List RG) (q : Nat), q < l.length → ((l.eraseIdx q).filter P).length + (if P (el l q) = true then 1 else 0) = (l.filter P).length
  | [], q, h => absurd h (Nat.not_lt_zero _)
  | x :: l, 0, h => by
    show (l.filter P).length + (if P x = true then 1 else 0) = ((x :: l).filter P).length
    rw [List.filter_cons]
    by_cases hx : P x = true
    · rw [if_pos hx, if_pos hx, List.length_cons]
    · rw [if_neg hx, if_neg hx]
      rfl
  | x :: l, q + 1, h => by
    have ih := cnt_er P l q (by simpa using h)
    show ((x :: l.eraseIdx q).filter P).length + (if P (el l q) = true then 1 else 0) = ((x :: l).filter P).length
    rw [List.filter_cons, List.filter_cons]
    by_cases hx : P x = true
    · rw [if_pos hx, if_pos hx, List.length_cons, List.length_cons, ← ih]
      omega
    · rw [if_neg hx, if_neg hx]
      exact ih
theorem cnt_st (P : RG → Bool) (m : RG) : ∀ (l : List RG) (r : Nat), r < l.length → ((l.set r m).filter P).length + (if P (el l r) = true then 1 else 0) = (l.filter P).length + (if P m = true then 1 else 0)
  | [], r, h => absurd h (Nat.not_lt_zero _)
  | x :: l, 0, h => by
    show ((m :: l).filter P).length + (if P x = true then 1 else 0) = ((x :: l).filter P).length + (if P m = true then 1 else 0)
    rw [List.filter_cons, List.filter_cons]
    by_cases hx : P x = true
    · by_cases hm : P m = true
      · rw [if_pos hx, if_pos hx, if_pos hm, if_pos hm, List.length_cons, List.length_cons]
      · rw [if_pos hx, if_pos hx, if_neg hm, if_neg hm, List.length_cons]
    · by_cases hm : P m = true
      · rw [if_neg hx, if_neg hx, if_pos hm, if_pos hm, List.length_cons]
      · rw [if_neg hx, if_neg hx, if_neg hm, if_neg hm]
  | x :: l, r + 1, h => by
    have ih := cnt_st P m l r (by simpa using h)
    show ((x :: l.set r m).filter P).length + (if P (el l r) = true then 1 else 0) = ((x :: l).filter P).length + (if P m = true then 1 else 0)
    rw [List.filter_cons, List.filter_cons]
    by_cases hx : P x = true
    · rw [if_pos hx, if_pos hx, List.length_cons, List.length_cons]
      omega
    · rw [if_neg hx, if_neg hx]
      exact ih
def cvr (p : Nat) (x : RG) : Bool := decide (x.2.1 ≤ p ∧ p < x.2.2)
theorem cvr_t {p : Nat} {x : RG} : cvr p x = true ↔ x.2.1 ≤ p ∧ p < x.2.2 := decide_eq_true_iff
theorem pop_cvr {rs : List RG} (hn : rs.length ≤ 8) (p : Nat) : popN (cov rs p) = (rs.filter (cvr p)).length := pop_cov hn p
/-- the merged range -/
def mgR (rs : List RG) (r q : Nat) : RG := (kd rs r, (if ra rs q < ra rs r then ra rs q else ra rs r), (if rb rs r < rb rs q then rb rs q else rb rs r))
theorem mrg_def (rs : List RG) (r q : Nat) : mrg rs r q = (rs.set r (mgR rs r q)).eraseIdx q := rfl
theorem mrg_el {rs : List RG} {r q : Nat} (hr : r < q) (hq : q < rs.length) (i : Nat) : el (mrg rs r q) i = if i < q then (if i = r then mgR rs r q else el rs i) else el rs (i + 1) := by
  rw [mrg_def, el_erase, el_set (by omega), el_set (by omega)]
  by_cases h : i < q
  · rw [if_pos h, if_pos h]
  · rw [if_neg h, if_neg h, if_neg (by omega)]
theorem nc_mrg {rs : List RG} {r q : Nat} (hn : rs.length ≤ 8) (h : NC rs) (hr : r < q) (hq : q < rs.length) (hh : hangB rs r q) (h1 : ra rs r ≤ rb rs r) (h2 : ra rs q ≤ rb rs q) : NC (mrg rs r q) := by
  intro p
  have h0 := h p
  have hl := mrg_len (r := r) hq
  rw [pop_cvr (by omega)]
  rw [pop_cvr hn] at h0
  have e1 := cnt_er (cvr p) (rs.set r (mgR rs r q)) q (by rw [List.length_set]; exact hq)
  have e2 := cnt_st (cvr p) (mgR rs r q) rs r (by omega)
  rw [el_set (by omega), if_neg (show ¬ q = r by omega)] at e1
  rw [← mrg_def] at e1
  have hM : cvr p (mgR rs r q) = true → cvr p (el rs r) = true ∨ cvr p (el rs q) = true := by
    intro hc
    rw [cvr_t] at hc
    rw [cvr_t, cvr_t]
    obtain ⟨_, _, _, h5, h6⟩ := hh
    have a1 : (mgR rs r q).2.1 = (if ra rs q < ra rs r then ra rs q else ra rs r) := rfl
    have a2 : (mgR rs r q).2.2 = (if rb rs r < rb rs q then rb rs q else rb rs r) := rfl
    rw [a1, a2] at hc
    show (ra rs r ≤ p ∧ p < rb rs r) ∨ (ra rs q ≤ p ∧ p < rb rs q)
    obtain ⟨c1, c2⟩ := hc
    split at c1 <;> split at c2 <;> omega
  by_cases hm : cvr p (mgR rs r q) = true
  · rw [if_pos hm] at e2
    rcases hM hm with w | w
    · rw [if_pos w] at e2
      omega
    · rw [if_pos w] at e1
      omega
  · rw [if_neg hm] at e2
    omega
/-- what holds and is kept by every merging, holds behind all of them -/
theorem gathQ_ind {k r : Nat} (I : List RG → Prop) (hI : ∀ rs r q, I rs → r < q → q < rs.length → hangB rs r q → kd rs r = k → I (mrg rs r q)) : ∀ (q : Nat) (rs : List RG), I rs → kd rs r = k → r < rs.length → q < rs.length → I (gathQ r q rs) ∧ kd (gathQ r q rs) r = k ∧ r < (gathQ r q rs).length
  | 0, rs, h, hk, hr, _ => ⟨h, hk, hr⟩
  | q + 1, rs, h, hk, hr, hq => by
    unfold gathQ
    split
    · exact ⟨h, hk, hr⟩
    · next hrq =>
      split
      · next hh =>
        have hl := mrg_len (r := r) hq
        have hk2 : kd (mrg rs r (q + 1)) r = k := by
          rw [← el_1, mrg_el (by omega) hq, if_pos (by omega), if_pos rfl]
          exact hk
        exact gathQ_ind I hI q _ (hI rs r (q + 1) h (by omega) hq hh hk) hk2 (by omega) (by omega)
      · exact gathQ_ind I hI q rs h hk hr (by omega)
theorem gathN_ind {k r : Nat} (I : List RG → Prop) (hI : ∀ rs r q, I rs → r < q → q < rs.length → hangB rs r q → kd rs r = k → I (mrg rs r q)) : ∀ (n : Nat) (rs : List RG), I rs → kd rs r = k → r < rs.length → I (gathN r n rs) ∧ kd (gathN r n rs) r = k ∧ r < (gathN r n rs).length
  | 0, rs, h, hk, hr => ⟨h, hk, hr⟩
  | n + 1, rs, h, hk, hr => by
    obtain ⟨h1, h2, h3⟩ := gathQ_ind I hI (rs.length - 1) rs h hk hr (by omega)
    exact gathN_ind I hI n _ h1 h2 h3
theorem gather_ind {k r : Nat} {rs : List RG} (I : List RG → Prop) (hI : ∀ rs r q, I rs → r < q → q < rs.length → hangB rs r q → kd rs r = k → I (mrg rs r q)) (h : I rs) (hk : kd rs r = k) (hr : r < rs.length) : I (gather rs r) := by
  unfold gather
  split
  · exact h
  · exact (gathN_ind I hI 8 rs h hk hr).1
/-- all of a kind: range after range takes in those behind it -/
def jnS (k : Nat) : Nat → Nat → List RG → List RG
  | 0, _, rs => rs
  | n + 1, r, rs => if r < rs.length then jnS k n (r + 1) (if kd rs r = k then gather rs r else rs) else rs
def joinX (k : Nat) (rs : List RG) : List RG := jnS k 8 0 rs
theorem jnS_ind {k : Nat} (I : List RG → Prop) (hI : ∀ rs r q, I rs → r < q → q < rs.length → hangB rs r q → kd rs r = k → I (mrg rs r q)) : ∀ (n r : Nat) (rs : List RG), I rs → I (jnS k n r rs)
  | 0, r, rs, h => h
  | n + 1, r, rs, h => by
    unfold jnS
    split
    · next hr =>
      refine jnS_ind I hI n (r + 1) _ ?_
      split
      · next hk => exact gather_ind I hI h hk hr
      · exact h
    · exact h
theorem mrg_wrnc {L : Nat} (rs : List RG) (r q : Nat) (h : WR L rs ∧ NC rs) (hr : r < q) (hq : q < rs.length) (hh : hangB rs r q) : WR L (mrg rs r q) ∧ NC (mrg rs r q) := ⟨WR_mrg h.1 (by omega) hq, nc_mrg h.1.1 h.2 hr hq hh (h.1.at (by omega)).2.1 (h.1.at hq).2.1⟩
theorem joinX_ok {L k : Nat} {rs : List RG} (h : WR L rs) (hc : NC rs) : WR L (joinX k rs) ∧ NC (joinX k rs) := jnS_ind (fun rs => WR L rs ∧ NC rs) (fun rs r q h hr hq hh _ => mrg_wrnc rs r q h hr hq hh) 8 0 rs ⟨h, hc⟩
theorem joins_ok {lay : List Nat} (hwf : wfB lay = true) (d : Nat) {μ : Mem} {x : Nat} {S : XS} (h : XAt μ x S) (v : Int32) : Rn lay (d + 4) mX_joins [rf 15 x, vi v] μ (if 0 ≤ v.toInt ∧ v.toInt < 4 then PX x (nI S.1.1.length - nI (joinX (tN v) S.1.1).length) (xSet S (joinX (tN v) S.1.1, S.1.2)) else PX x (mI 1) (xBad S)) := by
  refine Rn_intro ok_X_joins hwf rfl (fun G hC => g_X_joins_0 hC ?_)
  have hw := h.2.2.2.2.2.1.1
  have hn := hw.1.1
  refine useV (isKind_ok hwf _ v μ) ?_
  rw [bI_eq0]
  refine ⟨fun q => ?_, fun q => ?_⟩
  · have q := Classical.not_not.mp q
    rw [if_pos q] at hC
    obtain ⟨k, k1, k2, k3⟩ := nat_of q.1
    have ek : tN v = k := by unfold tN; rw [k3]; rfl
    rw [ek] at hC
    rw [k2]
    refine useN (copy_ok hwf _ (t := x + 6) h.1 hw (by omega)) (fun μ1 hp => ?_)
    obtain ⟨p1, p2⟩ := hp
    have h1 := h.trial p2
    have fin : ∀ (rs : List RG) (μ' : Mem), XAt μ' x S → TeAt μ' (x + 6) (rs, S.1.2) → WR S.1.2.1 rs ∧ NC rs → rs = joinX k S.1.1 → G 69 [rf 15 x, un, un] [] μ' := by
      intro rs μ' hx hT hW he
      refine g_X_joins_69 hC ?_
      rw [hx.1.1, hT.1]
      refine useSettle hwf (d + 1) hx hT ⟨hW.1, hw.2⟩ hW.2 (fun μ3 q3 => ⟨_, rfl, ?_, ?_⟩)
      · rw [he]
      · rw [← he]
        exact q3
    have loop : ∀ n r (rs : List RG) (μ' : Mem), r + n = 8 → XAt μ' x S → TeAt μ' (x + 6) (rs, S.1.2) → WR S.1.2.1 rs ∧ NC rs → jnS k n r rs = joinX k S.1.1 → G 25 [rf 15 x, vi (nI k), vi (nI r)] [] μ' := by
      intro n
      induction n with
      | zero =>
        intro r rs μ' hr hx hT hW he
        have := hW.1.1
        refine g_X_joins_25 hC ?_
        rw [hT.1, nx_le (by show rs.length < _; omega) (by omega)]
        exact ⟨fun _ => fin rs μ' hx hT hW he, fun z => absurd (by show rs.length ≤ r; omega) z⟩
      | succ n ih =>
        intro r rs μ' hr hx hT hW he
        have hl := hW.1.1
        refine g_X_joins_25 hC ?_
        rw [hT.1, nx_le (by show rs.length < _; omega) (by omega), nx_le (by omega) (by omega), nx_in' (by omega) (by omega), nx_cl (by omega), nI_add]
        refine ⟨fun z => ?_, fun z => ⟨fun z2 => absurd z2 (by omega), fun _ => ⟨by omega, fun z3 => ?_, fun z3 => ?_⟩⟩⟩
        · refine fin rs μ' hx hT hW ?_
          rw [← he]
          unfold jnS
          rw [if_neg (by have : rs.length ≤ r := z; omega)]
        · have z : ¬ rs.length ≤ r := z
          rw [(hT.2.2.1 r (by show r < rs.length; omega)).1, nx_eq (by have := (hW.1.at (show r < rs.length by omega)).1; show kd rs r < _; omega) (by omega)] at z3
          refine ih (r + 1) rs μ' (by omega) hx hT hW ?_
          rw [← he]
          conv => rhs; unfold jnS
          rw [if_pos (by omega), if_neg z3]
        · have z : ¬ rs.length ≤ r := z
          rw [(hT.2.2.1 r (by show r < rs.length; omega)).1, nx_eq (by have := (hW.1.at (show r < rs.length by omega)).1; show kd rs r < _; omega) (by omega)] at z3
          have z3 : kd rs r = k := z3
          refine useN (gather_ok hwf d hT ⟨hW.1, hw.2⟩ (show r < rs.length by omega)) (fun μ2 hp => ?_)
          obtain ⟨c1, c2⟩ := hp
          refine ih (r + 1) (gather rs r) μ2 (by omega) (hx.trial c2) c1 (gather_ind (k := k) (fun rs => WR S.1.2.1 rs ∧ NC rs) (fun rs r q h hr hq hh _ => mrg_wrnc rs r q h hr hq hh) hW z3 (by omega)) ?_
          rw [← he]
          conv => rhs; unfold jnS
          rw [if_pos (by omega), if_pos z3]
    exact loop 8 0 S.1.1 μ1 (by omega) h1 p1 ⟨hw.1, h.2.2.2.2.2.1.2.1⟩ rfl
  · rw [if_neg q]
    exact useBad hwf _ h
