/-! Weights.weigh: costs and manners of all sections, from the last one back -/
def spF (rk : Nat → Nat) (c c' i : Nat) (cf : Nat → Nat) : Nat → Nat := fun j => cf j + popN (c &&& c') - alk ((stk rk c).getD i []) ((stk rk c').getD j [])
def dpc (rk : Nat → Nat) : List Nat → Nat → Nat
  | [], _ => 0
  | [_], _ => 0
  | c :: c' :: r, i => chU (spF rk c c' i (dpc rk (c' :: r))) 0 (stk rk c').length
def dpm (rk : Nat → Nat) : List Nat → Nat → Nat
  | [], _ => 1
  | [_], _ => 1
  | c :: c' :: r, i => mnU (spF rk c c' i (dpc rk (c' :: r))) (dpm rk (c' :: r)) 0 (dpc rk (c :: c' :: r) i) (stk rk c').length
def okC (cv : List Nat) : Prop := ∀ c ∈ cv, c < 256 ∧ popN c ≤ 5
theorem okC.tl {c : Nat} {cv : List Nat} (h : okC (c :: cv)) : okC cv := fun x hx => h x (List.mem_cons_of_mem _ hx)
theorem popN_and (a b : Nat) : popN (a &&& b) ≤ 8 := popN_le _
theorem dpc_le {rk : Nat → Nat} (hrk : ∀ r, r < 8 → rk r < 4) : ∀ (cv : List Nat), okC cv → ∀ i, dpc rk cv i ≤ 8 * cv.length
  | [], _, i => by simp [dpc]
  | [_], _, i => by simp [dpc]
  | c :: c' :: r, h, i => by
    have ih := dpc_le hrk (c' :: r) h.tl
    obtain ⟨hc1, hc2⟩ := h.tl c' List.mem_cons_self
    have hp := stk_pos hrk hc1 hc2
    unfold dpc
    have h0 : spF rk c c' i (dpc rk (c' :: r)) 0 ≤ 8 * (c :: c' :: r).length := by
      have := ih 0
      have := popN_and c c'
      unfold spF
      simp only [List.length_cons] at *
      omega
    have hle : ∀ n, 0 < n → chU (spF rk c c' i (dpc rk (c' :: r))) 0 n ≤ spF rk c c' i (dpc rk (c' :: r)) 0 := by
      intro n
      induction n with
      | zero => intro q; omega
      | succ n ihn =>
        intro _
        unfold chU
        rcases Nat.eq_zero_or_pos n with e | e
        · subst e
          rw [Nat.add_zero]
          split <;> (unfold chU at *; omega)
        · have := ihn e
          split <;> omega
    exact Nat.le_trans (hle _ hp) h0
theorem dpm_le (rk : Nat → Nat) : ∀ (cv : List Nat) (i : Nat), dpm rk cv i ≤ 1000000000
  | [], i => by simp [dpm]
  | [_], i => by simp [dpm]
  | c :: c' :: r, i => mnU_le _ _ _ _ _
theorem drop_cons {cv : List Nat} {s : Nat} (h : s < cv.length) : cv.drop s = cv.getD s 0 :: cv.drop (s + 1) := by
  rw [List.drop_eq_getElem_cons h]
  congr 1
  rw [List.getD, List.getElem?_eq_getElem h]
  rfl
theorem okC.at {cv : List Nat} (h : okC cv) {s : Nat} (hs : s < cv.length) : cv.getD s 0 < 256 ∧ popN (cv.getD s 0) ≤ 5 := h _ (by
  rw [List.getD, List.getElem?_eq_getElem hs]
  exact List.getElem_mem hs)
theorem okC.drop {cv : List Nat} (h : okC cv) (s : Nat) : okC (cv.drop s) := fun x hx => h x (List.mem_of_mem_drop hx)
def rkT (T : TS) (alike : Bool) (r : Nat) : Nat := if alike = true then 0 else if r < T.1.length then T.2.2.getD (kd T.1 r) 0 else 0
theorem rkT_lt {T : TS} (hw : WT T) (alike : Bool) (r : Nat) : rkT T alike r < 4 := by
  unfold rkT
  split
  · omega
  · split
    · exact hw.rk _
    · omega
def few (rk : Nat → Nat) (cv : List Nat) : Nat := match cv with
  | [] => 0
  | c :: r => chU (dpc rk (c :: r)) 0 (stk rk c).length
def asf (rk : Nat → Nat) (cv : List Nat) : Nat := match cv with
  | [] => 1
  | c :: r => mnU (dpc rk (c :: r)) (dpm rk (c :: r)) 0 (few rk (c :: r)) (stk rk c).length
/-- all rows of stacks and costs -/
def WeAt (μ : Mem) (w : Nat) (rk : Nat → Nat) (cv : List Nat) (k : Nat) : Prop := ∀ s, k ≤ s → s < cv.length → RowAt μ w s (stk rk (cv.getD s 0)) ∧ CoAt μ w s (stk rk (cv.getD s 0)).length (dpc rk (cv.drop s))
theorem alk_dig : ∀ (m : Nat) (l u : List Nat), m < alk l u → dig l m = dig u m ∧ dig l m ≠ 0
  | m, [], u, hq => by simp [alk] at hq
  | m, a :: l, [], hq => by simp [alk] at hq
  | 0, a :: l, b :: u, hq => by
    simp only [alk] at hq
    split at hq
    · next e => subst e; simp [dig]
    · omega
  | m + 1, a :: l, b :: u, hq => by
    simp only [alk] at hq
    split at hq
    · have := alk_dig m l u (by omega)
      simpa [dig] using this
    · omega
theorem sI_dec : nI 0 + mI 0 = mI 0 := by decide
def sI (k : Nat) : Int32 := match k with
  | 0 => mI 0
  | n + 1 => nI n
theorem sI_next (n : Nat) : nI n + mI 0 = sI n := by
  cases n with
  | zero => exact sI_dec
  | succ n => exact nx_dec n
theorem weigh_ok {lay : List Nat} (hwf : wfB lay = true) (d : Nat) {μ : Mem} {w t s : Nat} {T : TS} {cs cv : List Nat} {alike : Bool} (hT : TeAt μ t T) (hw : WT T) (hS : SeAt μ s cs cv) (hl : cv.length ≤ 15) (hok : okC cv) (hd1 : t + 5 ≤ w ∨ w + 38 ≤ t) (hd2 : s + 4 ≤ w ∨ w + 38 ≤ s) : Rn lay (d + 8) mWe_weigh [rf 14 w, rf 13 t, rf 12 s, vi (nI (if alike = true then 1 else 0))] μ (Pn fun μ1 => WeAt μ1 w (rkT T alike) cv 0 ∧ μ1.1 w 6 = nI (few (rkT T alike) cv) ∧ μ1.1 w 7 = nI (asf (rkT T alike) cv) ∧ Fri w (w + 38) μ μ1) := by
  have hrk : ∀ r, r < 8 → rkT T alike r < 4 := fun r _ => rkT_lt hw alike r
  generalize hrkE : rkT T alike = rk at hrk ⊢
  refine Rn_intro ok_We_weigh hwf rfl (fun G hC => g_We_weigh_0 hC ?_)
  have hSF : ∀ (μ' : Mem), Fri w (w + 38) μ μ' → SeAt μ' s cs cv := fun μ' hf => by
    obtain ⟨⟨c1, c2⟩, c3, c4, c5⟩ := hS
    have e0 := hf.1 s (by omega)
    have e1 := hf.1 (s + 1) (by omega)
    have e2 := hf.1 (s + 2) (by omega)
    have e3 := hf.1 (s + 3) (by omega)
    exact ⟨⟨by rw [e0]; exact c1, fun i hi => by rw [e1]; exact c2 i hi⟩, by rw [e0]; exact c3, fun i hi => by rw [e2]; exact c4 i hi, fun i hi => by rw [e3]; exact c5 i hi⟩
  -- the end
  have f172 : ∀ (μ' : Mem), Fri w (w + 38) μ μ' → WeAt μ' w rk cv 0 → (0 < cv.length → MaAt μ' w 0 (stk rk (cv.getD 0 0)).length (dpm rk cv)) → G 172 [rf 14 w, un, un, un, vi (nI cv.length), un, un] [] μ' := by
    intro μ' hf hwe hma
    refine g_We_weigh_172 hC ?_
    rw [nx_0, nx_eq (by omega) (by omega)]
    refine ⟨fun z => ?_, fun z => ⟨fun z2 => absurd z z2, fun _ => ?_⟩⟩
    · obtain ⟨hr0, hc0⟩ := hwe 0 (by omega) (by omega)
      obtain ⟨b1, b2⟩ := hok.at (show 0 < cv.length by omega)
      have hlen := stk_len (rk := rk) b1 b2
      have hm0 := hma (by omega)
      have hdl : ∀ i, dpc rk cv i < 2147483648 := fun i => by
        have := dpc_le hrk cv hok i
        omega
      rw [List.drop_zero] at hc0
      obtain ⟨c, r, hcv⟩ : ∃ c r, cv = c :: r := by
        cases cv with
        | nil => simp at z
        | cons c r => exact ⟨c, r, rfl⟩
      have efew : few rk cv = chU (dpc rk cv) 0 (stk rk (cv.getD 0 0)).length := by rw [hcv]; rfl
      have easf : asf rk cv = mnU (dpc rk cv) (dpm rk cv) 0 (few rk cv) (stk rk (cv.getD 0 0)).length := by rw [hcv]; rfl
      have hfl := chU_le (dpc rk cv) 0 (stk rk (cv.getD 0 0)).length
      have h36 : μ'.1 (w + 36) 0 = nI (stk rk (cv.getD 0 0)).length := hr0.1
      simp (disch := omega) only [nx_cl, nx_in', h36]
      refine ⟨by omega, ?_⟩
      refine useV (cheapest_ok hwf _ (by omega) hlen hc0 (fun i _ => hdl i) (Nat.zero_le _) (Nat.le_refl _)) ?_
      rw [Nat.sub_zero, ← efew]
      refine ⟨fun _ => ?_, fun z2 => absurd z2 z⟩
      simp (disch := omega) only [up_n1, up_at, h36]
      refine ⟨by omega, ?_⟩
      rw [← efew] at hfl
      refine useV (mannersOf_ok hwf _ (by omega) hlen (fun i hi => by rw [up_n1 (by omega)]; exact hc0 i hi) (fun i _ => hdl i) (fun i hi => by rw [up_n1 (by omega)]; exact hm0 i hi) (fun i _ => dpm_le rk cv i) (Nat.zero_le _) (Nat.le_refl _) (by omega)) ?_
      rw [Nat.sub_zero, ← easf]
      refine ⟨rfl, fun q q1 q2 => ?_, by rw [up_n2 (by omega), up_at], by rw [up_at], (hf.up (by omega)).up (by omega)⟩
      obtain ⟨⟨r1, r2⟩, r3⟩ := hwe q q1 q2
      refine ⟨⟨by simp (disch := omega) only [up_n1]; exact r1, fun i hi => by simp (disch := omega) only [up_n1]; exact r2 i hi⟩, fun i hi => by simp (disch := omega) only [up_n1]; exact r3 i hi⟩
    · have hcv : cv = [] := by
        cases cv with
        | nil => rfl
        | cons c r => simp at z
      subst hcv
      refine ⟨rfl, fun q q1 q2 => by simp at q2, ?_, by rw [up_at]; rfl, (hf.up (by omega)).up (by omega)⟩
      rw [up_n2 (by omega), up_at]
      rfl
  have loop : ∀ k (μ' : Mem), k ≤ cv.length → Fri w (w + 38) μ μ' → RkAt μ' w rk → WeAt μ' w rk cv k → (k < cv.length → MaAt μ' w k (stk rk (cv.getD k 0)).length (dpm rk (cv.drop k))) → G 54 [rf 14 w, un, rf 12 s, un, vi (nI cv.length), vi (sI k), un] [] μ' := by
    intro k
    induction k with
    | zero =>
      intro μ' hk hf hrkA hwe hma
      refine g_We_weigh_54 hC ?_
      refine ⟨fun _ => f172 μ' hf hwe hma, fun z => absurd (by decide) z⟩
    | succ k ih =>
      intro μ' hk hf hrkA hwe hma
      have hkl : k < cv.length := by omega
      obtain ⟨b1, b2⟩ := hok.at hkl
      have hlen := stk_len (rk := rk) b1 b2
      have hpos := stk_pos hrk b1 b2
      rw [show sI (k + 1) = nI k from rfl]
      refine g_We_weigh_54 hC ?_
      have hcvk : μ'.1 (s + 2) k = nI (cv.getD k 0) := (hSF μ' hf).2.2.1 k hkl
      rw [nx_0, nx_lt (by omega) (by omega)]
      refine ⟨fun z => absurd z (by omega), fun _ => ?_⟩
      simp (disch := omega) only [nx_cl, nx_in', up_n1, hcvk, nI_add, nx_lt]
      refine ⟨by omega, by omega, ?_⟩
      have hadd := addStacks_ok hwf (d + 1) (w := w) (s := k) (rk := rk) (by omega) 5 (cv.getD k 0) [] [] (upI μ' (w + 36) k (nI 0)) (by simp) ⟨by simp, by simp⟩ b1 (fun r hr => by rw [up_n1 (by omega)]; exact hrkA r hr) ⟨by rw [up_at]; rfl, fun i hi => by simp at hi⟩ (by simp; exact hlen)
      refine useN hadd (fun μ1 hp => ?_)
      obtain ⟨p1, p2⟩ := hp
      have p1 : RowAt μ1 w k (stk rk (cv.getD k 0)) := p1
      have hf1 : Fri w (w + 38) μ μ1 := (hf.up (a := w + 36) (k := k) (v := nI 0) (by omega)).tr ⟨fun b hb => p2.1 b (by omega) (by omega), p2.2.2⟩
      have hrk1 : RkAt μ1 w rk := fun r hr => by
        rw [p2.1 (w + 37) (by omega) (by omega), up_n1 (by omega)]
        exact hrkA r hr
      have hwe1 : WeAt μ1 w rk cv (k + 1) := fun q q1 q2 => by
        obtain ⟨⟨r1, r2⟩, r3⟩ := hwe q q1 q2
        refine ⟨⟨?_, fun i hi => ?_⟩, fun i hi => ?_⟩
        · rw [p2.2.1 q (by omega), up_n2 (by omega)]; exact r1
        · rw [p2.1 _ (by omega) (by omega), up_n1 (by omega)]; exact r2 i hi
        · rw [p2.1 _ (by omega) (by omega), up_n1 (by omega)]; exact r3 i hi
      have hma1 : k + 1 < cv.length → MaAt μ1 w (k + 1) (stk rk (cv.getD (k + 1) 0)).length (dpm rk (cv.drop (k + 1))) := fun hq i hi => by
        rw [p2.1 _ (by omega) (by omega), up_n1 (by omega)]
        exact hma hq i hi
      -- all set, then offers if it isn't the last
      have f112 : ∀ (last : Bool), (last = true ↔ ¬ k + 1 < cv.length) → G 112 [rf 14 w, un, rf 12 s, un, vi (nI cv.length), vi (nI k), vi (nI (if last = true then 1 else 0))] [vi (nI (if last = true then 0 else 1000000)), vi (nI k), rf 14 w] μ1 := by
        intro last hlast
        refine g_We_weigh_112 hC ?_
        have rest : ∀ (μ2 : Mem), CoAt μ2 w k (stk rk (cv.getD k 0)).length (fun _ => if last = true then 0 else 1000000) → MaAt μ2 w k (stk rk (cv.getD k 0)).length (fun _ => if last = true then 1 else 0) → FrC w k μ1 μ2 → vp_in (nI k) 15 ∧ ((¬ nI (if last = true then 1 else 0) = 0 → G 54 [rf 14 w, un, rf 12 s, un, vi (nI cv.length), vi (nI k + mI 0), un] [] (upI μ2 w 5 (μ2.1 (s + 3) (nI k).toNatClampNeg))) ∧ (nI (if last = true then 1 else 0) = 0 → (vp_in (nI k) 15 ∧ (vp_in (nI k + (nI 1)) 15 ∧ (∃ P163 : PT, Rn lay (d + 7) mWe_offerAlike [rf 14 w, vi (nI k), vi (nI 0), vi (nI 0), vi ((upI μ2 w 5 (μ2.1 (s + 3) (nI k).toNatClampNeg)).1 (w + 36) (nI k).toNatClampNeg), vi (nI 0), vi ((upI μ2 w 5 (μ2.1 (s + 3) (nI k).toNatClampNeg)).1 (w + 36) (nI k + (nI 1)).toNatClampNeg)] (upI μ2 w 5 (μ2.1 (s + 3) (nI k).toNatClampNeg)) P163 ∧ ∀ μ163 : Mem, P163 none μ163 → G 54 [rf 14 w, un, rf 12 s, un, vi (nI cv.length), vi (nI k + mI 0), un] [] μ163))))) := by
          intro μ2 hco hma2 hfc
          have hf2 : Fri w (w + 38) μ μ2 := hf1.tr ⟨fun b hb => hfc.1 b (by omega) (by omega), hfc.2⟩
          have hrow2 : RowAt μ2 w k (stk rk (cv.getD k 0)) := hfc.row (by omega) (by omega) p1
          have hrk2 : RkAt μ2 w rk := fun r hr => by rw [hfc.1 _ (by omega) (by omega)]; exact hrk1 r hr
          have hwe2 : WeAt μ2 w rk cv (k + 1) := fun q q1 q2 => by
            obtain ⟨r1, r3⟩ := hwe1 q q1 q2
            exact ⟨hfc.row (by omega) (by omega) r1, fun i hi => by rw [hfc.1 _ (by omega) (by omega)]; exact r3 i hi⟩
          have hma3 : k + 1 < cv.length → MaAt μ2 w (k + 1) (stk rk (cv.getD (k + 1) 0)).length (dpm rk (cv.drop (k + 1))) := fun hq i hi => by
            rw [hfc.1 _ (by omega) (by omega)]
            exact hma1 hq i hi
          rw [nx_cl (by omega), nx_in' (by omega) (by omega), sI_next]
          refine ⟨by omega, fun z => ?_, fun z => ?_⟩
          · have hl1 : last = true := by
              cases last with
              | true => rfl
              | false => exact absurd rfl z
            have hk1 : k + 1 = cv.length := by have := hlast.mp hl1; omega
            rw [hl1] at hco hma2
            simp only [if_true] at hco hma2
            have edrop : cv.drop k = [cv.getD k 0] := by rw [drop_cons hkl, hk1, List.drop_length]
            refine ih _ (by omega) (hf2.up (by omega)) (fun r hr => by rw [up_n1 (by omega)]; exact hrk2 r hr) (fun q q1 q2 => ?_) (fun _ i hi => ?_)
            · have hq : q = k := by omega
              subst hq
              refine ⟨⟨by rw [up_n1 (by omega)]; exact hrow2.1, fun i hi => by rw [up_n1 (by omega)]; exact hrow2.2 i hi⟩, fun i hi => ?_⟩
              rw [up_n1 (by omega), hco i hi, edrop]
              rfl
            · rw [up_n1 (by omega), hma2 i hi, edrop]
              rfl
          · have hl1 : last = false := by
              cases last with
              | true => exact absurd z (by decide)
              | false => rfl
            have hk1 : k + 1 < cv.length := Decidable.not_not.mp (fun q => by rw [hlast.mpr q] at hl1; cases hl1)
            rw [hl1] at hco hma2
            simp only [Bool.false_eq_true, if_false] at hco hma2
            obtain ⟨c1, c2⟩ := hok.at hk1
            have hlen' := stk_len (rk := rk) c1 c2
            have hpos' := stk_pos hrk c1 c2
            obtain ⟨hrowY, hcoY⟩ := hwe2 (k + 1) (by omega) hk1
            have hmaY := hma3 hk1
            have hshv : μ2.1 (s + 3) k = nI (popN (cv.getD k 0 &&& cv.getD (k + 1) 0)) := (hSF μ2 hf2).2.2.2 k hk1
            rw [nI_add, nx_cl (by omega), nx_in' (by omega) (by omega), hshv, up_n1 (by omega), up_n1 (by omega), hrow2.1, hrowY.1]
            refine ⟨by omega, by omega, ?_⟩
            have hdl : ∀ i, dpc rk (cv.drop (k + 1)) i < 1000000 := fun i => by
              have := dpc_le hrk (cv.drop (k + 1)) (hok.drop _) i
              have := List.length_drop (l := cv) (i := k + 1)
              omega
            have hoff := offerAlike_ok hwf d (w := w) (s := k) (sh := popN (cv.getD k 0 &&& cv.getD (k + 1) 0)) (xs := stk rk (cv.getD k 0)) (ys := stk rk (cv.getD (k + 1) 0)) (cf := dpc rk (cv.drop (k + 1))) (mf := dpm rk (cv.drop (k + 1))) (by omega) hlen hlen' (fun x hx => (stk_st b1 hx).ok b2) (fun x hx => (stk_st c1 hx).ok c2) (stk_lex b1) (stk_lex c1) (fun i _ => by have := hdl i; omega) (fun i _ => dpm_le rk _ i) (popN_and _ _)
              (fun i j q hi hj hq => st_share (stk_st b1 (stk_get hi)) (stk_st c1 (stk_get hj)) hq) 5 0 0 (stk rk (cv.getD k 0)).length 0 (stk rk (cv.getD (k + 1) 0)).length (upI μ2 w 5 (nI (popN (cv.getD k 0 &&& cv.getD (k + 1) 0)))) (fun _ => (1000000, 0)) (by omega) hpos (Nat.le_refl _) hpos' (Nat.le_refl _) (fun i j _ _ _ _ q hq => by omega)
              ⟨⟨by rw [up_n1 (by omega)]; exact hrow2.1, fun i hi => by rw [up_n1 (by omega)]; exact hrow2.2 i hi⟩, ⟨by rw [up_n1 (by omega)]; exact hrowY.1, fun i hi => by rw [up_n1 (by omega)]; exact hrowY.2 i hi⟩, fun i hi => by rw [up_n1 (by omega)]; exact hcoY i hi, fun i hi => by rw [up_n1 (by omega)]; exact hmaY i hi, by rw [up_at]⟩
              (fun i hi => ⟨by rw [up_n1 (by omega)]; exact hco i hi, by rw [up_n1 (by omega)]; exact hma2 i hi⟩) (fun i _ => ⟨by omega, by omega⟩)
            refine useN hoff (fun μ3 hq => ?_)
            obtain ⟨pf', q1, q2, q3, q4, q5⟩ := hq
            have hf3 : Fri w (w + 38) μ μ3 := (hf2.up (a := w) (k := 5) (v := nI (popN (cv.getD k 0 &&& cv.getD (k + 1) 0))) (by omega)).tr ⟨fun b hb => q5.1 b (by omega) (by omega), q5.2⟩
            have edrop : cv.drop k = cv.getD k 0 :: cv.getD (k + 1) 0 :: cv.drop (k + 1 + 1) := by rw [drop_cons hkl, drop_cons hk1]
            have edrop1 : cv.drop (k + 1) = cv.getD (k + 1) 0 :: cv.drop (k + 1 + 1) := drop_cons hk1
            have hval : ∀ i, i < (stk rk (cv.getD k 0)).length → pf' i = (dpc rk (cv.drop k) i, dpm rk (cv.drop k) i) := by
              intro i hi
              have hst := stk_st b1 (stk_get hi)
              have hshj : ∀ j, j < (stk rk (cv.getD (k + 1) 0)).length → alk ((stk rk (cv.getD k 0)).getD i []) ((stk rk (cv.getD (k + 1) 0)).getD j []) ≤ popN (cv.getD k 0 &&& cv.getD (k + 1) 0) := fun j hj => by
                refine st_share hst (stk_st c1 (stk_get hj)) (k := alk _ _) (fun q hq => ?_)
                exact alk_dig q _ _ hq
              have hFb : ∀ j, spF rk (cv.getD k 0) (cv.getD (k + 1) 0) i (dpc rk (cv.drop (k + 1))) j < 1000000 := fun j => by
                have h8 := dpc_le hrk (cv.drop (k + 1)) (hok.drop _) j
                have h9 := List.length_drop (l := cv) (i := k + 1)
                have h10 := popN_and (cv.getD k 0) (cv.getD (k + 1) 0)
                unfold spF
                omega
              have hmin := chU_mn (cf := spF rk (cv.getD k 0) (cv.getD (k + 1) 0) i (dpc rk (cv.drop (k + 1)))) (a := 0) (stk rk (cv.getD (k + 1) 0)).length hpos' (fun j _ _ => hFb j)
              rw [Nat.zero_add] at hmin
              have hres := offR_val (F := spF rk (cv.getD k 0) (cv.getD (k + 1) 0) i (dpc rk (cv.drop (k + 1)))) (fun j _ => hdl j) hshj (fun j => rfl) 5 0 0 (stk rk (cv.getD (k + 1) 0)).length _ _ (by omega) (hst.ok b2).1 hpos' (Nat.le_refl _) (fun j _ _ q hq => by omega) (q3 i (by omega) hi) _ hmin
              have hlt : chU (spF rk (cv.getD k 0) (cv.getD (k + 1) 0) i (dpc rk (cv.drop (k + 1)))) 0 (stk rk (cv.getD (k + 1) 0)).length < 1000000 := by
                obtain ⟨⟨j, -, -, j3⟩, -⟩ := hmin
                rw [← j3]
                exact hFb j
              rw [hres, offP_def, if_pos hlt]
              have ec : dpc rk (cv.drop k) i = chU (spF rk (cv.getD k 0) (cv.getD (k + 1) 0) i (dpc rk (cv.drop (k + 1)))) 0 (stk rk (cv.getD (k + 1) 0)).length := by
                rw [edrop, edrop1]
                rfl
              have em : dpm rk (cv.drop k) i = mnU (spF rk (cv.getD k 0) (cv.getD (k + 1) 0) i (dpc rk (cv.drop (k + 1)))) (dpm rk (cv.drop (k + 1))) 0 (dpc rk (cv.drop k) i) (stk rk (cv.getD (k + 1) 0)).length := by
                rw [edrop, edrop1]
                rfl
              rw [em, ec, mnU_sm _ _ 0 _ (L := (stk rk (cv.getD (k + 1) 0)).length) _ (by omega), Nat.zero_add]
            refine ih μ3 (by omega) hf3 (fun r hr => by rw [q5.1 _ (by omega) (by omega), up_n1 (by omega)]; exact hrk2 r hr) (fun q r1 r2 => ?_) (fun _ i hi => ?_)
            · by_cases hq : q = k
              · subst hq
                refine ⟨⟨by rw [q5.1 _ (by omega) (by omega), up_n1 (by omega)]; exact hrow2.1, fun i hi => by rw [q5.1 _ (by omega) (by omega), up_n1 (by omega)]; exact hrow2.2 i hi⟩, fun i hi => ?_⟩
                rw [(q1 i hi).1, hval i hi]
              · obtain ⟨⟨e1, e2⟩, e3⟩ := hwe2 q (by omega) r2
                refine ⟨⟨by rw [q5.1 _ (by omega) (by omega), up_n1 (by omega)]; exact e1, fun i hi => by rw [q5.1 _ (by omega) (by omega), up_n1 (by omega)]; exact e2 i hi⟩, fun i hi => by rw [q5.1 _ (by omega) (by omega), up_n1 (by omega)]; exact e3 i hi⟩
            · rw [(q1 i hi).2, hval i hi]
        have hcnt := p1.1
        cases last with
        | true => exact ⟨fun z => absurd z (by decide), fun _ => useN (setAll_ok hwf _ (by omega) hlen hcnt) (fun μ2 hq => rest μ2 hq.1 hq.2.1 hq.2.2)⟩
        | false => exact ⟨fun _ => useN (setAll_ok hwf _ (by omega) hlen hcnt) (fun μ2 hq => rest μ2 hq.1 hq.2.1 hq.2.2), fun z => absurd (by decide) z⟩
      exact ⟨fun z => f112 false (by simp; exact z), fun z => f112 true (by simp; omega)⟩
  have l3 : ∀ n i (μ' : Mem), i + n = 8 → Fri w (w + 38) μ μ' → (∀ r, r < i → μ'.1 (w + 37) r = nI (rk r)) → G 3 [rf 14 w, rf 13 t, rf 12 s, vi (nI (if alike = true then 1 else 0)), vi (nI i), un, un] [] μ' := by
    intro n
    induction n with
    | zero =>
      intro i μ' hi hf hr
      have h4 := (hSF μ' hf).2.1
      refine g_We_weigh_3 hC ?_
      have hmin : (if nI 15 < nI cv.length then nI 15 else nI cv.length) = nI cv.length := by
        rw [if_neg (by rw [nx_lt (by omega) (by omega)]; omega)]
      rw [nx_le (by omega) (by omega), h4, hmin]
      refine ⟨fun _ => ?_, fun z => absurd (by omega) z⟩
      have := loop cv.length μ' (Nat.le_refl _) hf (fun r hr2 => ⟨hr r (by omega), hrk r hr2⟩) (fun q q1 q2 => by omega) (fun q => by omega)
      have e : nI cv.length - nI 1 = sI cv.length := by
        cases hcl : cv.length with
        | zero => decide
        | succ m => rw [nx_sub (by omega)]; rfl
      rw [e]
      exact this
    | succ n ih =>
      intro i μ' hi hf hr
      have hT' : TeAt μ' t T := hT.fi hf hd1
      refine g_We_weigh_3 hC ?_
      simp (disch := omega) only [nx_le, nx_cl, nx_in', nI_add]
      refine ⟨fun z => absurd z (by omega), fun _ => ⟨fun z => ?_, fun z => ⟨by omega, ?_⟩⟩⟩
      · have ha : alike = false := by
          cases alike with
          | true => exact absurd z (by decide)
          | false => rfl
        refine useV (rankOf_ok hwf _ hT' hw (by omega)) ?_
        refine ⟨by omega, ih (i + 1) _ (by omega) (hf.up (by omega)) (fun r hr2 => ?_)⟩
        by_cases e : r = i
        · subst e
          rw [up_at, ← hrkE, rkT, ha]
          rfl
        · rw [up_n2 e]; exact hr r (by omega)
      · have ha : alike = true := by
          cases alike with
          | true => rfl
          | false => exact absurd rfl z
        refine ih (i + 1) _ (by omega) (hf.up (by omega)) (fun r hr2 => ?_)
        by_cases e : r = i
        · subst e
          rw [up_at, ← hrkE, rkT, ha]
          rfl
        · rw [up_n2 e]; exact hr r (by omega)
  exact l3 8 0 μ (by omega) (Fri.rf _ _ _) (fun r hr => by omega)
