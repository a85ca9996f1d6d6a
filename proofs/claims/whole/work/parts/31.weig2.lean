/-! Weights: costs and manners of a section's stacks -/
theorem nx_and1 (s : Nat) : nI s &&& nI 1 = nI (s % 2) := by rw [nx_and, Nat.and_one_is_mod]
def CoAt (μ : Mem) (w s n : Nat) (cf : Nat → Nat) : Prop := ∀ i, i < n → μ.1 (w + 17 + 1 + 1 * s) i = nI (cf i)
def MaAt (μ : Mem) (w s n : Nat) (mf : Nat → Nat) : Prop := ∀ i, i < n → μ.1 (w + 33 + 1 + 1 * (s % 2)) i = nI (mf i)
/-- only costs and manners of section s have changed -/
def FrC (w s : Nat) (μ μ1 : Mem) : Prop := (∀ b, b ≠ w + 17 + 1 + 1 * s → b ≠ w + 33 + 1 + 1 * (s % 2) → μ1.1 b = μ.1 b) ∧ μ1.2 = μ.2
theorem FrC.rf (w s : Nat) (μ : Mem) : FrC w s μ μ := ⟨fun _ _ _ => rfl, rfl⟩
theorem FrC.tr {w s : Nat} {μ μ1 μ2 : Mem} (h : FrC w s μ μ1) (h2 : FrC w s μ1 μ2) : FrC w s μ μ2 := ⟨fun b h3 h4 => (h2.1 b h3 h4).trans (h.1 b h3 h4), h2.2.trans h.2⟩
theorem setAll_ok {lay : List Nat} (hwf : wfB lay = true) (d : Nat) {μ : Mem} {w s n c m : Nat} (hs : s < 15) (hn : n ≤ 120) (hc : μ.1 (w + 36) s = nI n) : Rn lay d mWe_setAll [rf 14 w, vi (nI s), vi (nI c), vi (nI m)] μ (Pn fun μ1 => CoAt μ1 w s n (fun _ => c) ∧ MaAt μ1 w s n (fun _ => m) ∧ FrC w s μ μ1) := by
  refine Rn_intro ok_We_setAll hwf rfl (fun G hC => g_We_setAll_0 hC ?_)
  have loop : ∀ k i (μ' : Mem), i + k = n → CoAt μ' w s i (fun _ => c) → MaAt μ' w s i (fun _ => m) → FrC w s μ μ' → G 3 [rf 14 w, vi (nI s), vi (nI c), vi (nI m), vi (nI i)] [] μ' := by
    intro k
    induction k with
    | zero =>
      intro i μ' hi h1 h2 hf
      have e := hf.1 (w + 36) (by omega) (by omega)
      refine g_We_setAll_3 hC ?_
      simp (disch := omega) only [nx_cl, nx_in', e, hc, nx_le]
      rw [show n = i by omega]
      exact ⟨by omega, fun _ => ⟨rfl, h1, h2, hf⟩, fun z => absurd (by omega) z⟩
    | succ k ih =>
      intro i μ' hi h1 h2 hf
      have e := hf.1 (w + 36) (by omega) (by omega)
      refine g_We_setAll_3 hC ?_
      simp (disch := omega) only [nx_and1, nx_cl, nx_in', e, hc, nx_le, nI_add]
      refine ⟨by omega, fun z => absurd z (by omega), fun _ => ⟨by omega, by omega, by omega, by omega, ih (i + 1) _ (by omega) (fun j hj => ?_) (fun j hj => ?_) (hf.tr ⟨fun b h3 h4 => by rw [up_cell h4, up_cell h3], rfl⟩)⟩⟩
      · rw [up_n1 (by omega)]
        by_cases q : j = i
        · subst q; rw [up_at]
        · rw [up_n2 q]; exact h1 j (by omega)
      · by_cases q : j = i
        · subst q; rw [up_at]
        · rw [up_n2 q, up_n1 (by omega)]; exact h2 j (by omega)
  exact loop n 0 μ (by omega) (fun j hj => by omega) (fun j hj => by omega) (FrC.rf _ _ _)
def chU (cf : Nat → Nat) (a : Nat) : Nat → Nat
  | 0 => 1000000
  | n + 1 => if cf (a + n) < chU cf a n then cf (a + n) else chU cf a n
theorem chU_le (cf : Nat → Nat) (a : Nat) : ∀ n, chU cf a n ≤ 1000000
  | 0 => Nat.le_refl _
  | n + 1 => by
    have := chU_le cf a n
    unfold chU
    split <;> omega
theorem cheapest_ok {lay : List Nat} (hwf : wfB lay = true) (d : Nat) {μ : Mem} {w s n a b : Nat} {cf : Nat → Nat} (hs : s < 15) (hn : n ≤ 120) (hc : CoAt μ w s n cf) (hcb : ∀ i, i < n → cf i < 2147483648) (hab : a ≤ b) (hb : b ≤ n) : Rn lay d mWe_cheapest [rf 14 w, vi (nI s), vi (nI a), vi (nI b)] μ (Pv (nI (chU cf a (b - a))) μ) := by
  refine Rn_intro ok_We_cheapest hwf rfl (fun G hC => g_We_cheapest_0 hC ?_)
  have loop : ∀ k i, i + k = b - a → G 7 [rf 14 w, vi (nI s), un, vi (nI b), vi (nI (chU cf a i)), vi (nI (a + i))] [] μ := by
    intro k
    induction k with
    | zero =>
      intro i hi
      refine g_We_cheapest_7 hC ?_
      rw [nx_le (by omega) (by omega)]
      exact ⟨fun _ => pv_e (by rw [show b - a = i by omega]), fun z => absurd (by omega) z⟩
    | succ k ih =>
      intro i hi
      have ih := ih (i + 1) (by omega)
      have h1 := chU_le cf a i
      have h2 := hcb (a + i) (by omega)
      refine g_We_cheapest_7 hC ?_
      simp (disch := omega) only [nx_le, nx_cl, nx_in', hc (a + i) (by omega), nI_add, nx_lt]
      refine ⟨fun z => absurd z (by omega), fun _ => ⟨by omega, by omega, ?_⟩⟩
      unfold chU at ih
      by_cases q : cf (a + i) < chU cf a i
      · rw [if_pos q] at ih ⊢
        exact ih
      · rw [if_neg q] at ih ⊢
        exact ih
  exact loop (b - a) 0 (by omega)
def mnU (cf mf : Nat → Nat) (a c : Nat) : Nat → Nat
  | 0 => 0
  | n + 1 => if cf (a + n) = c then (if mnU cf mf a c n + mf (a + n) < 1000000000 then mnU cf mf a c n + mf (a + n) else 1000000000) else mnU cf mf a c n
theorem mnU_le (cf mf : Nat → Nat) (a c : Nat) : ∀ n, mnU cf mf a c n ≤ 1000000000
  | 0 => by simp [mnU]
  | n + 1 => by
    have := mnU_le cf mf a c n
    unfold mnU
    split
    · split <;> omega
    · exact this
theorem mannersOf_ok {lay : List Nat} (hwf : wfB lay = true) (d : Nat) {μ : Mem} {w s n a b c : Nat} {cf mf : Nat → Nat} (hs : s < 15) (hn : n ≤ 120) (hc : CoAt μ w s n cf) (hcb : ∀ i, i < n → cf i < 2147483648) (hm : MaAt μ w s n mf) (hmb : ∀ i, i < n → mf i ≤ 1000000000) (hab : a ≤ b) (hb : b ≤ n) (hc2 : c < 2147483648) : Rn lay d mWe_mannersOf [rf 14 w, vi (nI s), vi (nI a), vi (nI b), vi (nI c)] μ (Pv (nI (mnU cf mf a c (b - a))) μ) := by
  refine Rn_intro ok_We_mannersOf hwf rfl (fun G hC => g_We_mannersOf_0 hC ?_)
  have loop : ∀ k i, i + k = b - a → G 16 [rf 14 w, vi (nI s), un, vi (nI b), vi (nI c), rf 10120 (w + 33 + 1 + 1 * (s % 2)), vi (nI (mnU cf mf a c i)), vi (nI (a + i))] [] μ := by
    intro k
    induction k with
    | zero =>
      intro i hi
      refine g_We_mannersOf_16 hC ?_
      rw [nx_le (by omega) (by omega)]
      exact ⟨fun _ => pv_e (by rw [show b - a = i by omega]), fun z => absurd (by omega) z⟩
    | succ k ih =>
      intro i hi
      have ih := ih (i + 1) (by omega)
      have h1 := mnU_le cf mf a c i
      have h2 := hcb (a + i) (by omega)
      have h3 := hmb (a + i) (by omega)
      refine g_We_mannersOf_16 hC ?_
      simp (disch := omega) only [nx_le, nx_cl, nx_in', hc (a + i) (by omega), hm (a + i) (by omega), nI_add, nx_lt, nx_eq]
      unfold mnU at ih
      refine ⟨fun z => absurd z (by omega), fun _ => ⟨by omega, by omega, fun z => ?_, fun z => ⟨by omega, ?_⟩⟩⟩
      · rw [if_neg z] at ih
        exact ih
      · rw [if_pos z] at ih
        by_cases q : mnU cf mf a c i + mf (a + i) < 1000000000
        · rw [if_pos q] at ih ⊢
          exact ih
        · rw [if_neg q] at ih ⊢
          exact ih
  simp (disch := omega) only [nx_and1, nx_cl, nx_in']
  exact ⟨by omega, loop (b - a) 0 (by omega)⟩
/-- one more way, at a cost, with as many manners -/
def offP (st : Nat × Nat) (v n : Nat) : Nat × Nat := if v < st.1 then (v, n) else if v = st.1 then (st.1, if st.2 + n < 1000000000 then st.2 + n else 1000000000) else st
def PrAt (μ : Mem) (w s n : Nat) (pf : Nat → Nat × Nat) : Prop := ∀ i, i < n → μ.1 (w + 17 + 1 + 1 * s) i = nI (pf i).1 ∧ μ.1 (w + 33 + 1 + 1 * (s % 2)) i = nI (pf i).2
theorem offer_ok {lay : List Nat} (hwf : wfB lay = true) (d : Nat) {μ : Mem} {w s n i v m : Nat} {pf : Nat → Nat × Nat} (hs : s < 15) (hn : n ≤ 120) (hp : PrAt μ w s n pf) (hi : i < n) (hb1 : (pf i).1 < 2147483648) (hb2 : (pf i).2 ≤ 1000000000) (hv : v < 2147483648) (hm : m ≤ 1000000000) : Rn lay d mWe_offer [rf 14 w, vi (nI s), vi (nI i), vi (nI v), vi (nI m)] μ (Pn fun μ1 => PrAt μ1 w s n (fun j => if j = i then offP (pf i) v m else pf j) ∧ FrC w s μ μ1) := by
  obtain ⟨h1, h2⟩ := hp i hi
  refine Rn_intro ok_We_offer hwf rfl (fun G hC => g_We_offer_0 hC ?_)
  have fin : ∀ (μ1 : Mem) (x : Nat × Nat), offP (pf i) v m = x → (∀ j, j ≠ i → μ1.1 (w + 17 + 1 + 1 * s) j = μ.1 (w + 17 + 1 + 1 * s) j ∧ μ1.1 (w + 33 + 1 + 1 * (s % 2)) j = μ.1 (w + 33 + 1 + 1 * (s % 2)) j) → μ1.1 (w + 17 + 1 + 1 * s) i = nI x.1 → μ1.1 (w + 33 + 1 + 1 * (s % 2)) i = nI x.2 → FrC w s μ μ1 → (Pn fun μ1 => PrAt μ1 w s n (fun j => if j = i then offP (pf i) v m else pf j) ∧ FrC w s μ μ1) none μ1 := by
    intro μ1 x hx ho ha hb hf
    refine ⟨rfl, fun j hj => ?_, hf⟩
    by_cases q : j = i
    · subst q
      simp only [if_true]
      rw [hx]
      exact ⟨ha, hb⟩
    · simp only [if_neg q]
      rw [(ho j q).1, (ho j q).2]
      exact hp j hj
  simp (disch := omega) only [nx_and1, nx_cl, nx_in', h1, h2, nx_le, nx_eq, nI_add, nx_lt]
  refine ⟨by omega, by omega, by omega, fun z => ⟨by omega, by omega, fun z2 => ?_, fun z2 => ⟨by omega, by omega, ?_⟩⟩, fun z => ⟨by omega, by omega, by omega, ?_⟩⟩
  · refine fin μ (pf i) ?_ (fun j _ => ⟨rfl, rfl⟩) h1 h2 (FrC.rf _ _ _)
    unfold offP
    rw [if_neg (by omega), if_neg z2]
  · refine fin _ ((pf i).1, if (pf i).2 + m < 1000000000 then (pf i).2 + m else 1000000000) ?_ (fun j hj => ?_) ?_ ?_ ⟨fun b h3 h4 => up_cell h4, rfl⟩
    · unfold offP
      rw [if_neg (by omega), if_pos z2]
    · rw [up_n1 (by omega), up_n2 hj]
      exact ⟨rfl, rfl⟩
    · rw [up_n1 (by omega)]
      exact h1
    · rw [up_at]
      dsimp only
      split <;> rfl
  · refine fin _ (v, m) ?_ (fun j hj => ?_) ?_ ?_ ⟨fun b h3 h4 => by rw [up_cell h4, up_cell h3], rfl⟩
    · unfold offP
      rw [if_pos (by omega)]
    · refine ⟨?_, ?_⟩
      · rw [up_n1 (by omega), up_n2 hj]
      · rw [up_n2 hj, up_n1 (by omega)]
    · rw [up_n1 (by omega), up_at]
    · rw [up_at]
theorem atI_eq {l m : List Nat} {k : Nat} (hl : ∀ r ∈ l, r < 8) (hm : ∀ r ∈ m, r < 8) : (atI l k = atI m k) = (dig l k = dig m k) := by
  unfold atI dig
  cases h1 : l[k]? with
  | none =>
    cases h2 : m[k]? with
    | none => simp
    | some y =>
      have := hm y (List.mem_of_getElem? h2)
      exact propext ⟨fun h => absurd h (mI_ne (by omega) (by omega)), fun h => by simp at h⟩
  | some x =>
    have hx := hl x (List.mem_of_getElem? h1)
    cases h2 : m[k]? with
    | none => exact propext ⟨fun h => absurd h.symm (mI_ne (by omega) (by omega)), fun h => by simp at h⟩
    | some y =>
      have := hm y (List.mem_of_getElem? h2)
      dsimp only
      rw [nx_eq (by omega) (by omega)]
      exact propext (by omega)
/-- from e on, as far as the k-th is g: where it ends -/
def eol (xs : List (List Nat)) (k g hi : Nat) : Nat → Nat → Nat
  | 0, e => e
  | n + 1, e => if e < hi ∧ dig (xs.getD e []) k = g then eol xs k g hi n (e + 1) else e
theorem endOfLike_ok {lay : List Nat} (hwf : wfB lay = true) (d : Nat) {μ : Mem} {w s i hi k : Nat} {xs : List (List Nat)} (hs : s < 15) (hn : xs.length ≤ 120) (hR : RowAt μ w s xs) (hok : ∀ x ∈ xs, oks x) (hih : i < hi) (hhl : hi ≤ xs.length) (hk : k < 2147483648) : Rn lay (d + 1) mWe_endOfLike [rf 14 w, vi (nI s), vi (nI i), vi (nI hi), vi (nI k)] μ (Pv (nI (eol xs k (dig (xs.getD i []) k) hi (hi - (i + 1)) (i + 1))) μ) := by
  have hxo : ∀ j, j < xs.length → oks (xs.getD j []) := fun j hj => by
    rw [List.getD, List.getElem?_eq_getElem hj]
    exact hok _ (List.getElem_mem hj)
  refine Rn_intro ok_We_endOfLike hwf rfl (fun G hC => g_We_endOfLike_0 hC ?_)
  have loop : ∀ n e, e + n = hi → eol xs k (dig (xs.getD i []) k) hi n e = eol xs k (dig (xs.getD i []) k) hi (hi - (i + 1)) (i + 1) → G 20 [rf 14 w, vi (nI s), un, vi (nI hi), vi (nI k), vi (atI (xs.getD i []) k), vi (nI e)] [] μ := by
    intro n
    induction n with
    | zero =>
      intro e he hq
      refine g_We_endOfLike_20 hC ?_
      rw [nx_le (by omega) (by omega)]
      exact ⟨fun _ => pv_e (by rw [← hq]; rfl), fun z => absurd (by omega) z⟩
    | succ n ih =>
      intro e he hq
      refine g_We_endOfLike_20 hC ?_
      simp (disch := omega) only [nx_le, nx_cl, nx_in', hR.2 e (by omega), nI_add]
      refine ⟨fun z => absurd z (by omega), fun _ => ⟨by omega, by omega, ?_⟩⟩
      refine useV (at_ok hwf d (hxo e (by omega)) hk μ) ?_
      rw [atI_eq (hxo e (by omega)).2 (hxo i (by omega)).2]
      rw [show eol xs k (dig (xs.getD i []) k) hi (n + 1) e = if e < hi ∧ dig (xs.getD e []) k = dig (xs.getD i []) k then eol xs k (dig (xs.getD i []) k) hi n (e + 1) else e from rfl] at hq
      refine ⟨fun z => pv_e ?_, fun z => ih (e + 1) (by omega) ?_⟩
      · rw [if_neg (fun q => z q.2)] at hq
        rw [← hq]
      · rw [if_pos ⟨by omega, z⟩] at hq
        exact hq
  simp (disch := omega) only [nx_cl, nx_in', hR.2 i (by omega), nI_add]
  refine ⟨by omega, by omega, ?_⟩
  refine useV (at_ok hwf d (hxo i (by omega)) hk μ) ?_
  exact loop (hi - (i + 1)) (i + 1) (by omega) rfl
