/-! Sections: cuts, which ranges cover what lies between them -/
def posC (l : List Nat) (p : Nat) : Nat := (l.takeWhile (fun c => decide (c < p))).length
def insC (l : List Nat) (p : Nat) : List Nat := if l[posC l p]? = some p then l else l.take (posC l p) ++ p :: l.drop (posC l p)
theorem posC_le (l : List Nat) (p : Nat) : posC l p ≤ l.length := by
  unfold posC
  exact (List.takeWhile_sublist _).length_le
theorem posC_lt {l : List Nat} {p i : Nat} (h : i < posC l p) : l.getD i 0 < p := by
  have hl : i < l.length := Nat.lt_of_lt_of_le h (posC_le l p)
  unfold posC at h
  have h2 : (l.takeWhile (fun c => decide (c < p)))[i]? = l[i]? := by
    have hp := List.takeWhile_prefix (l := l) (fun c => decide (c < p))
    obtain ⟨t, ht⟩ := hp
    conv => rhs; rw [← ht]
    rw [List.getElem?_append_left h]
  have h3 : (l.takeWhile (fun c => decide (c < p)))[i] ∈ l.takeWhile (fun c => decide (c < p)) := List.getElem_mem h
  have h4 := List.all_takeWhile (l := l) (p := fun c => decide (c < p))
  have h5 := List.all_eq_true.mp h4 _ h3
  rw [List.getElem?_eq_getElem h] at h2
  rw [List.getD, ← h2]
  exact of_decide_eq_true h5
theorem posC_stop : ∀ {l : List Nat} {p k : Nat}, (∀ i, i < k → l.getD i 0 < p) → k ≤ l.length → (k < l.length → ¬ l.getD k 0 < p) → posC l p = k
  | [], p, k, _, h2, _ => by
    simp at h2
    subst h2
    rfl
  | c :: l, p, 0, h1, h2, h3 => by
    have := h3 (by simp)
    simp at this
    unfold posC
    rw [List.takeWhile_cons_of_neg (by simp; omega)]
    rfl
  | c :: l, p, k + 1, h1, h2, h3 => by
    have h0 := h1 0 (by omega)
    simp at h0
    have := posC_stop (l := l) (p := p) (k := k) (fun i hi => by simpa using h1 (i + 1) (by omega)) (by simpa using h2) (fun hk => by simpa using h3 (by simpa using hk))
    unfold posC at this ⊢
    rw [List.takeWhile_cons_of_pos (by simpa using h0), List.length_cons, this]
theorem insC_len {l : List Nat} {p : Nat} : (insC l p).length ≤ l.length + 1 := by
  unfold insC
  split
  · omega
  · simp
    have := posC_le l p
    omega
def CuAt (μ : Mem) (s : Nat) (l : List Nat) : Prop := μ.1 s 3 = nI l.length ∧ ∀ i, i < l.length → μ.1 (s + 1) i = nI (l.getD i 0)
theorem addCut_ok {lay : List Nat} (hwf : wfB lay = true) (d : Nat) {μ : Mem} {s : Nat} {l : List Nat} (hC : CuAt μ s l) (hl : l.length < 16) (hb : ∀ c ∈ l, c ≤ 90) {p : Nat} (hp : p ≤ 90) : Rn lay d mSe_addCut [rf 12 s, vi (nI p)] μ (Pn fun μ1 => CuAt μ1 s (insC l p) ∧ Fr [s, s + 1] μ μ1) := by
  obtain ⟨hc, hi⟩ := hC
  have hbd : ∀ i, l.getD i 0 ≤ 90 := fun i => by
    rw [List.getD]
    cases hq : l[i]? with
    | none => simp
    | some c => exact hb c (List.mem_of_getElem? hq)
  refine Rn_intro ok_Se_addCut hwf rfl (fun G hG => g_Se_addCut_0 hG ?_)
  -- the place is found
  have f105 : ∀ (μ' : Mem) (k : Nat), k = posC l p → ¬ l[k]? = some p → μ'.1 s 3 = nI l.length → (∀ i, i < k → μ'.1 (s + 1) i = nI (l.getD i 0)) → (∀ i, k < i → i ≤ l.length → μ'.1 (s + 1) i = nI (l.getD (i - 1) 0)) → Fr [s, s + 1] μ μ' → G 105 [rf 12 s, vi (nI p), vi (nI k), un] [] μ' := by
    intro μ' k hk hne h3 hlo hhi hf
    have hkl : k ≤ l.length := by rw [hk]; exact posC_le l p
    have e : insC l p = l.take k ++ p :: l.drop k := by
      unfold insC
      rw [← hk, if_neg hne]
    refine g_Se_addCut_105 hG ?_
    simp (disch := omega) only [nx_cl, nx_in', up_n1, h3, nI_add]
    refine ⟨by omega, rfl, ⟨?_, fun i hi2 => ?_⟩, (hf.up (by simp)).up (by simp)⟩
    · rw [up_at, e]
      congr 1
      simp
      omega
    · rw [e] at hi2 ⊢
      have hi3 : i ≤ l.length := by
        simp at hi2
        omega
      rw [up_n1 (by omega)]
      by_cases h1 : i = k
      · subst h1
        rw [up_at, List.getD, List.getElem?_append_right (by simp; omega)]
        simp [Nat.min_eq_left hkl]
      · rw [up_n2 h1]
        rcases Nat.lt_or_ge i k with q | q
        · rw [hlo i q, List.getD, List.getD, List.getElem?_append_left (by simp; omega), List.getElem?_take, if_pos q]
        · rw [hhi i (by omega) hi3, List.getD, List.getD, List.getElem?_append_right (by simp; omega)]
          congr 2
          rw [List.length_take, Nat.min_eq_left hkl, show i - k = (i - k - 1) + 1 by omega, List.getElem?_cons_succ, List.getElem?_drop]
          congr 1
          omega
  have f80 : ∀ n (μ' : Mem) (k : Nat), k = posC l p → ¬ l[k]? = some p → k + n ≤ l.length → μ'.1 s 3 = nI l.length → (∀ i, i < k + n → μ'.1 (s + 1) i = nI (l.getD i 0)) → (∀ i, k + n < i → i ≤ l.length → μ'.1 (s + 1) i = nI (l.getD (i - 1) 0)) → Fr [s, s + 1] μ μ' → G 80 [rf 12 s, vi (nI p), vi (nI k), vi (nI (k + n))] [] μ' := by
    intro n
    induction n with
    | zero =>
      intro μ' k hk hne hkn h3 hlo hhi hf
      refine g_Se_addCut_80 hG ?_
      rw [nx_le (by omega) (by omega)]
      exact ⟨fun _ => f105 μ' k hk hne h3 hlo hhi hf, fun z => absurd (by omega) z⟩
    | succ n ih =>
      intro μ' k hk hne hkn h3 hlo hhi hf
      refine g_Se_addCut_80 hG ?_
      rw [show k + (n + 1) = (k + n) + 1 by omega] at hlo hhi ⊢
      rw [nx_le (by omega) (by omega), nx_dec, nx_sub (by omega), Nat.add_sub_cancel]
      simp (disch := omega) only [nx_cl, nx_in']
      refine ⟨fun z => absurd z (by omega), fun _ => ⟨by omega, by omega, ih _ k hk hne (by omega) ?_ (fun i hi2 => ?_) (fun i hi2 hi3 => ?_) (hf.up (by simp))⟩⟩
      · rw [up_n1 (by omega)]; exact h3
      · rw [up_n2 (by omega)]; exact hlo i (by omega)
      · by_cases e : i = k + n + 1
        · subst e
          rw [up_at, Nat.add_sub_cancel]
          exact hlo (k + n) (by omega)
        · rw [up_n2 e]
          exact hhi i (by omega) hi3
  have f32 : ∀ k, k ≤ l.length → k = posC l p → G 32 [rf 12 s, vi (nI p), vi (nI k), un] [] μ := by
    intro k hkl hk
    refine g_Se_addCut_32 hG ?_
    rw [hc]
    have tail : ¬ l[k]? = some p → ((nI l.length < nI k → (Pn fun μ1 => CuAt μ1 s (insC l p) ∧ Fr [s, s + 1] μ μ1) none μ) ∧ (¬ nI l.length < nI k → ((nI l.length < nI 16 → G 80 [rf 12 s, vi (nI p), vi (nI k), vi (nI l.length)] [] μ) ∧ (¬ nI l.length < nI 16 → (Pn fun μ1 => CuAt μ1 s (insC l p) ∧ Fr [s, s + 1] μ μ1) none μ)))) := by
      intro hne
      rw [nx_lt (by omega) (by omega), nx_lt (by omega) (by omega)]
      refine ⟨fun z => absurd z (by omega), fun _ => ⟨fun _ => ?_, fun z => absurd hl z⟩⟩
      have := f80 (l.length - k) μ k hk hne (by omega) hc (fun i hi2 => hi i (by omega)) (fun i hi2 hi3 => by omega) (Fr.rf _ _)
      rw [show k + (l.length - k) = l.length by omega] at this
      exact this
    refine ⟨fun z => tail ?_, fun z => ⟨fun z2 => ?_, fun z2 => ?_⟩⟩
    · rw [nx_le (by omega) (by omega)] at z
      rw [List.getElem?_eq_none z]
      simp
    · rw [nx_le (by omega) (by omega)] at z2
      omega
    · rw [nx_le (by omega) (by omega)] at z
      have hkl2 : k < l.length := by omega
      have hg : l[k]? = some (l.getD k 0) := by rw [List.getD, List.getElem?_eq_getElem hkl2]; rfl
      rw [nx_in' (by omega) (by omega), nx_cl (by omega), hi k hkl2, nx_eq (by have := hbd k; omega) (by omega)]
      refine ⟨by omega, fun z3 => tail (by rw [hg]; simp; exact z3), fun z3 => ⟨rfl, ?_, Fr.rf _ _⟩⟩
      unfold insC
      rw [← hk, if_pos (by rw [hg, z3])]
      exact ⟨hc, hi⟩
  have f2 : ∀ n k, k + n = l.length → (∀ i, i < k → l.getD i 0 < p) → G 2 [rf 12 s, vi (nI p), vi (nI k), un] [] μ := by
    intro n
    induction n with
    | zero =>
      intro k hk hlt
      refine g_Se_addCut_2 hG ?_
      rw [hc, nx_le (by omega) (by omega)]
      exact ⟨fun _ => f32 k (by omega) (posC_stop hlt (by omega) (fun q => by omega)).symm, fun z => absurd (by omega) z⟩
    | succ n ih =>
      intro k hk hlt
      have := hbd k
      refine g_Se_addCut_2 hG ?_
      simp (disch := omega) only [hc, nx_le, nx_cl, nx_in', hi k (by omega), nI_add]
      refine ⟨fun z => absurd z (by omega), fun _ => ⟨fun z => absurd z (by omega), fun _ => ⟨by omega, fun z => ?_, fun z => ?_⟩⟩⟩
      · exact f32 k (by omega) (posC_stop hlt (by omega) (fun q => by omega)).symm
      · refine ih (k + 1) (by omega) (fun i hi2 => ?_)
        rcases Nat.lt_or_ge i k with q | q
        · exact hlt i q
        · rw [show i = k by omega]; omega
  exact f2 l.length 0 (by omega) (fun i hi2 => by omega)
