/-! the cuts: rising, and the ends of all ranges that are not empty -/
theorem posC_cons (x : Nat) (l : List Nat) (p : Nat) : posC (x :: l) p = if x < p then posC l p + 1 else 0 := by
  unfold posC
  rw [List.takeWhile_cons]
  by_cases h : x < p
  · rw [if_pos h, if_pos (decide_eq_true h), List.length_cons]
  · rw [if_neg h, if_neg (fun z => h (of_decide_eq_true z))]
    rfl
theorem insC_lt {x p : Nat} {l : List Nat} (h : x < p) : insC (x :: l) p = x :: insC l p := by
  unfold insC
  rw [posC_cons, if_pos h]
  by_cases e : l[posC l p]? = some p
  · rw [if_pos (by rw [List.getElem?_cons_succ]; exact e), if_pos e]
  · rw [if_neg (by rw [List.getElem?_cons_succ]; exact e), if_neg e]
    rfl
theorem insC_ge {x p : Nat} {l : List Nat} (h : ¬ x < p) : insC (x :: l) p = if x = p then x :: l else p :: x :: l := by
  unfold insC
  rw [posC_cons, if_neg h]
  by_cases e : x = p
  · rw [if_pos (by rw [e]; rfl), if_pos e]
  · rw [if_neg (show ¬ (x :: l)[0]? = some p from fun q => e (Option.some.inj q)), if_neg e]
    rfl
theorem insC_nil (p : Nat) : insC [] p = [p] := by simp [insC, posC]
theorem insC_self (p : Nat) : ∀ l : List Nat, p ∈ insC l p
  | [] => by rw [insC_nil]; simp
  | x :: l => by
    by_cases h : x < p
    · rw [insC_lt h]
      exact List.mem_cons_of_mem _ (insC_self p l)
    · rw [insC_ge h]
      split
      · next e => rw [e]; exact List.mem_cons_self
      · exact List.mem_cons_self
theorem insC_keep {p c : Nat} : ∀ {l : List Nat}, c ∈ l → c ∈ insC l p
  | [], h => by cases h
  | x :: l, h => by
    by_cases hx : x < p
    · rw [insC_lt hx]
      rcases List.mem_cons.mp h with e | e
      · rw [e]; exact List.mem_cons_self
      · exact List.mem_cons_of_mem _ (insC_keep e)
    · rw [insC_ge hx]
      split
      · exact h
      · exact List.mem_cons_of_mem _ h
theorem insC_srt (p : Nat) : ∀ {l : List Nat}, l.Pairwise (· < ·) → (insC l p).Pairwise (· < ·)
  | [], _ => by rw [insC_nil]; exact List.pairwise_singleton _ _
  | x :: l, h => by
    obtain ⟨h1, h2⟩ := List.pairwise_cons.mp h
    by_cases hx : x < p
    · rw [insC_lt hx]
      refine List.pairwise_cons.mpr ⟨fun y hy => ?_, insC_srt p h2⟩
      rcases insC_in hy with e | e
      · omega
      · exact h1 y e
    · rw [insC_ge hx]
      split
      · exact h
      · refine List.pairwise_cons.mpr ⟨fun y hy => ?_, h⟩
        rcases List.mem_cons.mp hy with e | e
        · omega
        · have := h1 y e
          omega
theorem cutU_srt (rs : List RG) (sk : Nat) : ∀ i, (cutU rs sk i).Pairwise (· < ·)
  | 0 => List.Pairwise.nil
  | i + 1 => by
    unfold cutU
    split
    · exact cutU_srt rs sk i
    · exact insC_srt _ (insC_srt _ (cutU_srt rs sk i))
theorem cutU_mem (rs : List RG) (sk : Nat) : ∀ i r, r < i → ¬ r = sk → ¬ ra rs r = rb rs r → ra rs r ∈ cutU rs sk i ∧ rb rs r ∈ cutU rs sk i
  | 0, r, h, _, _ => absurd h (Nat.not_lt_zero _)
  | i + 1, r, h, h1, h2 => by
    unfold cutU
    by_cases e : r = i
    · subst e
      rw [if_neg (fun z => z.elim h1 h2)]
      exact ⟨insC_keep (insC_self _ _), insC_self _ _⟩
    · obtain ⟨a, b⟩ := cutU_mem rs sk i r (by omega) h1 h2
      split
      · exact ⟨a, b⟩
      · exact ⟨insC_keep (insC_keep a), insC_keep (insC_keep b)⟩
theorem gdn {l : List Nat} {i : Nat} (h : i < l.length) : l.getD i 0 = l[i] := by
  rw [List.getD_eq_getElem?_getD, List.getElem?_eq_getElem h]
  rfl
theorem srt_at {l : List Nat} (h : l.Pairwise (· < ·)) {i j : Nat} (hij : i < j) (hj : j < l.length) : l.getD i 0 < l.getD j 0 := by
  rw [gdn (by omega), gdn hj]
  exact List.pairwise_iff_getElem.mp h i j (by omega) hj hij
theorem srt_le {l : List Nat} (h : l.Pairwise (· < ·)) {i j : Nat} (hij : i ≤ j) (hj : j < l.length) : l.getD i 0 ≤ l.getD j 0 := by
  rcases Nat.lt_or_eq_of_le hij with e | e
  · exact Nat.le_of_lt (srt_at h e hj)
  · rw [e]
    exact Nat.le_refl _
/-- of two of the rising ones, the one that is larger comes behind -/
theorem srt_inv {l : List Nat} (h : l.Pairwise (· < ·)) {i j : Nat} (hi : i < l.length) (_hj : j < l.length) (hlt : l.getD i 0 < l.getD j 0) : i < j := by
  rcases Nat.lt_or_ge i j with q | q
  · exact q
  · have := srt_le h q hi
    omega
theorem mem_gd {l : List Nat} {c : Nat} (h : c ∈ l) : ∃ i, i < l.length ∧ l.getD i 0 = c := by
  obtain ⟨i, hi, he⟩ := List.getElem_of_mem h
  exact ⟨i, hi, by rw [gdn hi, he]⟩
/-- a range that lies over a cut lies over all of the section behind it -/
theorem cut_next {rs : List RG} {sk s r : Nat} (hr : r < rs.length) (hk : ¬ r = sk) (hs : s + 1 < (cutsOf rs sk).length) (h1 : ra rs r ≤ (cutsOf rs sk).getD s 0) (h2 : (cutsOf rs sk).getD s 0 < rb rs r) : (cutsOf rs sk).getD (s + 1) 0 ≤ rb rs r := by
  have hm := (cutU_mem rs sk rs.length r hr hk (by omega)).2
  obtain ⟨i, i1, i2⟩ := mem_gd hm
  have hsr := cutU_srt rs sk rs.length
  have i1 : i < (cutsOf rs sk).length := i1
  have i2 : (cutsOf rs sk).getD i 0 = rb rs r := i2
  have := srt_inv hsr (show s < (cutsOf rs sk).length by omega) i1 (by show (cutsOf rs sk).getD s 0 < (cutsOf rs sk).getD i 0; omega)
  have h3 := srt_le hsr (show s + 1 ≤ i by omega) i1
  have h3 : (cutsOf rs sk).getD (s + 1) 0 ≤ (cutsOf rs sk).getD i 0 := h3
  omega
/-- what the stacks of the nest hold -/
def zOK (rs : List RG) (cs : List Nat) (zs : List (List Nat)) : Prop := cs.Pairwise (· < ·) ∧ zs.length = cs.length - 1 ∧ (∀ r, r < rs.length → ra rs r < rb rs r → ∃ i, i < zs.length ∧ cs.getD i 0 = ra rs r) ∧ (∀ s r, s < zs.length → r < rs.length → ra rs r ≤ cs.getD s 0 → cs.getD s 0 < rb rs r → cs.getD (s + 1) 0 ≤ rb rs r) ∧ ∀ s, s < zs.length → (zs.getD s []).Nodup ∧ (zs.getD s []).length ≤ 5 ∧ ∀ r, r ∈ zs.getD s [] ↔ r < rs.length ∧ ra rs r ≤ cs.getD s 0 ∧ cs.getD s 0 < rb rs r
theorem clr_8 (c : Nat) : clr c 8 = c := by
  unfold clr
  rw [if_neg (by omega)]
theorem cov_bit (rs : List RG) (p r : Nat) : (cov rs p).testBit r = true ↔ r < rs.length ∧ ra rs r ≤ p ∧ p < rb rs r := by
  unfold cov
  rw [covU_bit, decide_eq_true_iff]
theorem zOK_T {T : TS} (hw : WT T) (hnc : NC T.1) : zOK T.1 (csT T) (zsT T) := by
  have hn := hw.1.1
  have hcvl : (cvT T).length = (csT T).length - 1 := cvL_len T.1 8 (csT T)
  have hzl : (zsT T).length = (csT T).length - 1 := by
    unfold zsT
    rw [chs_len, hcvl]
  have hsr : (csT T).Pairwise (· < ·) := cutU_srt T.1 8 T.1.length
  refine ⟨hsr, hzl, fun r hr hlt => ?_, fun s r hs hr h1 h2 => ?_, fun s hs => ?_⟩
  · obtain ⟨m1, m2⟩ := cutU_mem T.1 8 T.1.length r hr (by omega) (by omega)
    obtain ⟨i, i1, i2⟩ := mem_gd m1
    obtain ⟨j, j1, j2⟩ := mem_gd m2
    have i1 : i < (csT T).length := i1
    have j1 : j < (csT T).length := j1
    have := srt_inv hsr i1 j1 (by show (cutU T.1 8 T.1.length).getD i 0 < (cutU T.1 8 T.1.length).getD j 0; omega)
    exact ⟨i, by omega, i2⟩
  · exact cut_next hr (by omega) (by show s + 1 < (csT T).length; omega) h1 h2
  · have hs2 : s < (cvT T).length := by omega
    obtain ⟨z1, z2⟩ := zs_ok hw hnc hs2
    refine ⟨z1.1, z2.1, fun r => ?_⟩
    rw [z1.2 r]
    have : (cvT T).getD s 0 = clr (cov T.1 ((csT T).getD s 0)) 8 := cvL_at (by omega)
    rw [this, clr_8, cov_bit]
    exact ⟨fun q => q.2, fun q => ⟨by omega, q⟩⟩
