/-! stacks by ranks are the rows of all, in their order, whose ranks don't fall -/
theorem chn_all {c : Nat} (hc : c < 256) (hp : popN c ≤ 5) : (stk rk00 c).head? = some (bts c) ∧ chn (stk rk00 c) = true := by
  have key : ∀ k i, c = 8 * k + i → i < 8 → chP c := by
    intro k i e hi
    have hk : k < 32 := by omega
    subst e
    match k, hk with
    | 0, _ => exact ch_0 i hi
    | 1, _ => exact ch_1 i hi
    | 2, _ => exact ch_2 i hi
    | 3, _ => exact ch_3 i hi
    | 4, _ => exact ch_4 i hi
    | 5, _ => exact ch_5 i hi
    | 6, _ => exact ch_6 i hi
    | 7, _ => exact ch_7 i hi
    | 8, _ => exact ch_8 i hi
    | 9, _ => exact ch_9 i hi
    | 10, _ => exact ch_10 i hi
    | 11, _ => exact ch_11 i hi
    | 12, _ => exact ch_12 i hi
    | 13, _ => exact ch_13 i hi
    | 14, _ => exact ch_14 i hi
    | 15, _ => exact ch_15 i hi
    | 16, _ => exact ch_16 i hi
    | 17, _ => exact ch_17 i hi
    | 18, _ => exact ch_18 i hi
    | 19, _ => exact ch_19 i hi
    | 20, _ => exact ch_20 i hi
    | 21, _ => exact ch_21 i hi
    | 22, _ => exact ch_22 i hi
    | 23, _ => exact ch_23 i hi
    | 24, _ => exact ch_24 i hi
    | 25, _ => exact ch_25 i hi
    | 26, _ => exact ch_26 i hi
    | 27, _ => exact ch_27 i hi
    | 28, _ => exact ch_28 i hi
    | 29, _ => exact ch_29 i hi
    | 30, _ => exact ch_30 i hi
    | 31, _ => exact ch_31 i hi
    | n + 32, h => exact absurd h (by omega)
  exact key (c / 8) (c % 8) (by omega) (by omega) hp
theorem bts_0 {c : Nat} (hc : c < 256) : isSt c [] ↔ c = 0 := by
  constructor
  · intro h
    by_cases e : c = 0
    · exact e
    · obtain ⟨r, r1, r2⟩ := ne0_bit c hc e
      exact absurd ((h.2 r).mpr ⟨r1, r2⟩) (by simp)
  · intro e
    subst e
    exact ⟨List.nodup_nil, fun r => by simp⟩
theorem isSt_cons {c r : Nat} {t : List Nat} (hc : c < 256) (hr : r < 8) : isSt c (r :: t) ↔ c.testBit r = true ∧ isSt (clr c r) t := by
  constructor
  · rintro ⟨h1, h2⟩
    rw [List.nodup_cons] at h1
    refine ⟨((h2 r).mp List.mem_cons_self).2, h1.2, fun j => ?_⟩
    constructor
    · intro hj
      obtain ⟨a, b⟩ := (h2 j).mp (List.mem_cons_of_mem _ hj)
      exact ⟨a, (clr_bit r hr c hc j a).mpr ⟨b, fun e => h1.1 (by rw [← e]; exact hj)⟩⟩
    · rintro ⟨a, b⟩
      obtain ⟨b1, b2⟩ := (clr_bit r hr c hc j a).mp b
      rcases List.mem_cons.mp ((h2 j).mpr ⟨a, b1⟩) with e | e
      · exact absurd e b2
      · exact e
  · rintro ⟨h0, h1, h2⟩
    refine ⟨List.nodup_cons.mpr ⟨fun hj => ?_, h1⟩, fun j => ?_⟩
    · obtain ⟨a, b⟩ := (h2 r).mp hj
      exact ((clr_bit r hr c hc r a).mp b).2 rfl
    · constructor
      · intro hj
        rcases List.mem_cons.mp hj with e | e
        · rw [e]
          exact ⟨hr, h0⟩
        · obtain ⟨a, b⟩ := (h2 j).mp e
          exact ⟨a, ((clr_bit r hr c hc j a).mp b).1⟩
      · rintro ⟨a, b⟩
        by_cases e : j = r
        · rw [e]; exact List.mem_cons_self
        · exact List.mem_cons_of_mem _ ((h2 j).mpr ⟨a, (clr_bit r hr c hc j a).mpr ⟨b, e⟩⟩)
def rso (rk : Nat → Nat) (t : List Nat) : Prop := t.Pairwise (fun a b => rk a ≤ rk b)
theorem dfs_iff {rk : Nat → Nat} (hrk : ∀ r, r < 8 → rk r < 4) : ∀ (f c : Nat) (p z : List Nat), c < 256 → popN c ≤ f → (z ∈ dfsF rk f c p ↔ ∃ t, z = p ++ t ∧ isSt c t ∧ rso rk t)
  | 0, c, p, z, hc, hp => by
    have e : c = 0 := (popN_0 c hc).mp (by omega)
    have e2 : dfsF rk 0 c p = [p] := by unfold dfsF; rw [if_pos e]
    rw [e2, List.mem_singleton]
    constructor
    · intro h
      exact ⟨[], by rw [h, List.append_nil], (bts_0 hc).mpr e, List.Pairwise.nil⟩
    · rintro ⟨t, t1, t2, t3⟩
      have : t = [] := by
        cases t with
        | nil => rfl
        | cons r t =>
          have := ((t2.2 r).mp List.mem_cons_self).2
          rw [e] at this
          simp at this
      rw [t1, this, List.append_nil]
  | f + 1, c, p, z, hc, hp => by
    by_cases e : c = 0
    · have e2 : dfsF rk (f + 1) c p = [p] := by unfold dfsF; rw [if_pos e]
      rw [e2, List.mem_singleton]
      constructor
      · intro h
        exact ⟨[], by rw [h, List.append_nil], (bts_0 hc).mpr e, List.Pairwise.nil⟩
      · rintro ⟨t, t1, t2, t3⟩
        have : t = [] := by
          cases t with
          | nil => rfl
          | cons r t =>
            have := ((t2.2 r).mp List.mem_cons_self).2
            rw [e] at this
            simp at this
        rw [t1, this, List.append_nil]
    · have e2 : dfsF rk (f + 1) c p = (List.range 8).flatMap fun r => if c.testBit r = true ∧ rk r = mr rk c then dfsF rk f (clr c r) (p ++ [r]) else [] := by
        conv => lhs; unfold dfsF
        rw [if_neg e]
      rw [e2, List.mem_flatMap]
      obtain ⟨m1, m2⟩ := mrU_at hrk c 8 (Nat.le_refl _)
      constructor
      · rintro ⟨r, r1, r2⟩
        have r1 := List.mem_range.mp r1
        by_cases hb : c.testBit r = true ∧ rk r = mr rk c
        · rw [if_pos hb] at r2
          have hpc := popN_clr r r1 c hc hb.1
          obtain ⟨t, t1, t2, t3⟩ := (dfs_iff hrk f (clr c r) (p ++ [r]) z (clr_lt hc) (by omega)).mp r2
          refine ⟨r :: t, by rw [t1]; simp, (isSt_cons hc r1).mpr ⟨hb.1, t2⟩, List.pairwise_cons.mpr ⟨fun a ha => ?_, t3⟩⟩
          obtain ⟨a1, a2⟩ := (t2.2 a).mp ha
          have := ((clr_bit r r1 c hc a a1).mp a2).1
          have h3 := m1 a a1 this
          rw [hb.2]
          exact h3
        · rw [if_neg hb] at r2
          cases r2
      · rintro ⟨t, t1, t2, t3⟩
        cases t with
        | nil => exact absurd ((bts_0 hc).mp t2) e
        | cons r t =>
          obtain ⟨r1, r2⟩ := (t2.2 r).mp List.mem_cons_self
          obtain ⟨b1, b2⟩ := (isSt_cons hc r1).mp t2
          obtain ⟨t4, t5⟩ := List.pairwise_cons.mp t3
          have hpc := popN_clr r r1 c hc r2
          have hm : rk r = mr rk c := by
            obtain ⟨r0, u1, u2, u3⟩ := m2 ⟨r, r1, r2⟩
            have h1 := m1 r r1 r2
            have u3 : rk r0 = mr rk c := u3
            have h1 : mr rk c ≤ rk r := h1
            rcases List.mem_cons.mp ((t2.2 r0).mpr ⟨u1, u2⟩) with w | w
            · rw [← w]; exact u3
            · have := t4 r0 w
              omega
          refine ⟨r, List.mem_range.mpr r1, ?_⟩
          rw [if_pos ⟨r2, hm⟩]
          exact (dfs_iff hrk f (clr c r) (p ++ [r]) z (clr_lt hc) (by omega)).mpr ⟨t, by rw [t1]; simp, b2, t5⟩
theorem stk_iff {rk : Nat → Nat} (hrk : ∀ r, r < 8 → rk r < 4) {c : Nat} (hc : c < 256) (hp : popN c ≤ 5) (x : List Nat) : x ∈ stk rk c ↔ isSt c x ∧ rso rk x := by
  unfold stk
  rw [dfs_iff hrk 5 c [] x hc hp]
  constructor
  · rintro ⟨t, t1, t2⟩
    rw [List.nil_append] at t1
    rw [t1]
    exact t2
  · intro h
    exact ⟨x, rfl, h⟩
theorem lexlt_as {l m : List Nat} (h : lexlt l m) (h2 : lexlt m l) : False := by
  obtain ⟨a, a1, a2⟩ := h
  obtain ⟨b, b1, b2⟩ := h2
  rcases Nat.lt_trichotomy a b with q | q | q
  · have := b1 a q
    omega
  · subst q
    omega
  · have := a1 b q
    omega
theorem lex_same : ∀ {L M : List (List Nat)}, L.Pairwise lexlt → M.Pairwise lexlt → (∀ x, x ∈ L ↔ x ∈ M) → L = M
  | [], [], _, _, _ => rfl
  | [], y :: M, _, _, h => absurd ((h y).mpr List.mem_cons_self) (by simp)
  | x :: L, [], _, _, h => absurd ((h x).mp List.mem_cons_self) (by simp)
  | x :: L, y :: M, h1, h2, h => by
    rw [List.pairwise_cons] at h1 h2
    have exy : x = y := by
      rcases List.mem_cons.mp ((h x).mp List.mem_cons_self) with e | e
      · exact e
      · rcases List.mem_cons.mp ((h y).mpr List.mem_cons_self) with e' | e'
        · exact e'.symm
        · exact absurd (h1.1 y e') (fun w => lexlt_as w (h2.1 x e))
    subst exy
    have : L = M := lex_same h1.2 h2.2 (fun z => by
      constructor
      · intro hz
        rcases List.mem_cons.mp ((h z).mp (List.mem_cons_of_mem _ hz)) with e | e
        · have := h1.1 z hz
          rw [e] at this
          exact absurd this (fun w => lexlt_as w w)
        · exact e
      · intro hz
        rcases List.mem_cons.mp ((h z).mpr (List.mem_cons_of_mem _ hz)) with e | e
        · have := h2.1 z hz
          rw [e] at this
          exact absurd this (fun w => lexlt_as w w)
        · exact e)
    rw [this]
/-- whether the ranks along the first i of a row don't fall -/
def msU (rk : Nat → Nat) (x : List Nat) : Nat → Bool
  | 0 => true
  | i + 1 => msU rk x i && decide (i = 0 ∨ rk (x.getD (i - 1) 0) ≤ rk (x.getD i 0))
theorem msU_le {rk : Nat → Nat} {x : List Nat} : ∀ {n : Nat}, msU rk x n = true → ∀ i j, i < j → j < n → rk (x.getD i 0) ≤ rk (x.getD j 0)
  | 0, _, i, j, _, hj => absurd hj (Nat.not_lt_zero _)
  | n + 1, h, i, j, hij, hj => by
    unfold msU at h
    rw [Bool.and_eq_true, decide_eq_true_iff] at h
    rcases Nat.lt_or_ge j n with q | q
    · exact msU_le h.1 i j hij q
    · have e : j = n := by omega
      subst e
      have h2 := h.2.resolve_left (by omega)
      by_cases e2 : i = j - 1
      · rw [e2]; exact h2
      · exact Nat.le_trans (msU_le h.1 i (j - 1) (by omega) (by omega)) h2
theorem msU_of {rk : Nat → Nat} {x : List Nat} (h : rso rk x) : ∀ n, n ≤ x.length → msU rk x n = true
  | 0, _ => rfl
  | n + 1, hn => by
    unfold msU
    rw [msU_of h n (by omega), Bool.true_and, decide_eq_true_iff]
    rcases Nat.eq_zero_or_pos n with q | q
    · exact Or.inl q
    · refine Or.inr ?_
      rw [gdn (by omega), gdn (by omega)]
      exact List.pairwise_iff_getElem.mp h (n - 1) n (by omega) (by omega) (by omega)
theorem msU_iff {rk : Nat → Nat} {x : List Nat} : msU rk x x.length = true ↔ rso rk x := by
  constructor
  · intro h
    refine List.pairwise_iff_getElem.mpr (fun i j hi hj hij => ?_)
    have := msU_le h i j hij hj
    rw [gdn hi, gdn hj] at this
    exact this
  · exact fun h => msU_of h _ (Nat.le_refl _)
theorem stk_fil {rk : Nat → Nat} (hrk : ∀ r, r < 8 → rk r < 4) {c : Nat} (hc : c < 256) (hp : popN c ≤ 5) : (stk rk00 c).filter (fun x => msU rk x x.length) = stk rk c := by
  refine lex_same (List.Pairwise.filter _ (dfs_lex rk00 5 c [] hc)) (dfs_lex rk 5 c [] hc) (fun x => ?_)
  rw [List.mem_filter, msU_iff]
  have h1 := stk_iff (rk := rk00) (fun r _ => by show 0 < 4; omega) hc hp x
  have h2 := stk_iff hrk hc hp x
  rw [h1]
  show _ ↔ x ∈ stk rk c
  rw [h2]
  refine ⟨fun q => ⟨q.1.1, q.2⟩, fun q => ⟨⟨q.1, List.pairwise_iff_getElem.mpr (fun _ _ _ _ _ => Nat.le_refl _)⟩, q.2⟩⟩
theorem chn_at : ∀ {L : List (List Nat)} {i : Nat}, chn L = true → i < L.length → nextP (L.getD i []) = L[i + 1]?
  | [], i, _, h => absurd h (Nat.not_lt_zero _)
  | [x], 0, h, _ => by
    have := of_decide_eq_true h
    show nextP x = none
    exact this
  | [x], i + 1, h, hi => by simp at hi
  | x :: y :: l, 0, h, _ => by
    unfold chn at h
    rw [Bool.and_eq_true] at h
    exact of_decide_eq_true h.1
  | x :: y :: l, i + 1, h, hi => by
    unfold chn at h
    rw [Bool.and_eq_true] at h
    exact chn_at (L := y :: l) (i := i) h.2 (by simpa using hi)
