/-! all stacks of a set of ranges, by ranks: what the list of them is -/
theorem nd_le {l m : List Nat} (hl : l.Nodup) (h : ∀ x ∈ l, x ∈ m) : l.length ≤ m.length := by
  induction l generalizing m with
  | nil => simp
  | cons a l ih =>
    have ha := h a List.mem_cons_self
    obtain ⟨h1, h2⟩ := List.nodup_cons.mp hl
    have := ih (m := m.erase a) h2 (fun x hx => (List.mem_erase_of_ne (show x ≠ a from fun e => h1 (by rw [← e]; exact hx))).mpr (h x (List.mem_cons_of_mem _ hx)))
    rw [List.length_erase_of_mem ha] at this
    have hp := List.length_pos_of_mem ha
    simp only [List.length_cons]
    omega
def bts (c : Nat) : List Nat := (List.range 8).filter (fun j => c.testBit j)
theorem bts_mem {c r : Nat} : r ∈ bts c ↔ r < 8 ∧ c.testBit r = true := by
  unfold bts
  rw [List.mem_filter, List.mem_range]
theorem bts_nd (c : Nat) : (bts c).Nodup := (List.nodup_range (n := 8)).sublist List.filter_sublist
theorem popN_bts (c : Nat) : popN c = (bts c).length := rfl
theorem clr_bit : ∀ r, r < 8 → ∀ c, c < 256 → ∀ j, j < 8 → ((clr c r).testBit j = true ↔ c.testBit j = true ∧ j ≠ r) := by decide +kernel
theorem popN_clr : ∀ r, r < 8 → ∀ c, c < 256 → c.testBit r = true → popN (clr c r) + 1 = popN c := by decide +kernel
theorem popN_0 : ∀ c, c < 256 → (popN c = 0 ↔ c = 0) := by decide +kernel
/-- a stack of all ranges of c, in any order -/
def isSt (c : Nat) (t : List Nat) : Prop := t.Nodup ∧ ∀ r, r ∈ t ↔ r < 8 ∧ c.testBit r = true
theorem isSt.len {c : Nat} {t : List Nat} (h : isSt c t) : t.length = popN c := Nat.le_antisymm (nd_le h.1 (fun x hx => bts_mem.mpr ((h.2 x).mp hx))) (nd_le (bts_nd c) (fun x hx => (h.2 x).mpr (bts_mem.mp hx)))
theorem isSt.ok {c : Nat} {t : List Nat} (h : isSt c t) (hp : popN c ≤ 5) : oks t := ⟨by rw [h.len]; exact hp, fun r hr => ((h.2 r).mp hr).1⟩
theorem dfs_mem (rk : Nat → Nat) : ∀ (f c : Nat) (p z : List Nat), c < 256 → z ∈ dfsF rk f c p → ∃ t, z = p ++ t ∧ isSt c t
  | 0, c, p, z, hc, h => by
    unfold dfsF at h
    split at h
    · next e =>
      subst e
      simp at h
      exact ⟨[], by simp [h], List.nodup_nil, fun r => by simp⟩
    · cases h
  | f + 1, c, p, z, hc, h => by
    unfold dfsF at h
    split at h
    · next e =>
      subst e
      simp at h
      exact ⟨[], by simp [h], List.nodup_nil, fun r => by simp⟩
    · obtain ⟨r, hr, h⟩ := List.mem_flatMap.mp h
      have hr := List.mem_range.mp hr
      split at h
      · next hb =>
        obtain ⟨t, h1, h2, h3⟩ := dfs_mem rk f (clr c r) (p ++ [r]) z (clr_lt hc) h
        refine ⟨r :: t, by rw [h1]; simp, List.nodup_cons.mpr ⟨fun q => ?_, h2⟩, fun q => ?_⟩
        · have := (h3 r).mp q
          exact ((clr_bit r hr c hc r hr).mp this.2).2 rfl
        · constructor
          · intro hq
            rcases List.mem_cons.mp hq with e | e
            · rw [e]; exact ⟨hr, hb.1⟩
            · have := (h3 q).mp e
              exact ⟨this.1, ((clr_bit r hr c hc q this.1).mp this.2).1⟩
          · rintro ⟨q1, q2⟩
            by_cases e : q = r
            · rw [e]; exact List.mem_cons_self
            · exact List.mem_cons_of_mem _ ((h3 q).mpr ⟨q1, (clr_bit r hr c hc q q1).mpr ⟨q2, e⟩⟩)
      · cases h
theorem mrU_at {rk : Nat → Nat} (hrk : ∀ r, r < 8 → rk r < 4) (c : Nat) : ∀ i, i ≤ 8 → (∀ r, r < i → c.testBit r = true → mrU rk c i ≤ rk r) ∧ ((∃ r, r < i ∧ c.testBit r = true) → ∃ r, r < i ∧ c.testBit r = true ∧ rk r = mrU rk c i)
  | 0, _ => ⟨fun r hr => by omega, fun ⟨r, hr, _⟩ => by omega⟩
  | i + 1, hi => by
    obtain ⟨h1, h2⟩ := mrU_at hrk c i (by omega)
    unfold mrU
    split
    · next hb =>
      refine ⟨fun r hr hr2 => ?_, fun ⟨r, hr, hr2⟩ => ?_⟩
      · by_cases e : r = i
        · rw [e, hb] at hr2; cases hr2
        · exact h1 r (by omega) hr2
      · have hri : r ≠ i := fun e => by rw [e, hb] at hr2; cases hr2
        obtain ⟨q, q1, q2, q3⟩ := h2 ⟨r, by omega, hr2⟩
        exact ⟨q, by omega, q2, q3⟩
    · next hb =>
      have hb2 : c.testBit i = true := by simpa using hb
      split
      · next hlt =>
        refine ⟨fun r hr hr2 => ?_, fun _ => ⟨i, by omega, hb2, rfl⟩⟩
        by_cases e : r = i
        · rw [e]; exact Nat.le_refl _
        · have := h1 r (by omega) hr2
          omega
      · next hlt =>
        refine ⟨fun r hr hr2 => ?_, fun _ => ?_⟩
        · by_cases e : r = i
          · rw [e]; omega
          · exact h1 r (by omega) hr2
        · by_cases hex : ∃ r, r < i ∧ c.testBit r = true
          · obtain ⟨q, q1, q2, q3⟩ := h2 hex
            exact ⟨q, by omega, q2, q3⟩
          · refine ⟨i, by omega, hb2, ?_⟩
            have hz : ∀ j, j ≤ i → mrU rk c j = 4 := by
              intro j
              induction j with
              | zero => intro _; rfl
              | succ j ihj =>
                intro hj
                unfold mrU
                have hbj : c.testBit j = false := by
                  cases hq : c.testBit j with
                  | false => rfl
                  | true => exact absurd ⟨j, by omega, hq⟩ hex
                rw [if_pos hbj]
                exact ihj (by omega)
            have := hz i (Nat.le_refl _)
            have := hrk i (by omega)
            omega
theorem ne0_bit : ∀ c, c < 256 → c ≠ 0 → ∃ r, r < 8 ∧ c.testBit r = true := by decide +kernel
theorem dfs_ne {rk : Nat → Nat} (hrk : ∀ r, r < 8 → rk r < 4) : ∀ (f c : Nat) (p : List Nat), c < 256 → popN c ≤ f → 0 < (dfsF rk f c p).length
  | 0, c, p, hc, h => by
    unfold dfsF
    rw [if_pos ((popN_0 c hc).mp (by omega))]
    simp
  | f + 1, c, p, hc, h => by
    unfold dfsF
    split
    · simp
    · next h0 =>
      obtain ⟨r, h1, h2, h3⟩ := (mrU_at hrk c 8 (Nat.le_refl _)).2 (ne0_bit c hc h0)
      have hp := popN_clr r h1 c hc h2
      have ih := dfs_ne hrk f (clr c r) (p ++ [r]) (clr_lt hc) (by omega)
      obtain ⟨z, hz⟩ : ∃ z, z ∈ dfsF rk f (clr c r) (p ++ [r]) := by
        cases hd : dfsF rk f (clr c r) (p ++ [r]) with
        | nil => rw [hd] at ih; simp at ih
        | cons z l => exact ⟨z, List.mem_cons_self⟩
      exact List.length_pos_of_mem (List.mem_flatMap.mpr ⟨r, List.mem_range.mpr h1, by rw [if_pos ⟨h2, h3⟩]; exact hz⟩)
def fac : Nat → Nat
  | 0 => 1
  | n + 1 => (n + 1) * fac n
theorem flat_len {P : Nat → Bool} {F : Nat → List (List Nat)} {B : Nat} : ∀ l : List Nat, (∀ r, r ∈ l → P r = true → (F r).length ≤ B) → (∀ r, r ∈ l → P r = false → F r = []) → (l.flatMap F).length ≤ (l.filter P).length * B
  | [], _, _ => by simp
  | a :: l, h1, h2 => by
    have ih := flat_len (P := P) (F := F) (B := B) l (fun r hr => h1 r (List.mem_cons_of_mem _ hr)) (fun r hr => h2 r (List.mem_cons_of_mem _ hr))
    rw [List.flatMap_cons, List.length_append]
    cases hp : P a with
    | true =>
      rw [List.filter_cons_of_pos hp, List.length_cons, Nat.succ_mul]
      have := h1 a List.mem_cons_self hp
      omega
    | false =>
      rw [List.filter_cons_of_neg (by rw [hp]; simp), h2 a List.mem_cons_self hp]
      simpa using ih
theorem dfs_len (rk : Nat → Nat) : ∀ (f c : Nat) (p : List Nat), c < 256 → (dfsF rk f c p).length ≤ fac (popN c)
  | 0, c, p, hc => by
    unfold dfsF
    split
    · next e =>
      rw [e]
      exact (by decide : 1 ≤ fac (popN 0))
    · simp
  | f + 1, c, p, hc => by
    unfold dfsF
    split
    · next e =>
      rw [e]
      exact (by decide : 1 ≤ fac (popN 0))
    · next h0 =>
      have hpos : popN c ≠ 0 := fun q => h0 ((popN_0 c hc).mp q)
      have h := flat_len (P := fun j => c.testBit j) (F := fun r => if c.testBit r = true ∧ rk r = mr rk c then dfsF rk f (clr c r) (p ++ [r]) else []) (B := fac (popN c - 1)) (List.range 8) (fun r hr hb => by
        split
        · have := dfs_len rk f (clr c r) (p ++ [r]) (clr_lt hc)
          have hq := popN_clr r (List.mem_range.mp hr) c hc hb
          rw [show popN c - 1 = popN (clr c r) by omega]
          exact this
        · simp) (fun r hr hb => by
        rw [if_neg (by rw [hb]; simp)])
      have e : fac (popN c) = popN c * fac (popN c - 1) := by
        rw [show popN c = (popN c - 1) + 1 by omega]
        rfl
      rw [e]
      exact h
theorem lex_pre {p x y : List Nat} {a b : Nat} (h : a < b) : lexlt (p ++ [a] ++ x) (p ++ [b] ++ y) := by
  refine ⟨p.length, fun q hq => ?_, ?_⟩
  · unfold dig
    rw [List.append_assoc, List.append_assoc, List.getElem?_append_left hq, List.getElem?_append_left hq]
  · unfold dig
    simp
    exact h
theorem dfs_lex (rk : Nat → Nat) : ∀ (f c : Nat) (p : List Nat), c < 256 → (dfsF rk f c p).Pairwise lexlt
  | 0, c, p, hc => by
    unfold dfsF
    split <;> simp
  | f + 1, c, p, hc => by
    unfold dfsF
    split
    · simp
    · refine List.pairwise_flatMap.mpr ⟨fun r hr => ?_, ?_⟩
      · split
        · exact dfs_lex rk f _ _ (clr_lt hc)
        · exact List.Pairwise.nil
      · refine List.Pairwise.imp ?_ List.pairwise_lt_range
        intro a b hab x hx y hy
        split at hx
        · split at hy
          · obtain ⟨t, h1, -⟩ := dfs_mem rk f _ _ x (clr_lt hc) hx
            obtain ⟨u, h2, -⟩ := dfs_mem rk f _ _ y (clr_lt hc) hy
            rw [h1, h2]
            exact lex_pre hab
          · cases hy
        · cases hx
/-- the stacks of the ranges of c -/
def stk (rk : Nat → Nat) (c : Nat) : List (List Nat) := dfsF rk 5 c []
theorem stk_st {rk : Nat → Nat} {c : Nat} (hc : c < 256) {x : List Nat} (h : x ∈ stk rk c) : isSt c x := by
  obtain ⟨t, h1, h2⟩ := dfs_mem rk 5 c [] x hc h
  rw [h1]
  exact h2
theorem stk_len {rk : Nat → Nat} {c : Nat} (hc : c < 256) (hp : popN c ≤ 5) : (stk rk c).length ≤ 120 := by
  have := dfs_len rk 5 c [] hc
  have h2 : ∀ n, n ≤ 5 → fac n ≤ 120 := by decide
  exact Nat.le_trans this (h2 _ hp)
theorem stk_pos {rk : Nat → Nat} (hrk : ∀ r, r < 8 → rk r < 4) {c : Nat} (hc : c < 256) (hp : popN c ≤ 5) : 0 < (stk rk c).length := dfs_ne hrk 5 c [] hc hp
theorem stk_lex {rk : Nat → Nat} {c : Nat} (hc : c < 256) : Lx (stk rk c) := by
  intro i j hij hj
  have h := List.pairwise_iff_getElem.mp (dfs_lex rk 5 c [] hc) i j (by show i < (stk rk c).length; omega) hj hij
  rw [List.getD, List.getD, List.getElem?_eq_getElem (show i < (stk rk c).length by omega), List.getElem?_eq_getElem hj]
  exact h
theorem stk_get {rk : Nat → Nat} {c i : Nat} (hi : i < (stk rk c).length) : (stk rk c).getD i [] ∈ stk rk c := by
  rw [List.getD, List.getElem?_eq_getElem hi]
  exact List.getElem_mem hi
theorem dig_at {l : List Nat} {k : Nat} (h : dig l k ≠ 0) : ∃ r, l[k]? = some r ∧ dig l k = r + 1 := by
  unfold dig at h ⊢
  cases hq : l[k]? with
  | none => rw [hq] at h; exact absurd rfl h
  | some r => exact ⟨r, rfl, rfl⟩
/-- with as many ranges two stacks can begin alike at most -/
theorem st_share {c c' : Nat} {x y : List Nat} (hx : isSt c x) (hy : isSt c' y) {k : Nat} (h : ∀ q, q < k → dig x q = dig y q ∧ dig x q ≠ 0) : k ≤ popN (c &&& c') := by
  have hkl : k ≤ x.length := by
    rcases Nat.lt_or_ge x.length k with q | q
    · obtain ⟨r, h1, -⟩ := dig_at (h x.length q).2
      rw [List.getElem?_eq_none (Nat.le_refl _)] at h1
      cases h1
    · exact q
  have hn : (x.take k).Nodup := hx.1.sublist (List.take_sublist k x)
  have := nd_le hn (m := bts (c &&& c')) (fun r hr => by
    obtain ⟨q, hq⟩ := List.getElem?_of_mem hr
    rw [List.getElem?_take] at hq
    split at hq
    · next hqk =>
      have hd : dig x q = r + 1 := by unfold dig; rw [hq]
      have hd2 := (h q hqk).1
      obtain ⟨r2, e1, e2⟩ := dig_at (l := y) (k := q) (by omega)
      have hr2 : r2 = r := by omega
      subst hr2
      have m1 := (hx.2 r2).mp (List.mem_of_getElem? hq)
      have m2 := (hy.2 r2).mp (List.mem_of_getElem? e1)
      exact bts_mem.mpr ⟨m1.1, by rw [Nat.testBit_and, m1.2, m2.2]; rfl⟩
    · cases hq)
  rw [List.length_take, Nat.min_eq_left hkl] at this
  exact this
