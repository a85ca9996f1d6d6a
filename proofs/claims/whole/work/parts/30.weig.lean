/-! Weights: all stacks of a section -/
theorem bitz : ∀ i, i < 8 → ∀ c, c < 256 → ((nI c &&& ((nI 1) <<< (nI i &&& 31)) = 0) ↔ c.testBit i = false) := by decide +kernel
def RkAt (μ : Mem) (w : Nat) (rk : Nat → Nat) : Prop := ∀ r, r < 8 → μ.1 (w + 37) r = nI (rk r) ∧ rk r < 4
def mrU (rk : Nat → Nat) (c : Nat) : Nat → Nat
  | 0 => 4
  | i + 1 => if c.testBit i = false then mrU rk c i else if rk i < mrU rk c i then rk i else mrU rk c i
def mr (rk : Nat → Nat) (c : Nat) : Nat := mrU rk c 8
theorem mrU_le (rk : Nat → Nat) (c : Nat) : ∀ i, mrU rk c i ≤ 4
  | 0 => Nat.le_refl 4
  | i + 1 => by
    have := mrU_le rk c i
    unfold mrU
    split
    · exact this
    · split <;> omega
theorem outermost_ok {lay : List Nat} (hwf : wfB lay = true) (d : Nat) {μ : Mem} {w c : Nat} {rk : Nat → Nat} (hr : RkAt μ w rk) (hc : c < 256) : Rn lay d mWe_outermostRank [rf 14 w, vi (nI c)] μ (Pv (nI (mr rk c)) μ) := by
  refine Rn_intro ok_We_outermostRank hwf rfl (fun G hC => g_We_outermostRank_0 hC ?_)
  have loop : ∀ n i, i + n = 8 → G 4 [rf 14 w, vi (nI c), vi (nI (mrU rk c i)), vi (nI i)] [] μ := by
    intro n
    induction n with
    | zero =>
      intro i hi
      refine g_We_outermostRank_4 hC ?_
      rw [nx_le (by omega) (by omega)]
      exact ⟨fun _ => pv_e (by rw [show i = 8 by omega]; rfl), fun z => absurd (by omega) z⟩
    | succ n ih =>
      intro i hi
      have ih := ih (i + 1) (by omega)
      obtain ⟨h1, h2⟩ := hr i (by omega)
      have hm := mrU_le rk c i
      refine g_We_outermostRank_4 hC ?_
      simp (disch := omega) only [nx_le, bitz, nx_cl, nx_in', h1, nI_add, nx_lt]
      unfold mrU at ih
      refine ⟨fun z => absurd z (by omega), fun _ => ⟨fun z => ?_, fun z => ⟨by omega, ?_⟩⟩⟩
      · rw [if_pos z] at ih
        exact ih
      · rw [if_neg z] at ih
        by_cases q : rk i < mrU rk c i
        · rw [if_pos q] at ih ⊢
          exact ih
        · rw [if_neg q] at ih ⊢
          exact ih
  exact loop 8 0 (by omega)
def RowAt (μ : Mem) (w s : Nat) (xs : List (List Nat)) : Prop := μ.1 (w + 36) s = nI xs.length ∧ ∀ i, i < xs.length → μ.1 (w + 1 + 1 + 1 * s) i = nI (enc (xs.getD i []))
/-- only the row of section s and its count have changed -/
def FrS (w s : Nat) (μ μ1 : Mem) : Prop := (∀ b, b ≠ w + 36 → b ≠ w + 1 + 1 + 1 * s → μ1.1 b = μ.1 b) ∧ (∀ j, j ≠ s → μ1.1 (w + 36) j = μ.1 (w + 36) j) ∧ μ1.2 = μ.2
theorem FrS.rf (w s : Nat) (μ : Mem) : FrS w s μ μ := ⟨fun _ _ _ => rfl, fun _ _ => rfl, rfl⟩
theorem FrS.tr {w s : Nat} {μ μ1 μ2 : Mem} (h : FrS w s μ μ1) (h2 : FrS w s μ1 μ2) : FrS w s μ μ2 := ⟨fun b h3 h4 => (h2.1 b h3 h4).trans (h.1 b h3 h4), fun j hj => (h2.2.1 j hj).trans (h.2.1 j hj), h2.2.2.trans h.2.2⟩
theorem addStack_ok {lay : List Nat} (hwf : wfB lay = true) (d : Nat) {μ : Mem} {w s : Nat} {xs : List (List Nat)} {p : List Nat} (hs : s < 15) (hR : RowAt μ w s xs) (hl : xs.length < 120) : Rn lay d mWe_addStack [rf 14 w, vi (nI s), vi (nI (enc p))] μ (Pn fun μ1 => RowAt μ1 w s (xs ++ [p]) ∧ FrS w s μ μ1) := by
  obtain ⟨h1, h2⟩ := hR
  refine Rn_intro ok_We_addStack hwf rfl (fun G hC => g_We_addStack_0 hC ?_)
  simp (disch := omega) only [nx_cl, nx_in', h1, nx_0, nx_lt, nI_add]
  refine ⟨by omega, fun z => absurd z (by omega), fun _ => ⟨fun _ => ⟨by omega, by omega, by omega, rfl, ⟨?_, fun i hi => ?_⟩, fun b hb hb2 => ?_, fun j hj => ?_, rfl⟩, fun z => absurd hl z⟩⟩
  · rw [up_at]
    simp
  · rw [up_n1 (by omega)]
    rw [List.length_append, List.length_singleton] at hi
    by_cases e : i = xs.length
    · subst e
      rw [up_at, List.getD, List.getElem?_append_right (Nat.le_refl _)]
      simp
    · rw [up_n2 e, h2 i (by omega), List.getD, List.getD, List.getElem?_append_left (by omega)]
  · rw [up_cell hb, up_cell hb2]
  · rw [up_n2 hj, up_n1 (by omega)]
def dfsF (rk : Nat → Nat) : Nat → Nat → List Nat → List (List Nat)
  | 0, c, p => if c = 0 then [p] else []
  | f + 1, c, p => if c = 0 then [p] else (List.range 8).flatMap fun r => if c.testBit r = true ∧ rk r = mr rk c then dfsF rk f (clr c r) (p ++ [r]) else []
theorem flat_le {α β : Type} (F : α → List β) : ∀ (l m : List α), (l.flatMap F).length ≤ ((l ++ m).flatMap F).length := fun l m => by
  rw [List.flatMap_append, List.length_append]
  omega
theorem range_le {i n : Nat} (h : i ≤ n) : ∃ m, List.range n = List.range i ++ m := by
  refine ⟨(List.range n).drop i, ?_⟩
  have e : (List.range n).take i = List.range i := by
    rw [List.take_range, Nat.min_eq_left h]
  rw [← e, List.take_append_drop]
theorem addStacks_ok {lay : List Nat} (hwf : wfB lay = true) (d : Nat) {w s : Nat} {rk : Nat → Nat} (hs : s < 15) : ∀ (f : Nat) (c : Nat) (p : List Nat) (xs : List (List Nat)) (μ : Mem), p.length + f = 5 → oks p → c < 256 → RkAt μ w rk → RowAt μ w s xs → xs.length + (dfsF rk f c p).length ≤ 120 → Rn lay (d + f + 1) mWe_addStacks [rf 14 w, vi (nI s), vi (nI c), vi (nI p.length), vi (nI (enc p))] μ (Pn fun μ1 => RowAt μ1 w s (xs ++ dfsF rk f c p) ∧ FrS w s μ μ1) := by
  intro f
  induction f with
  | zero =>
    intro c p xs μ hpf hp hc hr hR hb
    refine Rn_intro ok_We_addStacks hwf rfl (fun G hC => g_We_addStacks_0 hC ?_)
    rw [nx_0, nx_eq (by omega) (by omega), nx_lt (by omega) (by omega)]
    refine ⟨fun z => ⟨fun z2 => absurd z2 (by omega), fun _ => ?_⟩, fun z => ?_⟩
    · refine ⟨rfl, ?_, FrS.rf _ _ _⟩
      unfold dfsF
      rw [if_neg z, List.append_nil]
      exact hR
    · unfold dfsF at hb ⊢
      rw [if_pos z] at hb ⊢
      refine useN (addStack_ok hwf _ hs hR (by simp at hb; omega)) (fun μ1 hp1 => ⟨rfl, hp1⟩)
  | succ f ih =>
    intro c p xs μ hpf hp hc hr hR hb
    refine Rn_intro ok_We_addStacks hwf rfl (fun G hC => g_We_addStacks_0 hC ?_)
    rw [nx_0, nx_eq (by omega) (by omega), nx_lt (by omega) (by omega)]
    refine ⟨fun z => ⟨fun _ => ?_, fun z2 => absurd (by omega) z2⟩, fun z => ?_⟩
    · refine useV (outermost_ok hwf _ hr hc) ?_
      unfold dfsF at hb
      rw [if_neg z] at hb
      have e : dfsF rk (f + 1) c p = (List.range 8).flatMap fun r => if c.testBit r = true ∧ rk r = mr rk c then dfsF rk f (clr c r) (p ++ [r]) else [] := by
        conv => lhs; unfold dfsF
        rw [if_neg z]
      rw [e] at hC
      generalize hF : (fun r => if c.testBit r = true ∧ rk r = mr rk c then dfsF rk f (clr c r) (p ++ [r]) else []) = F at hb hC
      have hFr : ∀ r, F r = if c.testBit r = true ∧ rk r = mr rk c then dfsF rk f (clr c r) (p ++ [r]) else [] := fun r => by rw [← hF]
      have hm := mrU_le rk c 8
      have loop : ∀ n i (μ' : Mem), i + n = 8 → RowAt μ' w s (xs ++ (List.range i).flatMap F) → FrS w s μ μ' → G 28 [rf 14 w, vi (nI s), vi (nI c), vi (nI p.length), vi (nI (enc p)), vi (nI (mr rk c)), vi (nI i), un] [] μ' := by
        intro n
        induction n with
        | zero =>
          intro i μ' hi hR' hf
          refine g_We_addStacks_28 hC ?_
          rw [nx_le (by omega) (by omega)]
          refine ⟨fun _ => ⟨rfl, ?_, hf⟩, fun z => absurd (by omega) z⟩
          rw [show i = 8 by omega] at hR'
          exact hR'
        | succ n ihn =>
          intro i μ' hi hR' hf
          have hr' : RkAt μ' w rk := fun r hr2 => by
            rw [hf.1 (w + 37) (by omega) (by omega)]
            exact hr r hr2
          obtain ⟨h1, h2⟩ := hr' i (by omega)
          have enx : (List.range (i + 1)).flatMap F = (List.range i).flatMap F ++ F i := by
            rw [List.range_succ, List.flatMap_append]
            simp
          have hle : ((List.range (i + 1)).flatMap F).length ≤ ((List.range 8).flatMap F).length := by
            obtain ⟨m, hm2⟩ := range_le (show i + 1 ≤ 8 by omega)
            rw [hm2]
            exact flat_le F _ m
          have skip : F i = [] → G 28 [rf 14 w, vi (nI s), vi (nI c), vi (nI p.length), vi (nI (enc p)), vi (nI (mr rk c)), vi (nI (i + 1)), un] [] μ' := fun q => by
            refine ihn (i + 1) μ' (by omega) ?_ hf
            rw [enx, q, List.append_nil]
            exact hR'
          refine g_We_addStacks_28 hC ?_
          have hcl : nI c &&& (((nI 1) <<< (nI i &&& 31)) ^^^ (mI 0)) = nI (clr c i) := by
            rw [clr_and i (by omega) c hc, clr, if_pos (by omega)]
          rw [hcl]
          have hmr : mr rk c ≤ 4 := hm
          simp (disch := omega) only [nx_le, bitz, nx_cl, nx_in', h1, nI_add, nx_eq]
          refine ⟨fun z => absurd z (by omega), fun _ => ⟨fun q => skip ?_, fun q => ⟨by omega, fun q2 => skip ?_, fun q2 => ?_⟩⟩⟩
          · rw [hFr, if_neg (by rw [q]; simp)]
          · rw [hFr, if_neg (fun w => q2 w.2)]
          · have hFi : F i = dfsF rk f (clr c i) (p ++ [i]) := by
              rw [hFr, if_pos ⟨by simpa using q, q2⟩]
            refine useV (with_ok hwf _ hp (by omega) (by omega) μ') ?_
            have hpl : (p ++ [i]).length = p.length + 1 := by simp
            have hok : oks (p ++ [i]) := ⟨by rw [hpl]; omega, fun r hr2 => by
              rcases List.mem_append.mp hr2 with z | z
              · exact hp.2 r z
              · simp at z
                omega⟩
            have hrec := ih (clr c i) (p ++ [i]) (xs ++ (List.range i).flatMap F) μ' (by rw [hpl]; omega) hok (clr_lt hc) hr' hR' (by
              rw [← hFi, List.length_append, Nat.add_assoc, ← List.length_append, ← enx]
              omega)
            rw [hpl] at hrec
            refine useN hrec (fun μ1 hp1 => ?_)
            refine ihn (i + 1) μ1 (by omega) ?_ (hf.tr hp1.2)
            rw [enx, hFi, ← List.append_assoc]
            exact hp1.1
      exact loop 8 0 μ (by omega) (by simpa using hR) (FrS.rf _ _ _)
    · have e : dfsF rk (f + 1) c p = [p] := by
        conv => lhs; unfold dfsF
        rw [if_pos z]
      rw [e] at hb hC
      refine useN (addStack_ok hwf _ hs hR (by simp at hb; omega)) (fun μ1 hp1 => ⟨rfl, ?_⟩)
      rw [e]
      exact hp1
