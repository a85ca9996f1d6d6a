/-! Nest.layNodes -/
abbrev LNS : Type := List Nd × (Nat → Nat) × Nat × Nat
/-- nodes, the open ones, how deep, which cut is next: ahead of a place -/
def lnS (rs : List RG) (cs : List Nat) (zs : List (List Nat)) : Nat → LNS
  | 0 => ([], fun _ => 0, 0, 0)
  | p + 1 =>
    match lnS rs cs zs p with
    | (ns, op, dp, c) =>
      if c < cs.length ∧ cs.getD c 0 = p then
        (if c < zs.length then
          ((pcs (zs.getD c []) (cs.getD c 0) (cs.getD (c + 1) 0) (goOn zs c) (zs.getD c []).length (ns ++ empU rs p (goOn zs c) (op (goOn zs c - 1)) rs.length, op)).1, (pcs (zs.getD c []) (cs.getD c 0) (cs.getD (c + 1) 0) (goOn zs c) (zs.getD c []).length (ns ++ empU rs p (goOn zs c) (op (goOn zs c - 1)) rs.length, op)).2, (zs.getD c []).length, c + 1)
        else (ns ++ empU rs p (goOn zs c) (op (goOn zs c - 1)) rs.length, op, 0, c + 1))
      else (ns ++ empU rs p dp (op (dp - 1)) rs.length, op, dp, c)
def nodesOf (rs : List RG) (L : Nat) (cs : List Nat) (zs : List (List Nat)) : List Nd := (lnS rs cs zs (L + 1)).1
def emC (rs : List RG) (p : Nat) (n : Nat) : Nat := smN (fun r => decide (ra rs r = rb rs r ∧ ra rs r < p)) (fun _ => 1) n
theorem smN_one (p : Nat → Bool) : ∀ n, smN p (fun _ => 1) n ≤ n
  | 0 => Nat.le_refl _
  | n + 1 => by
    have := smN_one p n
    unfold smN
    split <;> omega
theorem empU_sm (rs : List RG) (p dp q : Nat) : ∀ n, (empU rs p dp q n).length = smN (fun r => decide (ra rs r = rb rs r ∧ ra rs r = p)) (fun _ => 1) n
  | 0 => rfl
  | n + 1 => by
    have ih := empU_sm rs p dp q n
    unfold empU smN
    rw [List.length_append, ih]
    by_cases h : ra rs n = rb rs n ∧ ra rs n = p
    · rw [if_pos h, if_pos (decide_eq_true h)]
      rfl
    · rw [if_neg h, if_neg (fun z => h (of_decide_eq_true z))]
      rfl
theorem emC_step (rs : List RG) (p dp q n : Nat) : emC rs (p + 1) n = emC rs p n + (empU rs p dp q n).length := by
  rw [empU_sm]
  unfold emC
  exact smN_or (fun r _ => by
    rw [decide_eq_true_eq, decide_eq_true_eq, decide_eq_true_eq]
    omega)
theorem layNodes_ok {lay : List Nat} (hwf : wfB lay = true) (d : Nat) {μ : Mem} {o t : Nat} {T : TS} {cs cv : List Nat} {zs : List (List Nat)} (hT : TeAt μ t T) (hw : WT T) (hd : t + 5 ≤ o ∨ o + 12 ≤ t) (hS : SeAt μ (o + 1) cs cv) (hcl : cs.length ≤ 16) (hcb : ∀ c ∈ cs, c ≤ 90) (hcv : cv.length = cs.length - 1) (hok : okC cv) (hzl : zs.length = cv.length) (hz : ∀ q, q < cv.length → isSt (cv.getD q 0) (zs.getD q [])) (hch : ∀ q, q < zs.length → μ.1 (o + 5) q = nI (enc (zs.getD q []))) : Rn lay (d + 3) mNe_layNodes [rf 11 o, rf 13 t] μ (Pn fun μ1 => NdAt μ1 o (nodesOf T.1 T.2.1 cs zs) ∧ Frn o (npC o) μ μ1) := by
  have hn := hw.1.1
  have hL := hw.2.1
  have hzo : ∀ z ∈ zs, oks z := fun z hzz => by
    obtain ⟨q, hq⟩ := List.getElem?_of_mem hzz
    have hql : q < zs.length := (List.getElem?_eq_some_iff.mp hq).1
    have := (hz q (by omega)).ok (hok.at (show q < cv.length by omega)).2
    rw [List.getD, hq] at this
    exact this
  have hzo2 : ∀ q, q < zs.length → (zs.getD q []).length ≤ 5 := fun q hq => ((hz q (by omega)).ok (hok.at (show q < cv.length by omega)).2).1
  refine Rn_intro ok_Ne_layNodes hwf rfl (fun G hC => g_Ne_layNodes_0 hC ?_)
  have loop : ∀ n p (μ' : Mem) (ns : List Nd) (op : Nat → Nat) (dp c : Nat), p + n = T.2.1 + 1 → lnS T.1 cs zs p = (ns, op, dp, c) → NdAt μ' o ns → c ≤ cs.length → dp = (if 1 ≤ c ∧ c - 1 < zs.length then (zs.getD (c - 1) []).length else 0) → (∀ j, j < dp → μ'.1 (o + 11) j = nI (op j) ∧ op j < ns.length) → ns.length ≤ 5 * (if c < zs.length then c else zs.length) + emC T.1 p T.1.length → Frn o (npC o) μ μ' → G 12 [rf 11 o, rf 13 t, vi (nI dp), vi (nI c), vi (nI p), un] [] μ' := by
    intro n
    induction n with
    | zero =>
      intro p μ' ns op dp c hp hln hN hc hdp hop hlen hf
      have e0 := hf.1 t (by simp; omega)
      refine g_Ne_layNodes_12 hC ?_
      rw [e0, hT.2.1, nx_lt (by omega) (by omega)]
      refine ⟨fun _ => ⟨rfl, ?_, hf⟩, fun z => absurd (by omega) z⟩
      unfold nodesOf
      rw [← hp, Nat.add_zero, hln]
      exact hN
    | succ n ih =>
      intro p μ' ns op dp c hp hln hN hc hdp hop hlen hf
      have e0 := hf.1 t (by simp; omega)
      have hT' : TeAt μ' t T := hT.far hf.fr (fun b hb hb2 => by simp at hb hb2; omega)
      have hS' : SeAt μ' (o + 1) cs cv := hS.fr (fun b hb => hf.1 b (by simp at hb ⊢; omega))
      have hch' : ∀ q, q < zs.length → μ'.1 (o + 5) q = nI (enc (zs.getD q [])) := fun q hq => by rw [hf.1 (o + 5) (by simp)]; exact hch q hq
      have hdp5 : dp ≤ 5 := by
        rw [hdp]
        split
        · next h => exact hzo2 _ h.2
        · omega
      have hem : emC T.1 (p + 1) T.1.length ≤ 8 := Nat.le_trans (smN_one _ _) hn
      have hlen2 : 5 * (if c < zs.length then c else zs.length) ≤ 75 := by split <;> omega
      have hgd : goOn zs c ≤ dp := by
        unfold goOn
        split
        · next h =>
          have := (alk_le (zs.getD (c - 1) []) (zs.getD c [])).1
          rw [hdp, if_pos ⟨h.1, by omega⟩]
          exact this
        · omega
      have hg5 := goOn_le hzo c
      have enx : lnS T.1 cs zs (p + 1) = if c < cs.length ∧ cs.getD c 0 = p then
        (if c < zs.length then
          ((pcs (zs.getD c []) (cs.getD c 0) (cs.getD (c + 1) 0) (goOn zs c) (zs.getD c []).length (ns ++ empU T.1 p (goOn zs c) (op (goOn zs c - 1)) T.1.length, op)).1, (pcs (zs.getD c []) (cs.getD c 0) (cs.getD (c + 1) 0) (goOn zs c) (zs.getD c []).length (ns ++ empU T.1 p (goOn zs c) (op (goOn zs c - 1)) T.1.length, op)).2, (zs.getD c []).length, c + 1)
        else (ns ++ empU T.1 p (goOn zs c) (op (goOn zs c - 1)) T.1.length, op, 0, c + 1))
        else (ns ++ empU T.1 p dp (op (dp - 1)) T.1.length, op, dp, c) := by
        conv => lhs; unfold lnS
        rw [hln]
      refine g_Ne_layNodes_12 hC ?_
      rw [e0, hT.2.1, nx_lt (by omega) (by omega), nI_add, nI_add]
      refine ⟨fun z => absurd z (by omega), fun _ => ?_⟩
      refine useV (isCut_ok hwf _ hS'.1 hcl hcb (by omega) (by omega)) ?_
      rw [bI_eq0]
      refine ⟨fun z => ?_, fun z => ?_⟩
      · rw [if_neg z] at enx
        have hel := emC_step T.1 p dp (op (dp - 1)) T.1.length
        refine useN (addEmptyOnes_ok hwf d (q := op (dp - 1)) hT' hw hd (by omega) hN (by omega) hdp5 (fun h0 => (hop (dp - 1) (by omega)).1)) (fun μ1 hp1 => ?_)
        obtain ⟨p1, p2⟩ := hp1
        refine ⟨fun _ => ?_, fun w => absurd z w⟩
        refine ih (p + 1) μ1 _ op dp c (by omega) enx p1 hc hdp (fun j hj => ?_) ?_ (hf.tr (p2.mono (by simp)))
        · rw [p2.1 (o + 11) (by simp), List.length_append]
          have := hop j hj
          exact ⟨this.1, by omega⟩
        · rw [List.length_append]
          omega
      · have z := Decidable.not_not.mp z
        rw [if_pos z] at enx
        have hel := emC_step T.1 p (goOn zs c) (op (goOn zs c - 1)) T.1.length
        refine useV (goingOnAt_ok hwf d hS' (by omega) hzl hzo hch' (by omega)) ?_
        refine useN (addEmptyOnes_ok hwf d (q := op (goOn zs c - 1)) hT' hw hd (by omega) hN (by omega) hg5 (fun h0 => (hop (goOn zs c - 1) (by omega)).1)) (fun μ1 hp1 => ?_)
        obtain ⟨p1, p2⟩ := hp1
        have hf1 := hf.tr (p2.mono (S' := npC o) (by simp))
        have hS1 : SeAt μ1 (o + 1) cs cv := hS.fr (fun b hb => hf1.1 b (by simp at hb ⊢; omega))
        have hch1 : ∀ q, q < zs.length → μ1.1 (o + 5) q = nI (enc (zs.getD q [])) := fun q hq => by rw [hf1.1 (o + 5) (by simp)]; exact hch q hq
        refine ⟨fun w => absurd z w, fun _ => ?_⟩
        by_cases hcz : c < zs.length
        · rw [if_pos hcz] at enx
          have hgl : goOn zs c ≤ (zs.getD c []).length := by
            unfold goOn
            split
            · exact (alk_le (zs.getD (c - 1) []) (zs.getD c [])).2
            · omega
          have hz5 := hzo2 c hcz
          refine useQ (addPieces_ok hwf (d + 1) (s := c) (g := goOn zs c) (ns := ns ++ empU T.1 p (goOn zs c) (op (goOn zs c - 1)) T.1.length) (op := op) hS1 hcl hcv hok hzl hz hch1 (by omega) p1 (by
            rw [List.length_append]
            rw [if_pos hcz] at hlen
            omega) hgl (fun j hj => by
            rw [p2.1 (o + 11) (by simp), List.length_append]
            have := hop j (by omega)
            exact ⟨this.1, by omega⟩)) (fun x μ2 hp2 => ?_)
          obtain ⟨rfl, q1, q2, q3⟩ := hp2
          have hpl := pcs_len (zs.getD c []) (cs.getD c 0) (cs.getD (c + 1) 0) (goOn zs c) (ns ++ empU T.1 p (goOn zs c) (op (goOn zs c - 1)) T.1.length, op) (zs.getD c []).length
          dsimp only at hpl
          rw [List.length_append] at hpl
          refine ih (p + 1) μ2 _ _ _ (c + 1) (by omega) enx q1 (by omega) ?_ q2 ?_ (hf1.tr q3)
          · rw [if_pos ⟨by omega, by rw [Nat.add_sub_cancel]; exact hcz⟩, Nat.add_sub_cancel]
          · rw [if_pos hcz] at hlen
            split <;> omega
        · rw [if_neg hcz] at enx
          refine useV (addPieces_no hwf (d + 1) hS1 (by omega) (by omega) (by omega)) ?_
          refine ih (p + 1) μ1 _ _ 0 (c + 1) (by omega) enx p1 (by omega) ?_ (fun j hj => by omega) ?_ hf1
          · rw [if_neg (by omega)]
          · rw [List.length_append]
            rw [if_neg hcz] at hlen
            rw [if_neg (by omega)]
            omega
  refine loop (T.2.1 + 1) 0 _ [] (fun _ => 0) 0 0 (by omega) rfl ⟨by rw [up_at]; rfl, fun k hk => by simp at hk⟩ (by omega) (by simp) (fun j hj => by omega) (by simp) ((Frn.rf _ _ _).up (by simp) (Or.inr rfl))
