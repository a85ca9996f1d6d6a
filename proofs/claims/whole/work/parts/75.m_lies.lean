/-! the reference: in which pieces an empty one lies -/
theorem smN_all {p : Nat → Bool} : ∀ {n : Nat}, (∀ i, i < n → p i = true) → smN p (fun _ => 1) n = n
  | 0, _ => rfl
  | n + 1, h => by
    unfold smN
    rw [smN_all (fun i hi => h i (by omega)), if_pos (h n (by omega))]
theorem smN_uni {p : Nat → Bool} {i0 : Nat} : ∀ {n : Nat}, i0 < n → p i0 = true → (∀ i, i < n → p i = true → i = i0) → smN p (fun _ => 1) n = 1
  | 0, h, _, _ => absurd h (Nat.not_lt_zero _)
  | n + 1, h, hp, hu => by
    unfold smN
    by_cases e : i0 = n
    · subst e
      rw [if_pos hp, smN_none (fun j hj => by
        cases hb : p j with
        | false => rfl
        | true => have := hu j (by omega) hb; omega)]
    · have hn : ¬ p n = true := fun w => by
        have := hu n (by omega) w
        omega
      rw [if_neg hn, smN_uni (by omega) hp (fun i hi => hu i (by omega))]
def cnF (f : Nat → Nat) (D j : Nat) : Nat := smN (fun i => decide (f i < j)) (fun _ => 1) D
theorem cnF_no {f : Nat → Nat} {D j : Nat} (h : ∀ i, i < D → j ≠ f i) : cnF f D (j + 1) = cnF f D j := by
  unfold cnF
  refine smN_cong (fun i hi => ?_)
  apply decide_eq_decide.mpr
  have := h i hi
  omega
theorem cnF_one {f : Nat → Nat} {D j i0 : Nat} (h0 : i0 < D) (hj : j = f i0) (hu : ∀ i, i < D → j = f i → i = i0) : cnF f D (j + 1) = cnF f D j + 1 := by
  unfold cnF
  rw [smN_or (q := fun i => decide (f i < j)) (r := fun i => decide (j = f i)) (fun i hi => by
    rw [decide_eq_true_eq, decide_eq_true_eq, decide_eq_true_eq]
    omega), smN_uni (p := fun i => decide (j = f i)) h0 (decide_eq_true hj) (fun i hi w => hu i hi (of_decide_eq_true w))]
theorem mLies_ok {lay : List Nat} (hwf : wfB lay = true) (d : Nat) {μ : Mem} {m n k D y r : Nat} {F : Nat → Nd} {f : Nat → Nat} (hN : NdF μ m n F) (hn : n ≤ 128) (hk : k < n) (hFk : F k = (r, y, y, 0, none)) (hb : ∀ q, q < n → (F q).2.1 ≤ 90 ∧ (F q).2.2.1 ≤ 90) (hf1 : ∀ i, i < D → f i < n ∧ (F (f i)).2.1 < y ∧ y < (F (f i)).2.2.1 ∧ (F (f i)).2.2.2.1 = i) (hf2 : ∀ j, j < n → (F j).2.1 < y → y < (F j).2.2.1 → ∃ i, i < D ∧ j = f i) (hD : D ≤ 5) : Rn lay d mM_liesIn [rf 16 m, vi (nI k)] μ (Pn fun μ1 => NdF μ1 m n (fun q => if q = k then (r, y, y, D, if D = 0 then none else some (f (D - 1))) else F q) ∧ FM m [m + 18, m + 19] [] μ μ1) := by
  have hy : y ≤ 90 := by
    have := (hb k hk).1
    rw [hFk] at this
    exact this
  have hfk : ∀ i, i < D → f i ≠ k := fun i hi e => by
    have := (hf1 i hi).2.1
    rw [e, hFk] at this
    exact absurd this (Nat.lt_irrefl _)
  have hinj : ∀ i i', i < D → i' < D → f i = f i' → i = i' := fun i i' h1 h2 e => by
    have a := (hf1 i h1).2.2.2
    have b := (hf1 i' h2).2.2.2
    rw [e] at a
    omega
  refine Rn_intro ok_M_liesIn hwf rfl (fun G hC => g_M_liesIn_0 hC ?_)
  have loop : ∀ c j (o : Option Nat) (μ' : Mem), j + c = n → NdF μ' m n (fun q => if q = k then (r, y, y, cnF f D j, o) else F q) → ((o = none ∧ ∀ i, i < D → ¬ f i < j) ∨ ∃ i, i < D ∧ f i < j ∧ o = some (f i) ∧ ∀ i', i' < D → f i' < j → i' ≤ i) → FM m [m + 18, m + 19] [] μ μ' → G 2 [rf 16 m, vi (nI k), vi (nI j)] [] μ' := by
    intro c
    induction c with
    | zero =>
      intro j o μ' hj hN' ho hf
      refine g_M_liesIn_2 hC ?_
      rw [hN'.1, nx_le (by omega) (by omega)]
      refine ⟨fun _ => ⟨rfl, hN'.eq (fun q hq => ?_), hf⟩, fun z => absurd (by omega) z⟩
      by_cases e : q = k
      · rw [if_pos e, if_pos e]
        have ec : cnF f D j = D := smN_all (fun i hi => decide_eq_true (by have := (hf1 i hi).1; omega))
        rw [ec]
        rcases ho with ⟨o1, o2⟩ | ⟨i, i1, i2, i3, i4⟩
        · have hD0 : D = 0 := by
            rcases Nat.eq_zero_or_pos D with w | w
            · exact w
            · exact absurd (by have := (hf1 0 w).1; omega) (o2 0 w)
          rw [if_pos hD0, o1]
        · have := i4 (D - 1) (by omega) (by have := (hf1 (D - 1) (by omega)).1; omega)
          have ei : i = D - 1 := by omega
          rw [if_neg (by omega), i3, ei]
      · rw [if_neg e, if_neg e]
    | succ c ih =>
      intro j o μ' hj hN' ho hf
      have hjn : j < n := by omega
      have hcn : cnF f D j ≤ D := smN_one _ _
      obtain ⟨k1, k2, k3, k4, k5⟩ := hN'.2 k hk
      dsimp only at k1 k2 k3 k4 k5
      rw [if_pos rfl] at k1 k2 k3 k4 k5
      have k2 : μ'.1 (m + 16) k = nI y := k2
      have k4 : μ'.1 (m + 18) k = nI (cnF f D j) := k4
      have k5 : μ'.1 (m + 19) k = oI o := k5
      have hvk : vp_in (nI k) 128 := vin (by omega) (by omega)
      have hvj : vp_in (nI j) 128 := vin (by omega) (by omega)
      -- it lies not in this one
      have nope : (∀ i, i < D → j ≠ f i) → G 2 [rf 16 m, vi (nI k), vi (nI (j + 1))] [] μ' := fun w => by
        refine ih (j + 1) o μ' (by omega) ?_ ?_ hf
        · rw [cnF_no w]
          exact hN'
        · rcases ho with ⟨o1, o2⟩ | ⟨i, i1, i2, i3, i4⟩
          · refine Or.inl ⟨o1, fun i hi hlt => ?_⟩
            have := w i hi
            have := o2 i hi
            omega
          · refine Or.inr ⟨i, i1, by omega, i3, fun i' h1 h2 => i4 i' h1 ?_⟩
            have := w i' h1
            omega
      by_cases ejk : j = k
      · subst ejk
        refine g_M_liesIn_2 hC ?_
        rw [hN'.1, nx_le (by omega) (by omega), nI_add, nx_cl (by omega), k2, nx_le (by omega) (by omega)]
        exact ⟨fun z => absurd z (by omega), fun _ => ⟨hvj, hvj, fun _ => nope (fun i hi e => hfk i hi e.symm), fun z => absurd (Nat.le_refl _) z⟩⟩
      · obtain ⟨j1, j2, j3, j4, j5⟩ := hN'.2 j hjn
        dsimp only at j1 j2 j3 j4 j5
        rw [if_neg ejk] at j1 j2 j3 j4 j5
        obtain ⟨b1, b2⟩ := hb j hjn
        refine g_M_liesIn_2 hC ?_
        rw [hN'.1, nx_le (by omega) (by omega)]
        refine ⟨fun z => absurd z (by omega), fun _ => ⟨hvj, hvk, ?_⟩⟩
        rw [nx_cl (by omega), nx_cl (by omega), k2, j2, j3, nx_le (by omega) (by omega), nx_le (by omega) (by omega), nI_add j 1]
        refine ⟨fun z => nope (fun i hi e => ?_), fun z => ⟨hvj, hvk, fun z2 => nope (fun i hi e => ?_), fun z2 => ⟨hvk, hvk, hvk, ?_⟩⟩⟩
        · have := (hf1 i hi).2.1
          rw [← e] at this
          omega
        · have := (hf1 i hi).2.2.1
          rw [← e] at this
          omega
        · obtain ⟨i0, i01, i02⟩ := hf2 j hjn (by omega) (by omega)
          have hd0 := (hf1 i0 i01).2.2.2
          rw [← i02] at hd0
          have ec := cnF_one i01 i02 (fun i hi e => hinj i i0 hi i01 (by rw [← e, i02]))
          rw [hd0] at j4
          rw [up_n1 (by omega), k5, k4, nI_add]
          -- behind it, with the one that stands then
          have fin : ∀ (o' : Option Nat) (v : Int32), v = oI o' → (∃ i, i < D ∧ f i < j + 1 ∧ o' = some (f i) ∧ ∀ i', i' < D → f i' < j + 1 → i' ≤ i) → G 2 [rf 16 m, vi (nI k), vi (nI (j + 1))] [] (upI (upI μ' (m + 18) k (nI (cnF f D j + 1))) (m + 19) k v) := by
            intro o' v hv ho'
            refine ih (j + 1) o' _ (by omega) ⟨by rw [up_n1 (by omega), up_n1 (by omega)]; exact hN'.1, fun q hq => ?_⟩ (Or.inr ho') ((hf.up (by simp) (by omega)).up (by simp) (by omega))
            have hq5 := hN'.2 q hq
            dsimp only at hq5 ⊢
            by_cases e : q = k
            · subst e
              rw [if_pos rfl] at hq5 ⊢
              simp (disch := omega) only [up_n1, up_at]
              exact ⟨hq5.1, hq5.2.1, hq5.2.2.1, by rw [ec], hv⟩
            · rw [if_neg e] at hq5 ⊢
              simp (disch := omega) only [up_n1, up_n2]
              exact hq5
          have jbest : (∀ i', i' < D → f i' < j → i' ≤ i0) → ∃ i, i < D ∧ f i < j + 1 ∧ some j = some (f i) ∧ ∀ i', i' < D → f i' < j + 1 → i' ≤ i := fun w => by
            refine ⟨i0, i01, by omega, by rw [i02], fun i' h1 h2 => ?_⟩
            by_cases e : f i' = j
            · have := hinj i' i0 h1 i01 (by rw [e, i02])
              omega
            · exact w i' h1 (by omega)
          rcases ho with ⟨o1, o2⟩ | ⟨i, i1, i2, i3, i4⟩
          · subst o1
            refine ⟨fun _ => ⟨hvk, fin (some j) _ rfl (jbest (fun i' h1 h2 => absurd h2 (o2 i' h1)))⟩, fun z3 => absurd rfl z3⟩
          · subst i3
            obtain ⟨g1, g2, g3, g4⟩ := hf1 i i1
            have hne := hfk i i1
            obtain ⟨_, _, _, l4, _⟩ := hN'.2 (f i) g1
            dsimp only at l4
            rw [if_neg hne, g4] at l4
            rw [show oI (some (f i)) = nI (f i) from rfl]
            refine ⟨fun z3 => absurd z3.symm (mI_ne (by omega) (by omega)), fun _ => ⟨hvj, hvk, vin (by omega) (by omega), ?_⟩⟩
            rw [nx_cl (by omega), up_n2 ejk, up_n2 hne, j4, l4, nx_le (by omega) (by omega)]
            refine ⟨fun z3 => ⟨hvk, hvk, ?_⟩, fun z3 => ⟨hvk, fin (some j) _ rfl (jbest (fun i' h1 h2 => by have := i4 i' h1 h2; omega))⟩⟩
            refine fin (some (f i)) _ rfl ⟨i, i1, by omega, rfl, fun i' h1 h2 => ?_⟩
            by_cases e : f i' = j
            · have := hinj i' i0 h1 i01 (by rw [e, i02])
              omega
            · exact i4 i' h1 (by omega)
  refine loop n 0 none μ (by omega) (hN.eq (fun q hq => ?_)) (Or.inl ⟨rfl, fun i hi => by omega⟩) (FM.rf _ _ _ _)
  by_cases e : q = k
  · rw [if_pos e, e, hFk]
    have : cnF f D 0 = 0 := smN_none (fun j _ => by rw [decide_eq_false_iff_not]; omega)
    rw [this]
  · rw [if_neg e]
theorem mSetNodes_ok {lay : List Nat} (hwf : wfB lay = true) (d : Nat) {μ : Mem} {m : Nat} {T : TS} (hT : MTe μ m T) (hw : WT T) (hnc : NC T.1) : Rn lay (d + 6) mM_setNodes [rf 16 m] μ (Pn fun μ1 => NdF μ1 m (ndT T).length (na (ndT T)) ∧ FM m (mwS m) mwF μ μ1) := by
  have hn := hw.1.1
  have hL := hw.2.1
  obtain ⟨hcl, hvl, hok, hrk⟩ := nest_f hw hnc
  have hzK := zOK_T hw hnc
  have hzl : (zsT T).length = (cvT T).length := by unfold zsT; exact chs_len _ _ _ _
  have hndB := ndT_B hw hnc
  refine Rn_intro ok_M_setNodes hwf rfl (fun G hC => g_M_setNodes_0 hC ?_)
  refine useQ (mSetThe_ok hwf d hT hw hnc) (fun v μ1 hp => ?_)
  obtain ⟨p1, p2, p3⟩ := hp
  -- in what the empty ones lie
  have l61 : ∀ c k (μ' : Mem), k + c = (ndT T).length → NdF μ' m (ndT T).length (fun q => if q < k then na (ndT T) q else stp (na (ndT T) q)) → FM m (mwS m) mwF μ μ' → G 61 [rf 16 m, un, vi (nI k)] [] μ' := by
    obtain ⟨op, dp, cc, a1, a2, a3, a4, a5, a6, a7, a8⟩ := ndT_NI hw hnc
    have h83 := hndB.1
    intro c
    induction c with
    | zero =>
      intro k μ' hk hN hf
      refine g_M_setNodes_61 hC ?_
      rw [hN.1, nx_le (by omega) (by omega)]
      exact ⟨fun _ => ⟨rfl, hN.eq (fun q hq => by rw [if_pos (by omega)]), hf⟩, fun z => absurd (by omega) z⟩
    | succ c ih =>
      intro k μ' hk hN hf
      have hkl : k < (ndT T).length := by omega
      have hT' : MTe μ' m T := hT.fr hf (by simp) (by simp)
      obtain ⟨k1, _⟩ := hN.2 k hkl
      dsimp only at k1
      rw [if_neg (Nat.lt_irrefl _)] at k1
      have e1 : (stp (na (ndT T) k)).1 = (na (ndT T) k).1 := by
        unfold stp
        split <;> rfl
      rw [e1] at k1
      have hnx : ∀ q, q < (ndT T).length → q ≠ k → (if q < k then na (ndT T) q else stp (na (ndT T) q)) = (if q < k + 1 then na (ndT T) q else stp (na (ndT T) q)) := fun q _ hne => by
        by_cases w : q < k
        · rw [if_pos w, if_pos (by omega)]
        · rw [if_neg w, if_neg (by omega)]
      refine g_M_setNodes_61 hC ?_
      rw [hN.1, nx_le (by omega) (by omega), nx_cl (by omega), k1, nI_add]
      by_cases hpc : (na (ndT T) k).2.1 < (na (ndT T) k).2.2.1
      · obtain ⟨⟨u1, u2, u3, u4⟩, _⟩ := a4 k hkl hpc
        refine ⟨fun z => absurd z (by omega), fun _ => ⟨vin (by omega) (by omega), useV (mIsEmpty_T hwf _ hT' hw u1) ?_⟩⟩
        rw [bI_eq0]
        refine ⟨fun _ => ih (k + 1) μ' (by omega) (hN.eq (fun q hq => ?_)) hf, fun z => absurd (fun w => by omega) z⟩
        by_cases e : q = k
        · rw [e, if_neg (Nat.lt_irrefl _), if_pos (by omega), stp_pc hpc]
        · exact hnx q hq e
      · obtain ⟨⟨u1, u2, u3, u4, u5⟩, ⟨f, f1, f2, f3⟩, _⟩ := a6 k hkl hpc
        refine ⟨fun z => absurd z (by omega), fun _ => ⟨vin (by omega) (by omega), useV (mIsEmpty_T hwf _ hT' hw u2) ?_⟩⟩
        rw [bI_eq0]
        refine ⟨fun z => absurd (by omega) z, fun _ => ?_⟩
        -- what stands of another node: its ends, and its depth if it is a piece
        have hFq : ∀ q, ((if q < k then na (ndT T) q else stp (na (ndT T) q)) : Nd).2.1 = (na (ndT T) q).2.1 ∧ ((if q < k then na (ndT T) q else stp (na (ndT T) q)) : Nd).2.2.1 = (na (ndT T) q).2.2.1 ∧ ((na (ndT T) q).2.1 < (na (ndT T) q).2.2.1 → ((if q < k then na (ndT T) q else stp (na (ndT T) q)) : Nd).2.2.2.1 = (na (ndT T) q).2.2.2.1) := fun q => by
          by_cases w : q < k
          · rw [if_pos w]
            exact ⟨rfl, rfl, fun _ => rfl⟩
          · rw [if_neg w]
            unfold stp
            by_cases w2 : (na (ndT T) q).2.1 < (na (ndT T) q).2.2.1
            · rw [if_pos w2]
              exact ⟨rfl, rfl, fun _ => rfl⟩
            · rw [if_neg w2]
              exact ⟨rfl, rfl, fun w3 => absurd w3 w2⟩
        have hFk : (if k < k then na (ndT T) k else stp (na (ndT T) k)) = ((na (ndT T) k).1, (na (ndT T) k).2.1, (na (ndT T) k).2.1, 0, none) := by
          rw [if_neg (Nat.lt_irrefl _)]
          unfold stp
          rw [if_neg hpc, ← u1]
        have hlies := mLies_ok hwf (d + 5) (r := (na (ndT T) k).1) (y := (na (ndT T) k).2.1) (D := (na (ndT T) k).2.2.2.1) (f := f) hN (by omega) hkl hFk (fun q hq => by
          rw [(hFq q).1, (hFq q).2.1]
          obtain ⟨_, w2, w3, _⟩ := hndB.2 q hq
          have w2 : (na (ndT T) q).2.1 ≤ (na (ndT T) q).2.2.1 := w2
          have w3 : (na (ndT T) q).2.2.1 ≤ T.2.1 := w3
          omega) (fun i hi => by
          obtain ⟨w1, w2, w3, w4⟩ := f1 i hi
          refine ⟨w1, by rw [(hFq _).1]; exact w2, by rw [(hFq _).2.1]; exact w3, by rw [(hFq _).2.2 (by omega)]; exact w4⟩) (fun j hj w1 w2 => by
          rw [(hFq _).1] at w1
          rw [(hFq _).2.1] at w2
          exact f2 j hj w1 w2) u5
        refine useN hlies (fun μ2 hp2 => ?_)
        obtain ⟨g1, g2⟩ := hp2
        refine ih (k + 1) μ2 (by omega) (g1.eq (fun q hq => ?_)) (hf.tr (g2.mono (by simp) (by simp)))
        by_cases e : q = k
        · rw [e, if_pos rfl, if_pos (show k < k + 1 by omega), ← f3]
          have : ((na (ndT T) k).1, (na (ndT T) k).2.1, (na (ndT T) k).2.1, (na (ndT T) k).2.2.2.1, (na (ndT T) k).2.2.2.2) = na (ndT T) k := by
            conv => lhs; arg 2; arg 2; arg 1; rw [u1]
          exact this
        · rw [if_neg e]
          exact hnx q hq e
  -- place by place
  have l14 : ∀ n p (μ' : Mem) (ns : List Nd) (op : Nat → Nat) (dp c : Nat), p + n = T.2.1 + 1 → lnS T.1 (csT T) (zsT T) p = (ns, op, dp, c) → NdF μ' m ns.length (fun k => stp (na ns k)) → (∀ j, j < dp → μ'.1 (m + 20) (((zsT T).getD (c - 1) []).getD j 0) = nI (op j)) → NeM μ' m (rkO T) (csT T) (cvT T) → FM m (mwS m) mwF μ μ' → G 14 [rf 16 m, vi (nI (if c < (zsT T).length then c else (zsT T).length)), vi (nI p)] [] μ' := by
    intro n
    induction n with
    | zero =>
      intro p μ' ns op dp c hp hln hN ho hNe hf
      have hT' : MTe μ' m T := hT.fr hf (by simp) (by simp)
      refine g_M_setNodes_14 hC ?_
      rw [hT'.2.1, nx_lt (by omega) (by omega)]
      refine ⟨fun _ => l61 (ndT T).length 0 μ' (by omega) ?_ hf, fun z => absurd (by omega) z⟩
      have e : ndT T = ns := by
        unfold ndT nodesOf
        rw [← hp, Nat.add_zero, hln]
      rw [e]
      exact hN.eq (fun q hq => by rw [if_neg (Nat.not_lt_zero _)])
    | succ n ih =>
      intro p μ' ns op dp c hp hln hN ho hNe hf
      have hT' : MTe μ' m T := hT.fr hf (by simp) (by simp)
      have hNI := ni_all hzK hn p
      rw [hln] at hNI
      have hNI : NI T.1 (csT T) (zsT T) p ns op dp c := hNI
      obtain ⟨a1, a2, a3, a4, a5, a6, a7, a8⟩ := hNI
      have hem : emC T.1 p T.1.length ≤ 8 := Nat.le_trans (smN_one _ _) hn
      have h15 : (if c < (zsT T).length then c else (zsT T).length) ≤ 15 := by split <;> omega
      have hnsl : ns.length ≤ 83 := by omega
      have enx : lnS T.1 (csT T) (zsT T) (p + 1) = if c < (csT T).length ∧ (csT T).getD c 0 = p then
        (if c < (zsT T).length then
          ((pcs ((zsT T).getD c []) ((csT T).getD c 0) ((csT T).getD (c + 1) 0) (goOn (zsT T) c) ((zsT T).getD c []).length (ns ++ empU T.1 p (goOn (zsT T) c) (op (goOn (zsT T) c - 1)) T.1.length, op)).1, (pcs ((zsT T).getD c []) ((csT T).getD c 0) ((csT T).getD (c + 1) 0) (goOn (zsT T) c) ((zsT T).getD c []).length (ns ++ empU T.1 p (goOn (zsT T) c) (op (goOn (zsT T) c - 1)) T.1.length, op)).2, ((zsT T).getD c []).length, c + 1)
        else (ns ++ empU T.1 p (goOn (zsT T) c) (op (goOn (zsT T) c - 1)) T.1.length, op, 0, c + 1))
        else (ns ++ empU T.1 p dp (op (dp - 1)) T.1.length, op, dp, c) := by
        conv => lhs; unfold lnS
        rw [hln]
      refine g_M_setNodes_14 hC ?_
      rw [hT'.2.1, nx_lt (by omega) (by omega)]
      refine ⟨fun z => absurd z (by omega), fun _ => ?_⟩
      -- behind the empty ones: the memory
      have aft : ∀ (μ2 : Mem), FM m (nnS m) [18] μ' μ2 → NeM μ2 m (rkO T) (csT T) (cvT T) ∧ MTe μ2 m T ∧ FM m (mwS m) mwF μ μ2 ∧ ∀ j, j < dp → μ2.1 (m + 20) (((zsT T).getD (c - 1) []).getD j 0) = nI (op j) := fun μ2 hf2 => ⟨hNe.fr hf2 (by simp [neS, nnS]) (by simp), hT'.fr hf2 (by simp [nnS]) (by simp), hf.tr (hf2.mono (by simp [nnS]) (by simp)), fun j hj => by rw [hf2.1 (m + 20) (by omega) (by simp [nnS])]; exact ho j hj⟩
      by_cases hcut : c < (csT T).length ∧ (csT T).getD c 0 = p
      · rw [if_pos hcut] at enx
        refine useN (mComesEmpty_ok hwf _ (dp := goOn (zsT T) c) (q := op (goOn (zsT T) c - 1)) hT' hw (by omega) hN (by omega)) (fun μ2 hp2 => ?_)
        obtain ⟨e1, e2⟩ := hp2
        obtain ⟨n1, n2, n3, n4⟩ := aft μ2 e2
        have hel := empU_len T.1 p (goOn (zsT T) c) (op (goOn (zsT T) c - 1)) T.1.length
        refine useV (mSections_ok hwf _ n1.1.1.1 hcl) ?_
        rw [← hvl, ← hzl, nx_le (by omega) (by omega), nI_add p 1]
        by_cases hcz : c < (zsT T).length
        · rw [if_pos hcz] at enx ⊢
          obtain ⟨g1, g2, g3⟩ := goOn_z hcz
          have hgd : goOn (zsT T) c ≤ dp := by
            rcases Nat.eq_zero_or_pos (goOn (zsT T) c) with w | w
            · omega
            · obtain ⟨w1, w2⟩ := g2 w
              rw [a2, if_pos ⟨w1, by omega⟩]
              exact w2
          rw [nx_cl (by omega), n1.1.1.2 c hcut.1, hcut.2]
          refine ⟨fun z => absurd z (by omega), fun _ => ⟨vin (by omega) (by omega), fun z => absurd rfl z, fun _ => ?_⟩⟩
          refine useN (mPieces_ok hwf (d + 1) (op := op) n2 hw hnc n1 (by omega) e1 (by rw [List.length_append]; omega) (fun j hj => ?_) (fun w => (g2 w).1)) (fun μ3 hp3 => ?_)
          · obtain ⟨o1, o2, o3, o4, o5, o6⟩ := a3 j (by omega)
            have hlt1 : (csT T).getD c 0 < (csT T).getD (c + 1) 0 := srt_at hzK.1 (by omega) (by have := hzK.2.1; omega)
            refine ⟨by rw [List.length_append]; omega, ?_, ?_, ?_⟩
            · rw [← g3 j hj]
              exact n4 j (by omega)
            · rw [na_l o1]
              omega
            · rw [na_l o1]
              omega
          · obtain ⟨f1, f2, f3⟩ := hp3
            rw [nI_add c 1]
            have := ih (p + 1) μ3 _ _ _ (c + 1) (by omega) enx f1 (fun j hj => by rw [Nat.add_sub_cancel]; exact f2 j hj) (n1.fr f3 (by simp [neS, noS]) (by simp)) (n3.tr (f3.mono (by simp [noS]) (by simp)))
            have ec : (if c + 1 < (zsT T).length then c + 1 else (zsT T).length) = c + 1 := by split <;> omega
            rw [ec] at this
            exact this
        · rw [if_neg hcz] at enx ⊢
          refine ⟨fun _ => ?_, fun z => absurd (Nat.le_refl _) z⟩
          have := ih (p + 1) μ2 _ _ 0 (c + 1) (by omega) enx e1 (fun j hj => absurd hj (Nat.not_lt_zero _)) n1 n3
          rw [if_neg (by omega)] at this
          exact this
      · rw [if_neg hcut] at enx
        refine useN (mComesEmpty_ok hwf _ (dp := dp) (q := op (dp - 1)) hT' hw (by omega) hN (by omega)) (fun μ2 hp2 => ?_)
        obtain ⟨e1, e2⟩ := hp2
        obtain ⟨n1, n2, n3, n4⟩ := aft μ2 e2
        refine useV (mSections_ok hwf _ n1.1.1.1 hcl) ?_
        rw [← hvl, ← hzl, nx_le (by omega) (by omega), nI_add p 1]
        have nxt := ih (p + 1) μ2 _ op dp c (by omega) enx e1 n4 n1 n3
        refine ⟨fun _ => nxt, fun z => ?_⟩
        have hcz : c < (zsT T).length := by
          rcases Nat.lt_or_ge c (zsT T).length with w | w
          · exact w
          · rw [if_neg (by omega)] at z
            exact absurd (Nat.le_refl _) z
        have hcc : c < (csT T).length := by have := hzK.2.1; omega
        rw [if_pos hcz] at nxt ⊢
        have hb90 : (csT T).getD c 0 ≤ 90 := csT_le hw 8 _ (gd_mem hcc)
        rw [nx_cl (by omega), n1.1.1.2 c hcc, nx_eq (by omega) (by omega)]
        exact ⟨vin (by omega) (by omega), fun _ => nxt, fun z2 => absurd ⟨hcc, z2⟩ hcut⟩
  have f1 : FM m [] [18] μ1 (upI μ1 m 18 (nI 0)) := (FM.rf _ _ _ _).upf (by simp)
  have := l14 (T.2.1 + 1) 0 (upI μ1 m 18 (nI 0)) [] (fun _ => 0) 0 0 (by omega) rfl ⟨by rw [up_at]; rfl, fun k hk => absurd hk (Nat.not_lt_zero _)⟩ (fun j hj => absurd hj (Nat.not_lt_zero _)) (p2.fr f1 (by simp) (by simp)) (p3.ne.tr (f1.mono (by simp) (by simp)))
  have e0 : (if 0 < (zsT T).length then 0 else (zsT T).length) = 0 := by split <;> omega
  rw [e0] at this
  exact this
