/-! the nodes at a cut -/
theorem goOn_z {zs : List (List Nat)} {c : Nat} (hc : c < zs.length) : goOn zs c ≤ (zs.getD c []).length ∧ (0 < goOn zs c → 1 ≤ c ∧ goOn zs c ≤ (zs.getD (c - 1) []).length) ∧ ∀ j, j < goOn zs c → (zs.getD (c - 1) []).getD j 0 = (zs.getD c []).getD j 0 := by
  unfold goOn
  by_cases h : 1 ≤ c ∧ c < zs.length
  · rw [if_pos h]
    obtain ⟨l1, l2⟩ := alk_le (zs.getD (c - 1) []) (zs.getD c [])
    refine ⟨l2, fun _ => ⟨h.1, l1⟩, fun j hj => ?_⟩
    obtain ⟨d1, d2⟩ := alk_dig j _ _ hj
    unfold dig at d1
    rw [gd_in (by omega), gd_in (by omega)] at d1
    have d1 : (zs.getD (c - 1) []).getD j 0 + 1 = (zs.getD c []).getD j 0 + 1 := d1
    omega
  · rw [if_neg h]
    exact ⟨by omega, fun q => absurd q (Nat.lt_irrefl _), fun j hj => absurd hj (Nat.not_lt_zero _)⟩
theorem nd_get {l : List Nat} (h : l.Nodup) {i j : Nat} (hi : i < l.length) (hj : j < l.length) (he : l.getD i 0 = l.getD j 0) : i = j := by
  rw [gdn hi, gdn hj] at he
  exact (List.getElem_inj h).mp he
theorem gd_mem {l : List Nat} {i : Nat} (h : i < l.length) : l.getD i 0 ∈ l := by
  rw [gdn h]
  exact List.getElem_mem h
theorem ni_cut {rs : List RG} {cs : List Nat} {zs : List (List Nat)} {p : Nat} {ns : List Nd} {op : Nat → Nat} {dp c : Nat} (hz : zOK rs cs zs) (h : NI rs cs zs p ns op dp c) (hn : rs.length ≤ 8) (hc : c < zs.length) (hp : cs.getD c 0 = p) :
    NI rs cs zs (p + 1) (pcs (zs.getD c []) (cs.getD c 0) (cs.getD (c + 1) 0) (goOn zs c) (zs.getD c []).length (ns ++ empU rs p (goOn zs c) (op (goOn zs c - 1)) rs.length, op)).1 (pcs (zs.getD c []) (cs.getD c 0) (cs.getD (c + 1) 0) (goOn zs c) (zs.getD c []).length (ns ++ empU rs p (goOn zs c) (op (goOn zs c - 1)) rs.length, op)).2 (zs.getD c []).length (c + 1) := by
  obtain ⟨a1, a2, a3, a4, a5, a6, a7, a8⟩ := h
  obtain ⟨z1, z2, z3, z4, z5⟩ := hz
  obtain ⟨y1, y2, y3⟩ := z5 c hc
  obtain ⟨g1, g2, g3⟩ := goOn_z hc
  have hgd : goOn zs c ≤ dp := by
    rcases Nat.eq_zero_or_pos (goOn zs c) with q | q
    · omega
    · obtain ⟨w1, w2⟩ := g2 q
      rw [a2, if_pos ⟨w1, by omega⟩]
      exact w2
  have hlt1 : cs.getD c 0 < cs.getD (c + 1) 0 := srt_at z1 (by omega) (by omega)
  have hel := emC_step rs p (goOn zs c) (op (goOn zs c - 1)) rs.length
  have hl1 : (ns ++ empU rs p (goOn zs c) (op (goOn zs c - 1)) rs.length).length = ns.length + (empU rs p (goOn zs c) (op (goOn zs c - 1)) rs.length).length := List.length_append
  have hem : ∀ k, ns.length ≤ k → k < (ns ++ empU rs p (goOn zs c) (op (goOn zs c - 1)) rs.length).length → ∃ i, i < rs.length ∧ ra rs i = p ∧ rb rs i = p ∧ na (ns ++ empU rs p (goOn zs c) (op (goOn zs c - 1)) rs.length) k = (i, p, p, goOn zs c, if goOn zs c = 0 then none else some (op (goOn zs c - 1))) := fun k h1 h2 => empU_in (na_r h1 h2)
  have hna : ∀ k, k < ns.length → na (ns ++ empU rs p (goOn zs c) (op (goOn zs c - 1)) rs.length) k = na ns k := fun k hk => na_l hk
  generalize hE : ns ++ empU rs p (goOn zs c) (op (goOn zs c - 1)) rs.length = ns1 at hl1 hem hna
  obtain ⟨q1, q2, q3, q4, q5⟩ := pcs_at (zs.getD c []) (cs.getD c 0) (cs.getD (c + 1) 0) (goOn zs c) ns1 op (fun j hj => by have := (a3 j (by omega)).1; omega) (zs.getD c []).length
  generalize pcs (zs.getD c []) (cs.getD c 0) (cs.getD (c + 1) 0) (goOn zs c) (zs.getD c []).length (ns1, op) = R at q1 q2 q3 q4 q5
  rw [hp] at q5 hlt1
  -- what a node now is
  have cls : ∀ k, k < R.1.length → (∃ j, j < goOn zs c ∧ k = op j ∧ k < ns.length ∧ na R.1 k = ((na ns k).1, (na ns k).2.1, cs.getD (c + 1) 0, (na ns k).2.2.2)) ∨ (k < ns.length ∧ na R.1 k = na ns k ∧ ∀ j, j < goOn zs c → k ≠ op j) ∨ (ns.length ≤ k ∧ ∃ i, i < rs.length ∧ ra rs i = p ∧ rb rs i = p ∧ na R.1 k = (i, p, p, goOn zs c, if goOn zs c = 0 then none else some (op (goOn zs c - 1)))) ∨ (∃ i, goOn zs c ≤ i ∧ i < (zs.getD c []).length ∧ k = ns1.length + (i - goOn zs c) ∧ (na R.1 k).1 = (zs.getD c []).getD i 0 ∧ (na R.1 k).2.1 = p ∧ (na R.1 k).2.2.1 = cs.getD (c + 1) 0 ∧ (na R.1 k).2.2.2.1 = i) := by
    intro k hk
    by_cases k1 : k < ns.length
    · by_cases hj : ∃ j, j < (zs.getD c []).length ∧ j < goOn zs c ∧ k = op j
      · obtain ⟨j, j1, j2, j3⟩ := hj
        refine Or.inl ⟨j, j2, j3, k1, ?_⟩
        rw [q3 k (by omega) ⟨j, j1, j2, j3⟩, hna k k1]
      · refine Or.inr (Or.inl ⟨k1, by rw [q4 k (by omega) hj, hna k k1], fun j j2 j3 => hj ⟨j, by omega, j2, j3⟩⟩)
    · by_cases k2 : k < ns1.length
      · have hj : ¬ ∃ j, j < (zs.getD c []).length ∧ j < goOn zs c ∧ k = op j := fun ⟨j, j1, j2, j3⟩ => by
          have := (a3 j (by omega)).1
          omega
        obtain ⟨i, i1, i2, i3, i4⟩ := hem k (by omega) k2
        exact Or.inr (Or.inr (Or.inl ⟨by omega, i, i1, i2, i3, by rw [q4 k k2 hj]; exact i4⟩))
      · refine Or.inr (Or.inr (Or.inr ⟨goOn zs c + (k - ns1.length), by omega, by omega, by omega, ?_⟩))
        have := q5 (goOn zs c + (k - ns1.length)) (by omega) (by omega)
        rw [show ns1.length + (goOn zs c + (k - ns1.length) - goOn zs c) = k by omega] at this
        rw [this]
        exact ⟨rfl, rfl, rfl, rfl⟩
  have hop2 : ∀ j, j < (zs.getD c []).length → R.2 j < R.1.length ∧ (na R.1 (R.2 j)).1 = (zs.getD c []).getD j 0 ∧ (na R.1 (R.2 j)).2.1 ≤ p ∧ (na R.1 (R.2 j)).2.2.1 = cs.getD (c + 1) 0 ∧ (na R.1 (R.2 j)).2.2.2.1 = j := by
    intro j hj
    rw [q2 j]
    by_cases hg : j < goOn zs c
    · rw [if_neg (by omega)]
      obtain ⟨o1, o2, o3, o4, o5, o6⟩ := a3 j (by omega)
      rw [q3 (op j) (by omega) ⟨j, hj, hg, rfl⟩, hna (op j) o1]
      refine ⟨by omega, ?_, by show (na ns (op j)).2.1 ≤ p; omega, rfl, o6⟩
      show (na ns (op j)).1 = _
      rw [o2]
      exact g3 j hg
    · rw [if_pos (by omega), q5 j (by omega) hj]
      exact ⟨by omega, rfl, Nat.le_refl _, rfl, rfl⟩
  have hz4 : ∀ j, j < (zs.getD c []).length → (zs.getD c []).getD j 0 < rs.length ∧ ra rs ((zs.getD c []).getD j 0) ≤ p ∧ cs.getD (c + 1) 0 ≤ rb rs ((zs.getD c []).getD j 0) := fun j hj => by
    obtain ⟨m1, m2, m3⟩ := (y3 _).mp (gd_mem hj)
    exact ⟨m1, by omega, z4 c _ hc m1 m2 m3⟩
  -- where an old piece ends
  have old : ∀ k, k < ns.length → (na ns k).2.1 < (na ns k).2.2.1 → (na ns k).2.2.1 ≤ p := fun k hk hlt => by
    rcases (a4 k hk hlt).2.2 with ⟨j, j1, j2⟩ | ⟨c1, c2⟩
    · have := (a3 j j1).2.2.2.2.1
      rw [← j2] at this
      omega
    · have := a1.2.1 c1
      omega
  refine ⟨⟨by omega, fun _ => by rw [Nat.add_sub_cancel]; omega, fun _ => by omega⟩, ?_, fun j hj => ?_, fun k hk hlt => ?_, fun k l hk hl hne hk1 hl1 he => ?_, fun k hk hnl => ?_, fun r hr h1 h2 => ?_, ?_⟩
  · rw [if_pos ⟨by omega, by omega⟩, Nat.add_sub_cancel]
  · obtain ⟨o1, o2, o3, o4, o5⟩ := hop2 j hj
    rw [Nat.add_sub_cancel]
    exact ⟨o1, o2, by omega, by omega, o4, o5⟩
  · rcases cls k hk with ⟨j, j1, j2, j3, j4⟩ | ⟨k1, k2, k3⟩ | ⟨k1, i, i1, i2, i3, i4⟩ | ⟨i, i1, i2, i3, i4, i5, i6, i7⟩
    · obtain ⟨o1, o2, o3, o4, o5, o6⟩ := a3 j (by omega)
      obtain ⟨w1, w2, w3⟩ := hz4 j (by omega)
      have er : (na ns k).1 = (zs.getD c []).getD j 0 := by
        rw [j2, o2]
        exact g3 j j1
      rw [← j2] at o3 o5 o6
      obtain ⟨⟨p1, p2, p3, p4⟩, _⟩ := a4 k j3 (by omega)
      refine ⟨?_, by rw [j4]; show (na ns k).2.1 < _; omega, Or.inl ⟨j, by omega, ?_⟩⟩
      · rw [j4]
        exact ⟨p1, p2, by show cs.getD (c + 1) 0 ≤ rb rs (na ns k).1; rw [er]; exact w3, p4⟩
      · rw [q2 j, if_neg (by omega)]
        exact j2
    · rw [k2] at hlt ⊢
      obtain ⟨p1, p2, p3⟩ := a4 k k1 hlt
      have := old k k1 hlt
      exact ⟨p1, by omega, Or.inr ⟨by omega, by rw [Nat.add_sub_cancel]; omega⟩⟩
    · rw [i4] at hlt
      exact absurd hlt (Nat.lt_irrefl _)
    · obtain ⟨w1, w2, w3⟩ := hz4 i i2
      refine ⟨⟨by rw [i4]; exact w1, by rw [i4, i5]; exact w2, by rw [i4, i6]; exact w3, by rw [i7]; omega⟩, by rw [i5]; omega, Or.inl ⟨i, i2, ?_⟩⟩
      rw [q2 i, if_pos (by omega)]
      exact i3
  · rcases cls k hk with ⟨j, j1, j2, j3, j4⟩ | ⟨k1, k2, k3⟩ | ⟨k1, i, i1, i2, i3, i4⟩ | ⟨i, i1, i2, i3, i4, i5, i6, i7⟩
    · obtain ⟨o1, o2, o3, o4, o5, o6⟩ := a3 j (by omega)
      rw [← j2] at o2 o3 o5
      rcases cls l hl with ⟨j', j1', j2', j3', j4'⟩ | ⟨k1', k2', k3'⟩ | ⟨k1', i', i1', i2', i3', i4'⟩ | ⟨i', i1', i2', i3', i4', i5', i6', i7'⟩
      · obtain ⟨o1', o2', o3', o4', o5', o6'⟩ := a3 j' (by omega)
        rw [← j2'] at o3' o5'
        rw [j4, j4'] at he
        have := a5 k l j3 j3' hne (by omega) (by omega) he
        omega
      · rw [k2'] at hl1 ⊢
        rw [j4, k2'] at he
        have := a5 k l j3 k1' hne (by omega) hl1 he
        rw [j4]
        have := (a4 l k1' hl1).2.1
        show cs.getD (c + 1) 0 ≤ _ ∨ _ ≤ (na ns k).2.1
        omega
      · rw [i4'] at hl1
        exact absurd hl1 (Nat.lt_irrefl _)
      · rw [j4, i4'] at he
        have he : (na ns k).1 = (zs.getD c []).getD i' 0 := he
        rw [o2, g3 j j1] at he
        have := nd_get y1 (by omega) i2' he
        omega
    · rw [k2] at hk1
      rcases cls l hl with ⟨j', j1', j2', j3', j4'⟩ | ⟨k1', k2', k3'⟩ | ⟨k1', i', i1', i2', i3', i4'⟩ | ⟨i', i1', i2', i3', i4', i5', i6', i7'⟩
      · obtain ⟨o1', o2', o3', o4', o5', o6'⟩ := a3 j' (by omega)
        rw [← j2'] at o3' o5'
        rw [k2, j4'] at he
        have := a5 k l k1 j3' hne hk1 (by omega) he
        have := (a4 k k1 hk1).2.1
        rw [k2, j4']
        show (na ns k).2.2.1 ≤ (na ns l).2.1 ∨ cs.getD (c + 1) 0 ≤ _
        omega
      · rw [k2'] at hl1
        rw [k2, k2'] at he ⊢
        exact a5 k l k1 k1' hne hk1 hl1 he
      · rw [i4'] at hl1
        exact absurd hl1 (Nat.lt_irrefl _)
      · have := old k k1 hk1
        rw [k2, i5']
        exact Or.inl this
    · rw [i4] at hk1
      exact absurd hk1 (Nat.lt_irrefl _)
    · rcases cls l hl with ⟨j', j1', j2', j3', j4'⟩ | ⟨k1', k2', k3'⟩ | ⟨k1', i', i1', i2', i3', i4'⟩ | ⟨i', i1', i2', i3', i4', i5', i6', i7'⟩
      · obtain ⟨o1', o2', o3', o4', o5', o6'⟩ := a3 j' (by omega)
        rw [← j2'] at o2'
        rw [i4, j4'] at he
        have he : (zs.getD c []).getD i 0 = (na ns l).1 := he
        rw [o2', g3 j' j1'] at he
        have := nd_get y1 i2 (by omega) he
        omega
      · rw [k2'] at hl1
        have := old l k1' hl1
        rw [k2', i5]
        exact Or.inr this
      · rw [i4'] at hl1
        exact absurd hl1 (Nat.lt_irrefl _)
      · rw [i4, i4'] at he
        have := nd_get y1 i2 i2' he
        omega
  · rcases cls k hk with ⟨j, j1, j2, j3, j4⟩ | ⟨k1, k2, k3⟩ | ⟨k1, i, i1, i2, i3, i4⟩ | ⟨i, i1, i2, i3, i4, i5, i6, i7⟩
    · obtain ⟨o1, o2, o3, o4, o5, o6⟩ := a3 j (by omega)
      rw [← j2] at o3
      rw [j4] at hnl
      have hnl : ¬ (na ns k).2.1 < cs.getD (c + 1) 0 := hnl
      omega
    · rw [k2] at hnl ⊢
      obtain ⟨e1, ⟨f, f1, f2, f3⟩, e3⟩ := a6 k k1 hnl
      refine ⟨e1, ⟨f, fun i hi => ?_, fun j hj h1 h2 => ?_, f3⟩, by omega⟩
      · obtain ⟨u1, u2, u3, u4⟩ := f1 i hi
        rcases cls (f i) (by omega) with ⟨j', j1', j2', j3', j4'⟩ | ⟨k1', k2', k3'⟩ | ⟨k1', _⟩ | ⟨i', i1', i2', i3', i4', i5', i6', i7'⟩
        · rw [j4']
          exact ⟨by omega, u2, by show _ < cs.getD (c + 1) 0; omega, u4⟩
        · rw [k2']
          exact ⟨by omega, u2, u3, u4⟩
        · omega
        · omega
      · rcases cls j hj with ⟨j', j1', j2', j3', j4'⟩ | ⟨k1', k2', k3'⟩ | ⟨k1', i', i1', i2', i3', i4'⟩ | ⟨i', i1', i2', i3', i4', i5', i6', i7'⟩
        · obtain ⟨o1', o2', o3', o4', o5', o6'⟩ := a3 j' (by omega)
          rw [← j2'] at o5'
          rw [j4'] at h1
          exact f2 j j3' h1 (by omega)
        · rw [k2'] at h1 h2
          exact f2 j k1' h1 h2
        · rw [i4'] at h1 h2
          have h1 : p < (na ns k).2.1 := h1
          omega
        · rw [i5'] at h1
          omega
    · rw [i4]
      refine ⟨⟨rfl, i1, i2, i3, by show goOn zs c ≤ 5; omega⟩, ⟨op, fun j hj => ?_, fun j hj h1 h2 => ?_, rfl⟩, by show p < p + 1; omega⟩
      · have hj : j < goOn zs c := hj
        obtain ⟨o1, o2, o3, o4, o5, o6⟩ := a3 j (by omega)
        rw [q3 (op j) (by omega) ⟨j, by omega, hj, rfl⟩, hna (op j) o1]
        exact ⟨by omega, o3, by show p < cs.getD (c + 1) 0; omega, o6⟩
      · have h1 : (na R.1 j).2.1 < p := h1
        have h2 : p < (na R.1 j).2.2.1 := h2
        rcases cls j hj with ⟨j', j1', j2', j3', j4'⟩ | ⟨k1', k2', k3'⟩ | ⟨k1', i', i1', i2', i3', i4'⟩ | ⟨i', i1', i2', i3', i4', i5', i6', i7'⟩
        · exact ⟨j', j1', j2'⟩
        · rw [k2'] at h1 h2
          have := old j k1' (by omega)
          omega
        · rw [i4'] at h1
          exact absurd h1 (Nat.lt_irrefl _)
        · omega
    · rw [i5, i6] at hnl
      exact absurd hlt1 hnl
  · rcases Nat.lt_or_ge (ra rs r) p with q | q
    · obtain ⟨k, k1, k2, k3⟩ := a7 r hr h1 q
      have hkR : k < R.1.length := by omega
      refine ⟨k, hkR, ?_⟩
      rcases cls k hkR with ⟨j', j1', j2', j3', j4'⟩ | ⟨k1', k2', k3'⟩ | ⟨k1', _⟩ | ⟨i', i1', i2', i3', i4', i5', i6', i7'⟩
      · rw [j4']
        have := (a4 k j3' k3).2.1
        exact ⟨k2, by show (na ns k).2.1 < cs.getD (c + 1) 0; omega⟩
      · rw [k2']
        exact ⟨k2, k3⟩
      · omega
      · omega
    · have hm : r ∈ zs.getD c [] := (y3 r).mpr ⟨hr, by omega, by omega⟩
      obtain ⟨j, j1, j2⟩ := mem_gd hm
      obtain ⟨o1, o2, o3, o4, o5⟩ := hop2 j j1
      exact ⟨R.2 j, o1, by rw [o2]; exact j2, by omega⟩
  · have e0 : (if c < zs.length then c else zs.length) = c := if_pos hc
    rw [e0] at a8
    have e1 : c + 1 ≤ (if c + 1 < zs.length then c + 1 else zs.length) := by split <;> omega
    omega
/-- of all nodes, ahead of each place -/
theorem ni_all {rs : List RG} {cs : List Nat} {zs : List (List Nat)} (hz : zOK rs cs zs) (hn : rs.length ≤ 8) : ∀ p, NI rs cs zs p (lnS rs cs zs p).1 (lnS rs cs zs p).2.1 (lnS rs cs zs p).2.2.1 (lnS rs cs zs p).2.2.2
  | 0 => by
    show NI rs cs zs 0 [] (fun _ => 0) 0 0
    refine ⟨⟨by omega, fun q => absurd q (Nat.lt_irrefl _), fun _ => by omega⟩, by simp, fun j hj => absurd hj (Nat.not_lt_zero _), fun k hk => absurd hk (Nat.not_lt_zero _), fun k l hk => absurd hk (Nat.not_lt_zero _), fun k hk => absurd hk (Nat.not_lt_zero _), fun r _ _ h => absurd h (Nat.not_lt_zero _), by simp⟩
  | p + 1 => by
    have ih := ni_all hz hn p
    obtain ⟨z1, z2, z3, z4, z5⟩ := hz
    have hz : zOK rs cs zs := ⟨z1, z2, z3, z4, z5⟩
    have hst : ∀ ns op dp c, lnS rs cs zs p = (ns, op, dp, c) → lnS rs cs zs (p + 1) = if c < cs.length ∧ cs.getD c 0 = p then
        (if c < zs.length then
          ((pcs (zs.getD c []) (cs.getD c 0) (cs.getD (c + 1) 0) (goOn zs c) (zs.getD c []).length (ns ++ empU rs p (goOn zs c) (op (goOn zs c - 1)) rs.length, op)).1, (pcs (zs.getD c []) (cs.getD c 0) (cs.getD (c + 1) 0) (goOn zs c) (zs.getD c []).length (ns ++ empU rs p (goOn zs c) (op (goOn zs c - 1)) rs.length, op)).2, (zs.getD c []).length, c + 1)
        else (ns ++ empU rs p (goOn zs c) (op (goOn zs c - 1)) rs.length, op, 0, c + 1))
        else (ns ++ empU rs p dp (op (dp - 1)) rs.length, op, dp, c) := fun ns op dp c e => by
      conv => lhs; unfold lnS
      rw [e]
    generalize lnS rs cs zs p = s at ih hst
    obtain ⟨ns, op, dp, c⟩ := s
    have hst := hst ns op dp c rfl
    have ih : NI rs cs zs p ns op dp c := ih
    have hh := ih
    obtain ⟨a1, a2, a3, a4, a5, a6, a7, a8⟩ := ih
    by_cases hc : c < cs.length ∧ cs.getD c 0 = p
    · rw [if_pos hc] at hst
      by_cases hcz : c < zs.length
      · rw [if_pos hcz] at hst
        rw [hst]
        exact ni_cut hz hh hn hcz hc.2
      · rw [if_neg hcz] at hst
        have eg : goOn zs c = 0 := by
          unfold goOn
          rw [if_neg (by omega)]
        rw [eg] at hst
        rw [hst]
        refine ni_emp hh 0 (c + 1) hn ⟨by omega, fun _ => by rw [Nat.add_sub_cancel]; omega, fun q => by omega⟩ (by rw [if_neg (by omega)]) (by omega) (fun j hj => absurd hj (Nat.not_lt_zero _)) (fun j hj => absurd hj (Nat.not_lt_zero _)) (fun k hk hlt => ?_) (fun r hr h1 h2 => ?_) (by rw [if_neg hcz, if_neg (by omega)]; exact Nat.le_refl _)
        · refine Or.inr ⟨by omega, ?_⟩
          rw [Nat.add_sub_cancel]
          rcases (a4 k hk hlt).2.2 with ⟨j, j1, j2⟩ | ⟨c1, c2⟩
          · have := (a3 j j1).2.2.2.2.1
            rw [← j2] at this
            omega
          · have := a1.2.1 c1
            omega
        · obtain ⟨i, i1, i2⟩ := z3 r hr h1
          have := srt_at z1 (show i < c by omega) hc.1
          omega
    · rw [if_neg hc] at hst
      rw [hst]
      have hc1 : c < cs.length → p < cs.getD c 0 := fun q => by
        have := a1.2.2 q
        have : cs.getD c 0 ≠ p := fun w => hc ⟨q, w⟩
        omega
      have hdc : 0 < dp → 1 ≤ c ∧ c - 1 < zs.length := fun q => by
        by_cases w : 1 ≤ c ∧ c - 1 < zs.length
        · exact w
        · rw [if_neg w] at a2
          omega
      refine ni_emp hh dp c hn ⟨a1.1, fun q => by have := a1.2.1 q; omega, fun q => by have := hc1 q; omega⟩ a2 ?_ a3 (fun j hj => hc1 (by have := hdc (by omega); omega)) (fun k hk hlt => ?_) (fun r hr h1 h2 => ?_) (Nat.le_refl _)
      · rw [a2]
        split
        · next w => exact (z5 _ w.2).2.1
        · omega
      · rcases (a4 k hk hlt).2.2 with q | ⟨c1, c2⟩
        · exact Or.inl q
        · have := a1.2.1 c1
          exact Or.inr ⟨c1, c2, by omega⟩
      · obtain ⟨i, i1, i2⟩ := z3 r hr h1
        rcases Nat.lt_or_ge i c with q | q
        · have h3 := srt_le z1 (show i ≤ c - 1 by omega) (by omega)
          have := a1.2.1 (by omega)
          omega
        · have h3 := srt_le z1 q (by omega)
          have := hc1 (by omega)
          omega
theorem ndT_NI {T : TS} (hw : WT T) (hnc : NC T.1) : ∃ op dp c, NI T.1 (csT T) (zsT T) (T.2.1 + 1) (ndT T) op dp c := ⟨_, _, _, ni_all (zOK_T hw hnc) hw.1.1 (T.2.1 + 1)⟩
theorem ndT_B {T : TS} (hw : WT T) (hnc : NC T.1) : ndB T.2.1 (ndT T) := by
  obtain ⟨op, dp, c, a1, a2, a3, a4, a5, a6, a7, a8⟩ := ndT_NI hw hnc
  have hn := hw.1.1
  have hzl := (zOK_T hw hnc).2.1
  have hcl : (csT T).length ≤ 16 := csT_len hw 8
  have hem : emC T.1 (T.2.1 + 1) T.1.length ≤ 8 := Nat.le_trans (smN_one _ _) hn
  refine ⟨?_, fun k hk => ?_⟩
  · have : (if c < (zsT T).length then c else (zsT T).length) ≤ 15 := by split <;> omega
    omega
  · by_cases q : (na (ndT T) k).2.1 < (na (ndT T) k).2.2.1
    · obtain ⟨⟨p1, p2, p3, p4⟩, _⟩ := a4 k hk q
      have := (hw.1.at p1).2.2
      exact ⟨by show (na (ndT T) k).1 < 8; omega, Nat.le_of_lt q, by show (na (ndT T) k).2.2.1 ≤ _; omega, by show (na (ndT T) k).2.2.2.1 ≤ 5; omega⟩
    · obtain ⟨⟨p1, p2, p3, p4, p5⟩, _⟩ := a6 k hk q
      have := (hw.1.at p2).2.2
      exact ⟨by show (na (ndT T) k).1 < 8; omega, Nat.le_of_eq p1, by show (na (ndT T) k).2.2.1 ≤ _; omega, p5⟩
