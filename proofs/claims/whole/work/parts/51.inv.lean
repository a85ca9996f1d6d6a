/-! the nodes: what holds of them ahead of every place -/
abbrev na (ns : List Nd) (k : Nat) : Nd := ns.getD k nd0
theorem na_l {ns es : List Nd} {k : Nat} (h : k < ns.length) : na (ns ++ es) k = na ns k := by
  unfold na
  rw [List.getD_eq_getElem?_getD, List.getD_eq_getElem?_getD, List.getElem?_append_left h]
theorem na_in {ns : List Nd} {k : Nat} (h : k < ns.length) : na ns k ∈ ns := by
  unfold na
  rw [List.getD_eq_getElem?_getD, List.getElem?_eq_getElem h]
  exact List.getElem_mem h
theorem na_r {ns es : List Nd} {k : Nat} (h : ns.length ≤ k) (h2 : k < (ns ++ es).length) : na (ns ++ es) k ∈ es := by
  unfold na
  rw [List.length_append] at h2
  rw [List.getD_eq_getElem?_getD, List.getElem?_append_right h, List.getElem?_eq_getElem (by omega)]
  exact List.getElem_mem (by omega)
theorem empU_in {rs : List RG} {p dp q : Nat} {x : Nd} : ∀ {n : Nat}, x ∈ empU rs p dp q n → ∃ i, i < n ∧ ra rs i = p ∧ rb rs i = p ∧ x = (i, p, p, dp, if dp = 0 then none else some q)
  | 0, h => by cases h
  | n + 1, h => by
    unfold empU at h
    rcases List.mem_append.mp h with h | h
    · obtain ⟨i, h1, h2⟩ := empU_in h
      exact ⟨i, by omega, h2⟩
    · split at h
      · next e =>
        rw [List.mem_singleton] at h
        exact ⟨n, by omega, e.2, by omega, h⟩
      · cases h
/-- pieces put down and stretched: all of what there is then -/
theorem pcs_at (x : List Nat) (b e g : Nat) (ns : List Nd) (op : Nat → Nat) (hop : ∀ j, j < g → op j < ns.length) : ∀ K,
    (pcs x b e g K (ns, op)).1.length = ns.length + (K - g) ∧
    (∀ j, (pcs x b e g K (ns, op)).2 j = if g ≤ j ∧ j < K then ns.length + (j - g) else op j) ∧
    (∀ k, k < ns.length → (∃ j, j < K ∧ j < g ∧ k = op j) → na (pcs x b e g K (ns, op)).1 k = ((na ns k).1, (na ns k).2.1, e, (na ns k).2.2.2)) ∧
    (∀ k, k < ns.length → ¬ (∃ j, j < K ∧ j < g ∧ k = op j) → na (pcs x b e g K (ns, op)).1 k = na ns k) ∧
    (∀ i, g ≤ i → i < K → na (pcs x b e g K (ns, op)).1 (ns.length + (i - g)) = (x.getD i 0, b, e, i, if i = 0 then none else some (if i - 1 < g then op (i - 1) else ns.length + (i - 1 - g))))
  | 0 => by
    refine ⟨by show ns.length = _; omega, fun j => by rw [if_neg (by omega)]; rfl, fun k hk ⟨j, h1, _⟩ => absurd h1 (Nat.not_lt_zero _), fun k hk _ => rfl, fun i h1 h2 => absurd h2 (Nat.not_lt_zero _)⟩
  | K + 1 => by
    obtain ⟨i1, i2, i3, i4, i5⟩ := pcs_at x b e g ns op hop K
    by_cases hg : g ≤ K
    · have e0 : pcs x b e g (K + 1) (ns, op) = ((pcs x b e g K (ns, op)).1 ++ [(x.getD K 0, b, e, K, if K = 0 then none else some ((pcs x b e g K (ns, op)).2 (K - 1)))], fun j => if j = K then (pcs x b e g K (ns, op)).1.length else (pcs x b e g K (ns, op)).2 j) := by
        show (if g ≤ K then _ else _) = _
        rw [if_pos hg]
      rw [e0]
      refine ⟨by show ((pcs x b e g K (ns, op)).1 ++ [_]).length = _; rw [List.length_append, i1, List.length_singleton]; omega, fun j => ?_, fun k hk hj => ?_, fun k hk hj => ?_, fun i h1 h2 => ?_⟩
      · show (if j = K then (pcs x b e g K (ns, op)).1.length else (pcs x b e g K (ns, op)).2 j) = _
        by_cases ej : j = K
        · rw [if_pos ej, if_pos (by omega), i1, ej]
        · rw [if_neg ej, i2 j]
          by_cases c : g ≤ j ∧ j < K
          · rw [if_pos c, if_pos (by omega)]
          · rw [if_neg c, if_neg (by omega)]
      · show na ((pcs x b e g K (ns, op)).1 ++ [_]) k = _
        rw [na_l (by omega)]
        obtain ⟨j, j1, j2, j3⟩ := hj
        exact i3 k hk ⟨j, by omega, j2, j3⟩
      · show na ((pcs x b e g K (ns, op)).1 ++ [_]) k = _
        rw [na_l (by omega)]
        exact i4 k hk (fun ⟨j, j1, j2, j3⟩ => hj ⟨j, by omega, j2, j3⟩)
      · show na ((pcs x b e g K (ns, op)).1 ++ [_]) (ns.length + (i - g)) = _
        by_cases ei : i = K
        · subst ei
          rw [show ns.length + (i - g) = (pcs x b e g i (ns, op)).1.length by omega]
          unfold na
          rw [nd_last, i2 (i - 1)]
          by_cases c0 : i = 0
          · rw [if_pos c0, if_pos c0]
          · rw [if_neg c0, if_neg c0]
            by_cases c : i - 1 < g
            · rw [if_neg (by omega), if_pos c]
            · rw [if_pos (by omega), if_neg c]
        · rw [na_l (by omega)]
          exact i5 i h1 (by omega)
    · have e0 : pcs x b e g (K + 1) (ns, op) = (setE (pcs x b e g K (ns, op)).1 ((pcs x b e g K (ns, op)).2 K) e, (pcs x b e g K (ns, op)).2) := by
        show (if g ≤ K then _ else _) = _
        rw [if_neg hg]
      have eK : (pcs x b e g K (ns, op)).2 K = op K := by rw [i2 K, if_neg (by omega)]
      have hK := hop K (by omega)
      rw [e0, eK]
      refine ⟨by show (setE _ _ _).length = _; rw [setE_len, i1]; omega, fun j => ?_, fun k hk hj => ?_, fun k hk hj => ?_, fun i h1 h2 => by omega⟩
      · show (pcs x b e g K (ns, op)).2 j = _
        rw [i2 j]
        by_cases c : g ≤ j ∧ j < K
        · omega
        · rw [if_neg c, if_neg (by omega)]
      · show na (setE _ _ _) k = _
        unfold na
        rw [setE_at (by omega)]
        by_cases ek : k = op K
        · rw [if_pos ek, ← ek]
          by_cases c : ∃ j, j < K ∧ j < g ∧ k = op j
          · have := i3 k hk c
            unfold na at this
            rw [this]
          · have := i4 k hk c
            unfold na at this
            rw [this]
        · rw [if_neg ek]
          obtain ⟨j, j1, j2, j3⟩ := hj
          have : j ≠ K := fun z => ek (by rw [j3, z])
          exact i3 k hk ⟨j, by omega, j2, j3⟩
      · show na (setE _ _ _) k = _
        unfold na
        rw [setE_at (by omega), if_neg (fun z => hj ⟨K, by omega, by omega, z⟩)]
        exact i4 k hk (fun ⟨j, j1, j2, j3⟩ => hj ⟨j, by omega, j2, j3⟩)
def pcOk (rs : List RG) (n : Nd) : Prop := n.1 < rs.length ∧ ra rs n.1 ≤ n.2.1 ∧ n.2.2.1 ≤ rb rs n.1 ∧ n.2.2.2.1 ≤ 4
/-- an empty one's depth and the one in which it lies next are those of the pieces around it -/
def emAt (ns : List Nd) (n : Nd) : Prop := ∃ f : Nat → Nat, (∀ i, i < n.2.2.2.1 → f i < ns.length ∧ (na ns (f i)).2.1 < n.2.1 ∧ n.2.1 < (na ns (f i)).2.2.1 ∧ (na ns (f i)).2.2.2.1 = i) ∧ (∀ j, j < ns.length → (na ns j).2.1 < n.2.1 → n.2.1 < (na ns j).2.2.1 → ∃ i, i < n.2.2.2.1 ∧ j = f i) ∧ n.2.2.2.2 = (if n.2.2.2.1 = 0 then none else some (f (n.2.2.2.1 - 1)))
def emOk (rs : List RG) (n : Nd) : Prop := n.2.1 = n.2.2.1 ∧ n.1 < rs.length ∧ ra rs n.1 = n.2.1 ∧ rb rs n.1 = n.2.1 ∧ n.2.2.2.1 ≤ 5
/-- the open ones -/
def opOk (cs : List Nat) (zs : List (List Nat)) (p : Nat) (ns : List Nd) (op : Nat → Nat) (dp c : Nat) : Prop := ∀ j, j < dp → op j < ns.length ∧ (na ns (op j)).1 = (zs.getD (c - 1) []).getD j 0 ∧ (na ns (op j)).2.1 < p ∧ (na ns (op j)).2.1 ≤ cs.getD (c - 1) 0 ∧ (na ns (op j)).2.2.1 = cs.getD c 0 ∧ (na ns (op j)).2.2.2.1 = j
def NI (rs : List RG) (cs : List Nat) (zs : List (List Nat)) (p : Nat) (ns : List Nd) (op : Nat → Nat) (dp c : Nat) : Prop :=
  (c ≤ cs.length ∧ (0 < c → cs.getD (c - 1) 0 < p) ∧ (c < cs.length → p ≤ cs.getD c 0)) ∧
  dp = (if 1 ≤ c ∧ c - 1 < zs.length then (zs.getD (c - 1) []).length else 0) ∧
  opOk cs zs p ns op dp c ∧
  (∀ k, k < ns.length → (na ns k).2.1 < (na ns k).2.2.1 → pcOk rs (na ns k) ∧ (na ns k).2.1 < p ∧ ((∃ j, j < dp ∧ k = op j) ∨ (0 < c ∧ (na ns k).2.2.1 ≤ cs.getD (c - 1) 0))) ∧
  (∀ k l, k < ns.length → l < ns.length → k ≠ l → (na ns k).2.1 < (na ns k).2.2.1 → (na ns l).2.1 < (na ns l).2.2.1 → (na ns k).1 = (na ns l).1 → (na ns k).2.2.1 ≤ (na ns l).2.1 ∨ (na ns l).2.2.1 ≤ (na ns k).2.1) ∧
  (∀ k, k < ns.length → ¬ (na ns k).2.1 < (na ns k).2.2.1 → emOk rs (na ns k) ∧ emAt ns (na ns k) ∧ (na ns k).2.1 < p) ∧
  (∀ r, r < rs.length → ra rs r < rb rs r → ra rs r < p → ∃ k, k < ns.length ∧ (na ns k).1 = r ∧ (na ns k).2.1 < (na ns k).2.2.1) ∧
  ns.length ≤ 5 * (if c < zs.length then c else zs.length) + emC rs p rs.length
/-- empty ones come, nothing else: not at a cut, or at the last one -/
theorem ni_emp {rs : List RG} {cs : List Nat} {zs : List (List Nat)} {p : Nat} {ns : List Nd} {op : Nat → Nat} {dp c : Nat} (h : NI rs cs zs p ns op dp c) (d2 c2 : Nat) (hn : rs.length ≤ 8)
    (hA : c2 ≤ cs.length ∧ (0 < c2 → cs.getD (c2 - 1) 0 < p + 1) ∧ (c2 < cs.length → p + 1 ≤ cs.getD c2 0)) (hB : d2 = (if 1 ≤ c2 ∧ c2 - 1 < zs.length then (zs.getD (c2 - 1) []).length else 0)) (hd : d2 ≤ 5)
    (hO : opOk cs zs p ns op d2 c2) (hO2 : ∀ j, j < d2 → p < cs.getD c2 0)
    (hP : ∀ k, k < ns.length → (na ns k).2.1 < (na ns k).2.2.1 → (∃ j, j < d2 ∧ k = op j) ∨ (0 < c2 ∧ (na ns k).2.2.1 ≤ cs.getD (c2 - 1) 0 ∧ (na ns k).2.2.1 ≤ p))
    (hR : ∀ r, r < rs.length → ra rs r < rb rs r → ra rs r ≠ p) (hL : (if c < zs.length then c else zs.length) ≤ (if c2 < zs.length then c2 else zs.length)) :
    NI rs cs zs (p + 1) (ns ++ empU rs p d2 (op (d2 - 1)) rs.length) op d2 c2 := by
  obtain ⟨a1, a2, a3, a4, a5, a6, a7, a8⟩ := h
  have hem : ∀ k, ns.length ≤ k → k < (ns ++ empU rs p d2 (op (d2 - 1)) rs.length).length → ∃ i, i < rs.length ∧ ra rs i = p ∧ rb rs i = p ∧ na (ns ++ empU rs p d2 (op (d2 - 1)) rs.length) k = (i, p, p, d2, if d2 = 0 then none else some (op (d2 - 1))) := fun k h1 h2 => empU_in (na_r h1 h2)
  have hlt : ∀ k, k < (ns ++ empU rs p d2 (op (d2 - 1)) rs.length).length → (na (ns ++ empU rs p d2 (op (d2 - 1)) rs.length) k).2.1 < (na (ns ++ empU rs p d2 (op (d2 - 1)) rs.length) k).2.2.1 → k < ns.length := fun k h1 h2 => by
    rcases Nat.lt_or_ge k ns.length with q | q
    · exact q
    · obtain ⟨i, _, _, _, e⟩ := hem k q h1
      rw [e] at h2
      exact absurd h2 (Nat.lt_irrefl _)
  have hle : ns.length ≤ (ns ++ empU rs p d2 (op (d2 - 1)) rs.length).length := by
    rw [List.length_append]
    omega
  refine ⟨hA, hB, fun j hj => ?_, fun k hk hlt2 => ?_, fun k l hk hl hne h1 h2 h3 => ?_, fun k hk hnl => ?_, fun r hr h1 h2 => ?_, ?_⟩
  · obtain ⟨o1, o2, o3, o4⟩ := hO j hj
    rw [na_l o1]
    exact ⟨by omega, o2, by omega, o4⟩
  · have hk2 := hlt k hk hlt2
    rw [na_l hk2] at hlt2 ⊢
    obtain ⟨p1, p2, _⟩ := a4 k hk2 hlt2
    refine ⟨p1, by omega, ?_⟩
    rcases hP k hk2 hlt2 with q | q
    · exact Or.inl q
    · exact Or.inr ⟨q.1, q.2.1⟩
  · have hk2 := hlt k hk h1
    have hl2 := hlt l hl h2
    rw [na_l hk2] at h1 h3 ⊢
    rw [na_l hl2] at h2 h3 ⊢
    exact a5 k l hk2 hl2 hne h1 h2 h3
  · rcases Nat.lt_or_ge k ns.length with q | q
    · rw [na_l q] at hnl ⊢
      obtain ⟨e1, ⟨f, f1, f2, f3⟩, e3⟩ := a6 k q hnl
      refine ⟨e1, ⟨f, fun i hi => ?_, fun j hj h1 h2 => ?_, f3⟩, by omega⟩
      · obtain ⟨g1, g2⟩ := f1 i hi
        rw [na_l g1]
        exact ⟨by omega, g2⟩
      · have hj2 := hlt j hj (by omega)
        rw [na_l hj2] at h1 h2
        exact f2 j hj2 h1 h2
    · obtain ⟨i, i1, i2, i3, i4⟩ := hem k q hk
      rw [i4]
      refine ⟨⟨rfl, i1, i2, i3, hd⟩, ⟨op, fun j hj => ?_, fun j hj h1 h2 => ?_, rfl⟩, by show p < p + 1; omega⟩
      · obtain ⟨o1, o2, o3, o4, o5, o6⟩ := hO j hj
        rw [na_l o1]
        have := hO2 j hj
        exact ⟨by omega, o3, by show p < _; omega, o6⟩
      · have h1 : (na (ns ++ empU rs p d2 (op (d2 - 1)) rs.length) j).2.1 < p := h1
        have h2 : p < (na (ns ++ empU rs p d2 (op (d2 - 1)) rs.length) j).2.2.1 := h2
        have hj2 := hlt j hj (by omega)
        rw [na_l hj2] at h1 h2
        rcases hP j hj2 (by omega) with w | w
        · exact w
        · omega
  · have := hR r hr h1
    obtain ⟨k, k1, k2, k3⟩ := a7 r hr h1 (by omega)
    exact ⟨k, by omega, by rw [na_l k1]; exact k2, by rw [na_l k1]; exact k3⟩
  · rw [emC_step rs p d2 (op (d2 - 1)) rs.length, List.length_append]
    omega
