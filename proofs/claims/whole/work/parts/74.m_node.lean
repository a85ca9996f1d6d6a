/-! the reference: nodes -/
def NdF (μ : Mem) (m n : Nat) (F : Nat → Nd) : Prop := μ.1 m 18 = nI n ∧ ∀ k, k < n → μ.1 (m + 15) k = nI (F k).1 ∧ μ.1 (m + 16) k = nI (F k).2.1 ∧ μ.1 (m + 17) k = nI (F k).2.2.1 ∧ μ.1 (m + 18) k = nI (F k).2.2.2.1 ∧ μ.1 (m + 19) k = oI (F k).2.2.2.2
theorem NdF.eq {μ : Mem} {m n : Nat} {F H : Nat → Nd} (h : NdF μ m n F) (he : ∀ k, k < n → F k = H k) : NdF μ m n H := ⟨h.1, fun k hk => by rw [← he k hk]; exact h.2 k hk⟩
theorem NdF.fr {μ μ1 : Mem} {m n : Nat} {F : Nat → Nd} {S P : List Nat} (h : NdF μ m n F) (hf : FM m S P μ μ1) (h1 : ∀ b ∈ [m + 15, m + 16, m + 17, m + 18, m + 19], b ∉ S) (h2 : 18 ∉ P) : NdF μ1 m n F := by
  refine ⟨by rw [hf.2.1 18 h2]; exact h.1, fun k hk => ?_⟩
  rw [hf.1 (m + 15) (by omega) (h1 _ (by simp)), hf.1 (m + 16) (by omega) (h1 _ (by simp)), hf.1 (m + 17) (by omega) (h1 _ (by simp)), hf.1 (m + 18) (by omega) (h1 _ (by simp)), hf.1 (m + 19) (by omega) (h1 _ (by simp))]
  exact h.2 k hk
def nnS (m : Nat) : List Nat := [m + 15, m + 16, m + 17, m + 18, m + 19]
theorem mComesNode_ok {lay : List Nat} (hwf : wfB lay = true) (d : Nat) {μ : Mem} {m n r b e dp : Nat} {o : Option Nat} {F : Nat → Nd} (hN : NdF μ m n F) (hn : n < 128) : Rn lay d mM_comesNode [rf 16 m, vi (nI r), vi (nI b), vi (nI e), vi (nI dp), vi (oI o)] μ (Pn fun μ1 => NdF μ1 m (n + 1) (fun k => if k = n then (r, b, e, dp, o) else F k) ∧ FM m (nnS m) [18] μ μ1) := by
  obtain ⟨h1, h2⟩ := hN
  have hv : vp_in (nI n) 128 := vin hn (by omega)
  refine Rn_intro ok_M_comesNode hwf rfl (fun G hC => g_M_comesNode_0 hC ?_)
  rw [h1, nx_cl (by omega)]
  refine ⟨hv, g_M_comesNode_10 hC ?_⟩
  rw [up_n1 (by omega), h1, nx_cl (by omega)]
  refine ⟨hv, g_M_comesNode_20 hC ?_⟩
  simp (disch := omega) only [up_n1, h1, nx_cl]
  refine ⟨hv, g_M_comesNode_30 hC ?_⟩
  simp (disch := omega) only [up_n1, h1, nx_cl]
  refine ⟨hv, g_M_comesNode_41 hC ?_⟩
  simp (disch := omega) only [up_n1, h1, nx_cl]
  refine ⟨hv, g_M_comesNode_52 hC ?_⟩
  simp (disch := omega) only [up_n1, h1, nI_add]
  refine ⟨rfl, ⟨by rw [up_at], fun k hk => ?_⟩, ((((((FM.rf _ _ _ _).up (by simp [nnS]) (by omega)).up (by simp [nnS]) (by omega)).up (by simp [nnS]) (by omega)).up (by simp [nnS]) (by omega)).up (by simp [nnS]) (by omega)).upf (by simp)⟩
  dsimp only
  by_cases ek : k = n
  · subst ek
    rw [if_pos rfl]
    simp (disch := omega) only [up_n1, up_at, and_self]
  · rw [if_neg ek]
    simp (disch := omega) only [up_n1, up_n2]
    exact h2 k (by omega)
/-- an empty one, ahead of the look at what it lies in -/
def stp (n : Nd) : Nd := if n.2.1 < n.2.2.1 then n else (n.1, n.2.1, n.2.2.1, 0, none)
theorem mComesEmpty_ok {lay : List Nat} (hwf : wfB lay = true) (d : Nat) {μ : Mem} {m p dp q : Nat} {T : TS} {ns : List Nd} (hT : MTe μ m T) (hw : WT T) (hp : p ≤ 90) (hN : NdF μ m ns.length (fun k => stp (na ns k))) (hl : ns.length + T.1.length ≤ 128) : Rn lay (d + 1) mM_comesEmpty [rf 16 m, vi (nI p)] μ (Pn fun μ1 => NdF μ1 m (ns ++ empU T.1 p dp q T.1.length).length (fun k => stp (na (ns ++ empU T.1 p dp q T.1.length) k)) ∧ FM m (nnS m) [18] μ μ1) := by
  have hn := hw.1.1
  have hL := hw.2.1
  refine Rn_intro ok_M_comesEmpty hwf rfl (fun G hC => g_M_comesEmpty_0 hC ?_)
  have loop : ∀ k i (μ' : Mem), i + k = T.1.length → NdF μ' m (ns ++ empU T.1 p dp q i).length (fun k => stp (na (ns ++ empU T.1 p dp q i) k)) → FM m (nnS m) [18] μ μ' → G 2 [rf 16 m, vi (nI p), vi (nI i)] [] μ' := by
    intro k
    induction k with
    | zero =>
      intro i μ' hi hN' hf
      have hT' : MTe μ' m T := hT.fr hf (by simp [nnS]) (by simp)
      refine g_M_comesEmpty_2 hC ?_
      rw [hT'.1, nx_le (by omega) (by omega)]
      rw [show i = T.1.length by omega] at hN'
      exact ⟨fun _ => ⟨rfl, hN', hf⟩, fun z => absurd (by omega) z⟩
    | succ k ih =>
      intro i μ' hi hN' hf
      have hT' : MTe μ' m T := hT.fr hf (by simp [nnS]) (by simp)
      have hil : i < T.1.length := by omega
      obtain ⟨e1, e2, e3⟩ := hT'.2.2.1 i hil
      obtain ⟨b1, b2, b3⟩ := hw.1.at hil
      have hel := empU_len T.1 p dp q i
      have ee : empU T.1 p dp q (i + 1) = empU T.1 p dp q i ++ (if ra T.1 i = rb T.1 i ∧ ra T.1 i = p then [(i, p, p, dp, if dp = 0 then none else some q)] else []) := rfl
      have ih := ih (i + 1)
      rw [ee] at ih
      have nope : ¬ (ra T.1 i = rb T.1 i ∧ ra T.1 i = p) → G 2 [rf 16 m, vi (nI p), vi (nI (i + 1))] [] μ' := fun w => by
        rw [if_neg w, List.append_nil] at ih
        exact ih μ' (by omega) hN' hf
      refine g_M_comesEmpty_2 hC ?_
      rw [hT'.1, nx_le (by omega) (by omega), nI_add]
      refine ⟨fun z => absurd z (by omega), fun _ => useV (mIsEmpty_T hwf d hT' hw hil) ?_⟩
      rw [bI_eq0, nx_cl (by omega), e2, nx_eq (by omega) (by omega)]
      refine ⟨fun z => nope (fun w => z w.1), fun z => ⟨vin (by omega) (by omega), fun z2 => nope (fun w => z2 w.2), fun z2 => ?_⟩⟩
      have hcn := mComesNode_ok hwf d (r := i) (b := p) (e := p) (dp := 0) (o := none) hN' (by rw [List.length_append]; omega)
      refine useN hcn (fun μ1 hp1 => ?_)
      obtain ⟨p1, p2⟩ := hp1
      rw [if_pos ⟨Classical.not_not.mp z, z2⟩, ← List.append_assoc] at ih
      refine ih μ1 (by omega) ?_ (hf.tr p2)
      rw [List.length_append (bs := [_]), List.length_singleton]
      refine p1.eq (fun k hk => ?_)
      by_cases ek : k = (ns ++ empU T.1 p dp q i).length
      · rw [if_pos ek, ek]
        unfold na
        rw [nd_last]
        unfold stp
        rw [if_neg (by show ¬ p < p; omega)]
      · rw [if_neg ek, na_l (ns := ns ++ empU T.1 p dp q i) (by omega)]
  refine loop T.1.length 0 μ (by omega) ?_ (FM.rf _ _ _ _)
  show NdF μ m (ns ++ []).length (fun k => stp (na (ns ++ []) k))
  rw [List.append_nil]
  exact hN
theorem stp_pc {n : Nd} (h : n.2.1 < n.2.2.1) : stp n = n := if_pos h
def noS (m : Nat) : List Nat := [m + 15, m + 16, m + 17, m + 18, m + 19, m + 20]
theorem NeM.fr {μ μ1 : Mem} {m : Nat} {rk : Nat → Nat} {cs cv S F : List Nat} (h : NeM μ m rk cs cv) (hf : FM m S F μ μ1) (h1 : ∀ b ∈ neS m, b ∉ S) (h2 : 9 ∉ F) : NeM μ1 m rk cs cv := by
  obtain ⟨⟨a, b, c⟩, e, f⟩ := h
  unfold neS at h1
  refine ⟨⟨⟨by rw [hf.2.1 9 h2]; exact a.1, fun i hi => by rw [hf.1 (m + 7) (by omega) (h1 _ (by simp))]; exact a.2 i hi⟩, fun i hi => by rw [hf.1 (m + 8) (by omega) (h1 _ (by simp))]; exact b i hi, fun s h2 h3 => ?_⟩, e.fr hf ⟨h1 _ (by simp), h1 _ (by simp)⟩, fun s hs => by rw [hf.1 (m + 13) (by omega) (h1 _ (by simp))]; exact f s hs⟩
  obtain ⟨u, v⟩ := c s h2 h3
  exact ⟨by rw [hf.1 (m + 9) (by omega) (h1 _ (by simp))]; exact u, fun i hi => by rw [hf.1 (m + 10) (by omega) (h1 _ (by simp))]; exact v i hi⟩
theorem mPieces_ok {lay : List Nat} (hwf : wfB lay = true) (d : Nat) {μ : Mem} {m s : Nat} {T : TS} {ns : List Nd} {op : Nat → Nat} (hT : MTe μ m T) (hw : WT T) (hnc : NC T.1) (hNe : NeM μ m (rkO T) (csT T) (cvT T)) (hs : s < (cvT T).length) (hN : NdF μ m ns.length (fun k => stp (na ns k))) (hl : ns.length + 5 ≤ 128)
    (hop : ∀ j, j < goOn (zsT T) s → op j < ns.length ∧ μ.1 (m + 20) (((zsT T).getD s []).getD j 0) = nI (op j) ∧ (na ns (op j)).2.1 < (na ns (op j)).2.2.1 ∧ (na ns (op j)).2.1 < (csT T).getD (s + 1) 0) (hne : 0 < goOn (zsT T) s → 0 < s) :
    Rn lay (d + 4) mM_comesPieces [rf 16 m, vi (nI s)] μ (Pn fun μ1 => NdF μ1 m (pcs ((zsT T).getD s []) ((csT T).getD s 0) ((csT T).getD (s + 1) 0) (goOn (zsT T) s) ((zsT T).getD s []).length (ns, op)).1.length (fun k => stp (na (pcs ((zsT T).getD s []) ((csT T).getD s 0) ((csT T).getD (s + 1) 0) (goOn (zsT T) s) ((zsT T).getD s []).length (ns, op)).1 k)) ∧ (∀ j, j < ((zsT T).getD s []).length → μ1.1 (m + 20) (((zsT T).getD s []).getD j 0) = nI ((pcs ((zsT T).getD s []) ((csT T).getD s 0) ((csT T).getD (s + 1) 0) (goOn (zsT T) s) ((zsT T).getD s []).length (ns, op)).2 j)) ∧ FM m (noS m) [18] μ μ1) := by
  have hn := hw.1.1
  obtain ⟨hcl, hvl, hok, hrk⟩ := nest_f hw hnc
  obtain ⟨z1, z2⟩ := zs_ok hw hnc hs
  have hzl : (zsT T).length = (cvT T).length := by unfold zsT; exact chs_len _ _ _ _
  have hlen := z1.len
  have hz5 := z2.1
  obtain ⟨g1, g2, g3⟩ := goOn_z (show s < (zsT T).length by omega)
  have hz8 : ∀ j, ((zsT T).getD s []).getD j 0 < 8 := gd8 (fun r hr => (z1.2 r |>.mp hr).1)
  have hnd := z1.1
  have hlt1 : (csT T).getD s 0 < (csT T).getD (s + 1) 0 := srt_at (cutU_srt T.1 8 T.1.length) (by omega) (show s + 1 < (csT T).length by omega)
  obtain ⟨q1, q2, q3, q4, q5⟩ := pcs_at ((zsT T).getD s []) ((csT T).getD s 0) ((csT T).getD (s + 1) 0) (goOn (zsT T) s) ns op (fun j hj => (hop j hj).1) ((zsT T).getD s []).length
  have halk : 0 < s → goOn (zsT T) s = alk ((zsT T).getD (s - 1) []) ((zsT T).getD s []) := fun h0 => by
    unfold goOn
    rw [if_pos ⟨h0, by omega⟩]
  have hg0 : s = 0 → goOn (zsT T) s = 0 := fun h0 => by
    unfold goOn
    rw [if_neg (by omega)]
  refine Rn_intro ok_M_comesPieces hwf rfl (fun G hC => g_M_comesPieces_0 hC ?_)
  generalize pcs ((zsT T).getD s []) ((csT T).getD s 0) ((csT T).getD (s + 1) 0) (goOn (zsT T) s) ((zsT T).getD s []).length (ns, op) = R at q1 q2 q3 q4 q5 hC
  -- the ones that go on are stretched
  have l149 : ∀ k i (μ' : Mem), i + k = goOn (zsT T) s → μ'.1 m 18 = nI R.1.length → (∀ q, q < R.1.length → μ'.1 (m + 15) q = nI (stp (na R.1 q)).1 ∧ μ'.1 (m + 16) q = nI (stp (na R.1 q)).2.1 ∧ ((∀ j, i ≤ j → j < goOn (zsT T) s → q ≠ op j) → μ'.1 (m + 17) q = nI (stp (na R.1 q)).2.2.1) ∧ μ'.1 (m + 18) q = nI (stp (na R.1 q)).2.2.2.1 ∧ μ'.1 (m + 19) q = oI (stp (na R.1 q)).2.2.2.2) → (∀ j, j < ((zsT T).getD s []).length → μ'.1 (m + 20) (((zsT T).getD s []).getD j 0) = nI (R.2 j)) → NeM μ' m (rkO T) (csT T) (cvT T) → FM m (noS m) [18] μ μ' → G 149 [rf 16 m, vi (nI s), vi (nI (goOn (zsT T) s)), un, vi (nI i), un, un] [] μ' := by
    intro k
    induction k with
    | zero =>
      intro i μ' hi h18 hN' ho hNe' hf
      refine g_M_comesPieces_149 hC ?_
      rw [nx_le (by omega) (by omega)]
      refine ⟨fun _ => ⟨rfl, ⟨h18, fun q hq => ?_⟩, ho, hf⟩, fun z => absurd (by omega) z⟩
      obtain ⟨a1, a2, a3, a4, a5⟩ := hN' q hq
      exact ⟨a1, a2, a3 (fun j j1 j2 => by omega), a4, a5⟩
    | succ k ih =>
      intro i μ' hi h18 hN' ho hNe' hf
      have hig : i < goOn (zsT T) s := by omega
      obtain ⟨o1, o2, o3, o4⟩ := hop i hig
      have er2 : R.2 i = op i := by rw [q2 i, if_neg (by omega)]
      have hoi := ho i (by omega)
      rw [er2] at hoi
      refine g_M_comesPieces_149 hC ?_
      rw [nx_le (by omega) (by omega)]
      refine ⟨fun z => absurd z (by omega), fun _ => useV (mStackAt_ok hwf _ hw hnc hNe' hs (by omega)) ?_⟩
      have hzi := hz8 i
      rw [nx_cl (by omega), hoi, nx_cl (by omega), nI_add, nI_add, nx_cl (by omega), hNe'.1.1.2 (s + 1) (by omega)]
      refine ⟨vin (by omega) (by omega), vin (by omega) (by omega), vin (by omega) (by omega), ?_⟩
      refine ih (i + 1) _ (by omega) (by rw [up_n1 (by omega)]; exact h18) (fun q hq => ?_) (fun j hj => by rw [up_n1 (by omega)]; exact ho j hj) (hNe'.fr (S := [m + 17]) (F := []) ((FM.rf _ _ _ _).up (by simp) (by omega)) (by simp [neS]) (by simp)) (hf.up (by simp [noS]) (by omega))
      obtain ⟨a1, a2, a3, a4, a5⟩ := hN' q hq
      refine ⟨by rw [up_n1 (by omega)]; exact a1, by rw [up_n1 (by omega)]; exact a2, fun w => ?_, by rw [up_n1 (by omega)]; exact a4, by rw [up_n1 (by omega)]; exact a5⟩
      by_cases eq : q = op i
      · subst eq
        have h3 := q3 (op i) o1 ⟨i, by omega, hig, rfl⟩
        rw [up_at, h3, stp_pc (by show (na ns (op i)).2.1 < (csT T).getD (s + 1) 0; exact o4)]
      · rw [up_n2 eq]
        refine a3 (fun j j1 j2 j3 => ?_)
        rcases Nat.lt_or_eq_of_le j1 with v | v
        · exact w j v j2 j3
        · exact eq (by rw [j3, v])
  -- new pieces come
  have l65 : ∀ k i (μ' : Mem), i + k = ((zsT T).getD s []).length → goOn (zsT T) s ≤ i → NdF μ' m (ns.length + (i - goOn (zsT T) s)) (fun q => if q < ns.length then stp (na ns q) else na R.1 q) → (∀ j, j < i → μ'.1 (m + 20) (((zsT T).getD s []).getD j 0) = nI (R.2 j)) → NeM μ' m (rkO T) (csT T) (cvT T) → FM m (noS m) [18] μ μ' → G 65 [rf 16 m, vi (nI s), vi (nI (goOn (zsT T) s)), vi (nI ((zsT T).getD s []).length), vi (nI i), un, un] [] μ' := by
    intro k
    induction k with
    | zero =>
      intro i μ' hi hgi hN' ho hNe' hf
      refine g_M_comesPieces_65 hC ?_
      rw [nx_le (by omega) (by omega)]
      refine ⟨fun _ => ?_, fun z => absurd (by omega) z⟩
      have ei : i = ((zsT T).getD s []).length := by omega
      subst ei
      rw [← q1] at hN'
      refine l149 (goOn (zsT T) s) 0 μ' (by omega) hN'.1 (fun q hq => ?_) ho hNe' hf
      have hq5 := hN'.2 q hq
      dsimp only at hq5
      by_cases w : q < ns.length
      · rw [if_pos w] at hq5
        by_cases w2 : ∃ j, j < goOn (zsT T) s ∧ q = op j
        · obtain ⟨j, j1, j2⟩ := w2
          obtain ⟨o1, o2, o3, o4⟩ := hop j j1
          have h3 := q3 q w ⟨j, by omega, j1, j2⟩
          rw [stp_pc (by rw [j2]; exact o3)] at hq5
          rw [h3, stp_pc (by show (na ns q).2.1 < (csT T).getD (s + 1) 0; rw [j2]; exact o4)]
          exact ⟨hq5.1, hq5.2.1, fun u => absurd j2 (u j (by omega) j1), hq5.2.2.2.1, hq5.2.2.2.2⟩
        · rw [q4 q w (fun ⟨j, _, j2, j3⟩ => w2 ⟨j, j2, j3⟩)]
          exact ⟨hq5.1, hq5.2.1, fun _ => hq5.2.2.1, hq5.2.2.2.1, hq5.2.2.2.2⟩
      · rw [if_neg w] at hq5
        have := q5 (goOn (zsT T) s + (q - ns.length)) (by omega) (by omega)
        rw [show ns.length + (goOn (zsT T) s + (q - ns.length) - goOn (zsT T) s) = q by omega] at this
        rw [stp_pc (by rw [this]; exact hlt1)]
        exact ⟨hq5.1, hq5.2.1, fun _ => hq5.2.2.1, hq5.2.2.2.1, hq5.2.2.2.2⟩
    | succ k ih =>
      intro i μ' hi hgi hN' ho hNe' hf
      have hil : i < ((zsT T).getD s []).length := by omega
      have hzi := hz8 i
      have er2 : R.2 i = ns.length + (i - goOn (zsT T) s) := by rw [q2 i, if_pos (by omega)]
      have h5 := q5 i hgi hil
      have hc1 := hNe'.1.1.2 s (by omega)
      have hc2 := hNe'.1.1.2 (s + 1) (by omega)
      -- once it is known in which one it lies
      have beh : ∀ (o : Option Nat) (μ3 : Mem), o = (if i = 0 then none else some (if i - 1 < goOn (zsT T) s then op (i - 1) else ns.length + (i - 1 - goOn (zsT T) s))) → μ3 = upI μ' (m + 20) (((zsT T).getD s []).getD i 0) (nI (ns.length + (i - goOn (zsT T) s))) → (∃ P137 : PT, Rn lay (d + 3) mM_comesNode [rf 16 m, vi (nI (((zsT T).getD s []).getD i 0)), vi (nI ((csT T).getD s 0)), vi (nI ((csT T).getD (s + 1) 0)), vi (nI i), vi (oI o)] μ3 P137 ∧ ∀ μ137 : Mem, P137 none μ137 → G 65 [rf 16 m, vi (nI s), vi (nI (goOn (zsT T) s)), vi (nI ((zsT T).getD s []).length), vi (nI i + nI 1), un, un] [] μ137) := by
        intro o μ3 ho2 hμ
        have f3 : FM m [m + 20] [] μ' μ3 := by rw [hμ]; exact (FM.rf _ _ _ _).up (by simp) (by omega)
        refine useN (mComesNode_ok hwf _ (hN'.fr f3 (by simp) (by simp)) (by omega)) (fun μ4 hp => ?_)
        obtain ⟨p1, p2⟩ := hp
        rw [nI_add]
        refine ih (i + 1) μ4 (by omega) (by omega) ?_ (fun j hj => ?_) ((hNe'.fr f3 (by simp [neS]) (by simp)).fr p2 (by simp [neS, nnS]) (by simp)) ((hf.tr (f3.mono (by simp [noS]) (by simp))).tr (p2.mono (by simp [noS, nnS]) (by simp)))
        · rw [show ns.length + (i + 1 - goOn (zsT T) s) = ns.length + (i - goOn (zsT T) s) + 1 by omega]
          refine p1.eq (fun q hq => ?_)
          by_cases eq : q = ns.length + (i - goOn (zsT T) s)
          · rw [if_pos eq, if_neg (by omega), eq, h5, ho2]
          · rw [if_neg eq]
        · rw [p2.1 (m + 20) (by omega) (by simp [nnS]), hμ]
          by_cases ej : j = i
          · rw [ej, up_at, er2]
          · rw [up_n2 (fun w => ej (nd_get hnd (by omega) hil w))]
            exact ho j (by omega)
      refine g_M_comesPieces_65 hC ?_
      rw [nx_le (by omega) (by omega)]
      refine ⟨fun z => absurd z (by omega), fun _ => useV (mStackAt_ok hwf _ hw hnc hNe' hs hil) ?_⟩
      rw [nx_0, nx_eq (by omega) (by omega)]
      refine ⟨fun z => ?_, fun z => ?_⟩
      · rw [nx_sub (by omega)]
        refine useV (mStackAt_ok hwf _ hw hnc hNe' hs (show i - 1 < ((zsT T).getD s []).length by omega)) ?_
        have hzi2 := hz8 (i - 1)
        have ho1 := ho (i - 1) (by omega)
        simp (disch := omega) only [nx_cl, nI_add s 1, up_n1, hN'.1, hc1, hc2, ho1]
        refine ⟨vin (by omega) (by omega), vin (by omega) (by omega), vin (by omega) (by omega), vin (by omega) (by omega), ?_⟩
        have := beh (some (R.2 (i - 1))) _ (by
          rw [if_neg z, q2 (i - 1)]
          by_cases w : i - 1 < goOn (zsT T) s
          · rw [if_neg (by omega), if_pos w]
          · rw [if_pos (by omega), if_neg w]) rfl
        exact this
      · simp (disch := omega) only [nx_cl, nI_add s 1, up_n1, hN'.1, hc1, hc2]
        refine ⟨vin (by omega) (by omega), vin (by omega) (by omega), vin (by omega) (by omega), ?_⟩
        exact beh none _ (by rw [if_pos z]) rfl
  -- the open ones of the section ahead
  have l18 : ∀ k i (μ' : Mem), i + k = T.1.length → (∀ j, j < goOn (zsT T) s → μ'.1 (m + 20) (((zsT T).getD s []).getD j 0) = nI (op j)) → FM m [m + 20] [] μ μ' → G 18 [rf 16 m, vi (nI s), vi (nI (goOn (zsT T) s)), vi (nI i), un, un, un] [] μ' := by
    intro k
    induction k with
    | zero =>
      intro i μ' hi ho hf
      have hT' : MTe μ' m T := hT.fr hf (by simp) (by simp)
      have hNe' := hNe.fr hf (by simp [neS]) (by simp)
      refine g_M_comesPieces_18 hC ?_
      rw [hT'.1, nx_le (by omega) (by omega)]
      refine ⟨fun _ => ?_, fun z => absurd (by omega) z⟩
      refine g_M_comesPieces_52 hC ?_
      rw [nx_cl (by omega), hNe'.1.2.1 s hs]
      refine ⟨vin (by omega) (by omega), useV (mBits_ok hwf _ (hok.at hs).1 μ') ?_⟩
      rw [← hlen]
      refine l65 (((zsT T).getD s []).length - goOn (zsT T) s) (goOn (zsT T) s) μ' (by omega) (Nat.le_refl _) ?_ (fun j hj => ?_) hNe' (hf.mono (by simp [noS]) (by simp))
      · rw [Nat.sub_self, Nat.add_zero]
        refine (hN.fr hf (by simp) (by simp)).eq (fun q hq => ?_)
        rw [if_pos hq]
      · rw [q2 j, if_neg (by omega)]
        exact ho j hj
    | succ k ih =>
      intro i μ' hi ho hf
      have hT' : MTe μ' m T := hT.fr hf (by simp) (by simp)
      refine g_M_comesPieces_18 hC ?_
      rw [hT'.1, nx_le (by omega) (by omega), nx_0, nx_eq (by omega) (by omega), nx_cl (by omega), nI_add]
      have hv : vp_in (nI i) 8 := vin (by omega) (by omega)
      refine ⟨fun z => absurd z (by omega), fun _ => ⟨fun z => ⟨hv, hv, ih (i + 1) _ (by omega) (fun j hj => ?_) (hf.up (by simp) (by omega))⟩, fun z => ⟨hv, ih (i + 1) _ (by omega) (fun j hj => ?_) (hf.up (by simp) (by omega))⟩⟩⟩
      · by_cases e : ((zsT T).getD s []).getD j 0 = i
        · rw [e, up_at, ← e]
          exact ho j hj
        · rw [up_n2 e]
          exact ho j hj
      · rw [hg0 z] at hj
        omega
  rw [nx_0, nx_eq (by omega) (by omega)]
  refine ⟨fun z => ?_, fun z => ?_⟩
  · obtain ⟨s', hs'⟩ : ∃ s', s = s' + 1 := ⟨s - 1, by omega⟩
    have := mAlikeAt_ok hwf d hw hnc hNe (s := s - 1) (by omega)
    rw [show s - 1 + 1 = s by omega, ← halk (by omega)] at this
    rw [nx_sub (by omega)]
    refine useV this (l18 T.1.length 0 μ (by omega) (fun j hj => (hop j hj).2.1) (FM.rf _ _ _ _))
  · have := l18 T.1.length 0 μ (by omega) (fun j hj => (hop j hj).2.1) (FM.rf _ _ _ _)
    rw [hg0 z] at this
    exact this
