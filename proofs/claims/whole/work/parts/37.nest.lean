/-! Nest: nodes (range, from, to, depth, the one in which it lies next) -/
abbrev Nd : Type := Nat × Nat × Nat × Nat × Option Nat
def nd0 : Nd := (0, 0, 0, 0, none)
def oI (x : Option Nat) : Int32 := match x with
  | none => mI 0
  | some k => nI k
def NdAt (μ : Mem) (o : Nat) (ns : List Nd) : Prop := μ.1 o 8 = nI ns.length ∧ ∀ k, k < ns.length → μ.1 (o + 6) k = nI (ns.getD k nd0).1 ∧ μ.1 (o + 7) k = nI (ns.getD k nd0).2.1 ∧ μ.1 (o + 8) k = nI (ns.getD k nd0).2.2.1 ∧ μ.1 (o + 9) k = nI (ns.getD k nd0).2.2.2.1 ∧ μ.1 (o + 10) k = oI (ns.getD k nd0).2.2.2.2
abbrev ndC (o : Nat) : List Nat := [o, o + 6, o + 7, o + 8, o + 9, o + 10]
/-- nothing but the cells of S has changed, and of the cell o only its place 8 -/
def Frn (o : Nat) (S : List Nat) (μ μ1 : Mem) : Prop := (∀ b, b ∉ S → μ1.1 b = μ.1 b) ∧ μ1.2 = μ.2 ∧ ∀ j, j ≠ 8 → μ1.1 o j = μ.1 o j
theorem Frn.rf (o : Nat) (S : List Nat) (μ : Mem) : Frn o S μ μ := ⟨fun _ _ => rfl, rfl, fun _ _ => rfl⟩
theorem Frn.tr {o : Nat} {S : List Nat} {μ μ1 μ2 : Mem} (h : Frn o S μ μ1) (h2 : Frn o S μ1 μ2) : Frn o S μ μ2 := ⟨fun b hb => (h2.1 b hb).trans (h.1 b hb), h2.2.1.trans h.2.1, fun j hj => (h2.2.2 j hj).trans (h.2.2 j hj)⟩
theorem Frn.up {o : Nat} {S : List Nat} {μ μ1 : Mem} {a k : Nat} {v : Int32} (h : Frn o S μ μ1) (ha : a ∈ S) (hk : a ≠ o ∨ k = 8) : Frn o S μ (upI μ1 a k v) := ⟨fun b hb => by
  rw [up_cell (show b ≠ a from fun e => hb (by rw [e]; exact ha))]
  exact h.1 b hb, h.2.1, fun j hj => by
  rw [up_ne (by omega)]
  exact h.2.2 j hj⟩
theorem Frn.mono {o : Nat} {S S' : List Nat} {μ μ1 : Mem} (h : Frn o S μ μ1) (hs : ∀ b ∈ S, b ∈ S') : Frn o S' μ μ1 := ⟨fun b hb => h.1 b (fun q => hb (hs b q)), h.2⟩
theorem Frn.fr {o : Nat} {S : List Nat} {μ μ1 : Mem} (h : Frn o S μ μ1) : Fr S μ μ1 := ⟨h.1, h.2.1⟩
theorem Frn.of {o : Nat} {S S' : List Nat} {μ μ1 : Mem} (h : Fr S μ μ1) (ho : o ∉ S) (hs : ∀ b ∈ S, b ∈ S') : Frn o S' μ μ1 := ⟨fun b hb => h.1 b (fun q => hb (hs b q)), h.2, fun j _ => by rw [h.1 o ho]⟩
theorem nd_app {ns : List Nd} {x : Nd} {k : Nat} (h : k < ns.length) : (ns ++ [x]).getD k nd0 = ns.getD k nd0 := by
  rw [List.getD, List.getD, List.getElem?_append_left h]
theorem nd_last {ns : List Nd} {x : Nd} : (ns ++ [x]).getD ns.length nd0 = x := by
  rw [List.getD, List.getElem?_append_right (Nat.le_refl _)]
  simp
theorem addNode_ok {lay : List Nat} (hwf : wfB lay = true) (d : Nat) {μ : Mem} {o : Nat} {ns : List Nd} {r b e dp q : Nat} (hN : NdAt μ o ns) (hl : ns.length < 83) (hdp : dp ≤ 5) (hq : 0 < dp → μ.1 (o + 11) (dp - 1) = nI q) : Rn lay d mNe_addNode [rf 11 o, vi (nI r), vi (nI b), vi (nI e), vi (nI dp)] μ (Pq fun x μ1 => x = nI ns.length ∧ NdAt μ1 o (ns ++ [(r, b, e, dp, if dp = 0 then none else some q)]) ∧ Frn o (ndC o) μ μ1) := by
  obtain ⟨h8, hn⟩ := hN
  refine Rn_intro ok_Ne_addNode hwf rfl (fun G hC => g_Ne_addNode_0 hC ?_)
  rw [h8, nx_0, nx_lt (by omega) (by omega), nx_lt (by omega) (by omega), nx_in' (by omega) (by omega), nx_cl (by omega)]
  refine ⟨fun z => absurd z (by omega), fun _ => ⟨fun _ => ⟨hl, ?_⟩, fun z => absurd hl z⟩⟩
  refine g_Ne_addNode_28 hC ?_
  simp (disch := omega) only [up_n1, h8, nx_cl, nx_in']
  refine ⟨hl, g_Ne_addNode_38 hC ?_⟩
  simp (disch := omega) only [up_n1, h8, nx_cl, nx_in']
  refine ⟨hl, g_Ne_addNode_48 hC ?_⟩
  simp (disch := omega) only [up_n1, h8, nx_cl, nx_in']
  refine ⟨hl, g_Ne_addNode_59 hC ?_⟩
  have fin : ∀ (ov : Int32), ov = oI (if dp = 0 then none else some q) → G 92 [rf 11 o, un, un, un, un] [] (upI (upI (upI (upI (upI μ (o + 6) ns.length (nI r)) (o + 7) ns.length (nI b)) (o + 8) ns.length (nI e)) (o + 9) ns.length (nI dp)) (o + 10) ns.length ov) := by
    intro ov hov
    refine g_Ne_addNode_92 hC ?_
    rw [up_at]
    simp (disch := omega) only [up_n1, h8, nI_add]
    rw [nx_sub (by omega), Nat.add_sub_cancel]
    refine ⟨_, rfl, rfl, ⟨by rw [up_at]; simp, fun k hk => ?_⟩, ((((((Frn.rf _ _ _).up (by simp) (by omega)).up (by simp) (by omega)).up (by simp) (by omega)).up (by simp) (by omega)).up (by simp) (by omega)).up (by simp) (Or.inr rfl)⟩
    rw [List.length_append, List.length_singleton] at hk
    by_cases e : k = ns.length
    · subst e
      rw [nd_last]
      simp (disch := omega) only [up_n1, up_at]
      exact ⟨trivial, trivial, trivial, trivial, hov⟩
    · rw [nd_app (by omega)]
      simp (disch := omega) only [up_n1, up_n2]
      exact hn k (by omega)
  simp (disch := omega) only [up_n1, h8, nx_cl, nx_in']
  rw [nx_0, nx_le (by omega) (by omega), nx_lt (by omega) (by omega)]
  refine ⟨fun z => ⟨hl, fin _ ?_⟩, fun z => ⟨fun z2 => absurd z2 (by omega), fun _ => ?_⟩⟩
  · rw [if_pos (by omega)]
    rfl
  · rw [nx_sub (by omega), nx_cl (by omega), nx_in' (by omega) (by omega), hq (by omega)]
    refine ⟨by omega, hl, fin _ ?_⟩
    rw [if_neg (by omega)]
    rfl
def setE (ns : List Nd) (k e : Nat) : List Nd := ns.set k ((ns.getD k nd0).1, (ns.getD k nd0).2.1, e, (ns.getD k nd0).2.2.2)
theorem setE_len (ns : List Nd) (k e : Nat) : (setE ns k e).length = ns.length := by simp [setE]
theorem setE_at {ns : List Nd} {k e j : Nat} (hk : k < ns.length) : (setE ns k e).getD j nd0 = if j = k then ((ns.getD k nd0).1, (ns.getD k nd0).2.1, e, (ns.getD k nd0).2.2.2) else ns.getD j nd0 := by
  unfold setE
  by_cases h : j = k
  · subst h
    rw [if_pos rfl, List.getD, List.getElem?_set_self hk]
    rfl
  · rw [if_neg h, List.getD, List.getElem?_set_ne (Ne.symm h)]
    rfl
theorem stretch_ok {lay : List Nat} (hwf : wfB lay = true) (d : Nat) {μ : Mem} {o : Nat} {ns : List Nd} {k e : Nat} (hN : NdAt μ o ns) (hl : ns.length ≤ 83) (hk : k < ns.length) : Rn lay d mNe_stretch [rf 11 o, vi (nI k), vi (nI e)] μ (Pn fun μ1 => NdAt μ1 o (setE ns k e) ∧ Fr [o + 8] μ μ1) := by
  obtain ⟨h8, hn⟩ := hN
  refine Rn_intro ok_Ne_stretch hwf rfl (fun G hC => g_Ne_stretch_0 hC ?_)
  rw [h8, nx_0, nx_lt (by omega) (by omega), nx_le (by omega) (by omega), nx_in' (by omega) (by omega), nx_cl (by omega)]
  refine ⟨fun z => absurd z (by omega), fun _ => ⟨fun z => absurd z (by omega), fun _ => ⟨by omega, rfl, ⟨by rw [up_n1 (by omega), setE_len]; exact h8, fun j hj => ?_⟩, (Fr.rf _ _).up (by simp)⟩⟩⟩
  rw [setE_len] at hj
  rw [setE_at hk]
  by_cases q : j = k
  · subst q
    rw [if_pos rfl]
    simp (disch := omega) only [up_n1, up_at]
    obtain ⟨a1, a2, a3, a4, a5⟩ := hn j hj
    exact ⟨a1, a2, trivial, a4, a5⟩
  · rw [if_neg q]
    simp (disch := omega) only [up_n1, up_n2]
    exact hn j hj
/-- the empty ones at a place, of the first i -/
def empU (rs : List RG) (p dp q : Nat) : Nat → List Nd
  | 0 => []
  | i + 1 => empU rs p dp q i ++ (if ra rs i = rb rs i ∧ ra rs i = p then [(i, p, p, dp, if dp = 0 then none else some q)] else [])
theorem empU_len (rs : List RG) (p dp q : Nat) : ∀ i, (empU rs p dp q i).length ≤ i
  | 0 => Nat.le_refl _
  | i + 1 => by
    have := empU_len rs p dp q i
    unfold empU
    rw [List.length_append]
    split <;> simp <;> omega
theorem addEmptyOnes_ok {lay : List Nat} (hwf : wfB lay = true) (d : Nat) {μ : Mem} {o t : Nat} {T : TS} {ns : List Nd} {p dp q : Nat} (hT : TeAt μ t T) (hw : WT T) (hd : t + 5 ≤ o ∨ o + 12 ≤ t) (hp : p ≤ 90) (hN : NdAt μ o ns) (hl : ns.length + (empU T.1 p dp q T.1.length).length ≤ 83) (hdp : dp ≤ 5) (hq : 0 < dp → μ.1 (o + 11) (dp - 1) = nI q) : Rn lay (d + 2) mNe_addEmptyOnes [rf 11 o, rf 13 t, vi (nI p), vi (nI dp)] μ (Pn fun μ1 => NdAt μ1 o (ns ++ empU T.1 p dp q T.1.length) ∧ Frn o (ndC o) μ μ1) := by
  have hn := hw.1.1
  have hL := hw.2.1
  refine Rn_intro ok_Ne_addEmptyOnes hwf rfl (fun G hC => g_Ne_addEmptyOnes_0 hC ?_)
  have mono : ∀ i, i ≤ T.1.length → (empU T.1 p dp q i).length ≤ (empU T.1 p dp q T.1.length).length := by
    have : ∀ m i, i + m = T.1.length → (empU T.1 p dp q i).length ≤ (empU T.1 p dp q T.1.length).length := by
      intro m
      induction m with
      | zero => intro i hi; rw [show T.1.length = i by omega]; exact Nat.le_refl _
      | succ m ih =>
        intro i hi
        have := ih (i + 1) (by omega)
        rw [show empU T.1 p dp q (i + 1) = empU T.1 p dp q i ++ (if ra T.1 i = rb T.1 i ∧ ra T.1 i = p then [(i, p, p, dp, if dp = 0 then none else some q)] else []) from rfl, List.length_append] at this
        omega
    intro i hi
    exact this (T.1.length - i) i (by omega)
  have loop : ∀ m i (μ' : Mem), i + m = T.1.length → NdAt μ' o (ns ++ empU T.1 p dp q i) → Frn o (ndC o) μ μ' → G 3 [rf 11 o, rf 13 t, vi (nI p), vi (nI dp), vi (nI i)] [] μ' := by
    intro m
    induction m with
    | zero =>
      intro i μ' hi hN' hf
      have e0 := hf.1 t (by simp; omega)
      refine g_Ne_addEmptyOnes_3 hC ?_
      rw [e0, hT.1, nx_le (by omega) (by omega)]
      rw [show i = T.1.length by omega] at hN'
      exact ⟨fun _ => ⟨rfl, hN', hf⟩, fun z => absurd (by omega) z⟩
    | succ m ih =>
      intro i μ' hi hN' hf
      have hil : i < T.1.length := by omega
      have hT' : TeAt μ' t T := hT.far hf.fr (fun b hb hb2 => by simp at hb hb2; omega)
      obtain ⟨-, e2, e3⟩ := hT'.2.2.1 i hil
      obtain ⟨-, a2, a3⟩ := hw.1.at hil
      have hm := mono (i + 1) (by omega)
      have enx : empU T.1 p dp q (i + 1) = empU T.1 p dp q i ++ (if ra T.1 i = rb T.1 i ∧ ra T.1 i = p then [(i, p, p, dp, if dp = 0 then none else some q)] else []) := rfl
      have skip : ¬ (ra T.1 i = rb T.1 i ∧ ra T.1 i = p) → G 3 [rf 11 o, rf 13 t, vi (nI p), vi (nI dp), vi (nI (i + 1))] [] μ' := fun z => by
        refine ih (i + 1) μ' (by omega) ?_ hf
        rw [enx, if_neg z, List.append_nil]
        exact hN'
      refine g_Ne_addEmptyOnes_3 hC ?_
      simp (disch := omega) only [hT'.1, nx_le, nI_add]
      refine ⟨fun z => absurd z (by omega), fun _ => ⟨fun z => absurd z (by omega), fun _ => ?_⟩⟩
      refine useV (isEmpty_ok hwf d hT' hw hil) ?_
      rw [bI_eq0]
      refine ⟨fun z => skip (fun w => z w.1), fun z => ?_⟩
      have z := Decidable.not_not.mp z
      rw [nx_cl (by omega), nx_in' (by omega) (by omega), e2, nx_eq (by omega) (by omega)]
      refine ⟨by omega, fun z2 => skip (fun w => z2 w.2), fun z2 => ?_⟩
      rw [enx, if_pos ⟨z, z2⟩, List.length_append, List.length_singleton] at hm
      refine useQ (addNode_ok hwf (d + 1) (q := q) hN' (by rw [List.length_append]; omega) hdp (fun h0 => by rw [hf.1 (o + 11) (by simp)]; exact hq h0)) (fun x μ1 hp1 => ?_)
      refine ih (i + 1) μ1 (by omega) ?_ (hf.tr hp1.2.2)
      rw [enx, if_pos ⟨z, z2⟩, ← List.append_assoc]
      exact hp1.2.1
  exact loop T.1.length 0 μ (by omega) (by simpa [empU] using hN) (Frn.rf _ _ _)
def goOn (zs : List (List Nat)) (c : Nat) : Nat := if 1 ≤ c ∧ c < zs.length then alk (zs.getD (c - 1) []) (zs.getD c []) else 0
theorem goOn_le {zs : List (List Nat)} (hz : ∀ z ∈ zs, oks z) (c : Nat) : goOn zs c ≤ 5 := by
  unfold goOn
  split
  · next h =>
    have h1 := (alk_le (zs.getD (c - 1) []) (zs.getD c [])).2
    have h2 : oks (zs.getD c []) := by
      rw [List.getD, List.getElem?_eq_getElem h.2]
      exact hz _ (List.getElem_mem h.2)
    have := h2.1
    omega
  · omega
theorem goingOnAt_ok {lay : List Nat} (hwf : wfB lay = true) (d : Nat) {μ : Mem} {o c : Nat} {cs cv : List Nat} {zs : List (List Nat)} (hS : SeAt μ (o + 1) cs cv) (hl : cv.length ≤ 15) (hzl : zs.length = cv.length) (hz : ∀ z ∈ zs, oks z) (hch : ∀ s, s < zs.length → μ.1 (o + 5) s = nI (enc (zs.getD s []))) (hc : c ≤ 100) : Rn lay (d + 2) mNe_goingOnAt [rf 11 o, vi (nI c)] μ (Pv (nI (goOn zs c)) μ) := by
  have hzo : ∀ s, s < zs.length → oks (zs.getD s []) := fun s hs => by
    rw [List.getD, List.getElem?_eq_getElem hs]
    exact hz _ (List.getElem_mem hs)
  refine Rn_intro ok_Ne_goingOnAt hwf rfl (fun G hC => g_Ne_goingOnAt_0 hC ?_)
  have e1 : (nI c - nI 1).toInt = (c : Int) - 1 := by
    rw [pk_sub_toInt (by omega) (by omega)]
    omega
  refine useV (seHas_ok hwf _ hS hl _) ?_
  rw [bI_eq0, e1]
  refine ⟨fun z => pv_e ?_, fun z => ?_⟩
  · unfold goOn
    rw [if_neg (by omega)]
  · refine useV (seHas_ok hwf _ hS hl _) ?_
    rw [bI_eq0, nI_ti (by omega)]
    refine ⟨fun z2 => ?_, fun z2 => pv_e ?_⟩
    · have h1 : 1 ≤ c ∧ c < zs.length := by omega
      rw [nx_sub h1.1]
      simp (disch := omega) only [nx_cl, nx_in', hch c h1.2, hch (c - 1) (by omega)]
      refine ⟨by omega, by omega, ?_⟩
      refine useV (alike_ok hwf d (hzo (c - 1) (by omega)) (hzo c h1.2) μ) (pv_e ?_)
      unfold goOn
      rw [if_pos h1]
    · unfold goOn
      rw [if_neg (by omega)]
