/-! worlds glued of pieces -/
abbrev CQ := Nat × ClassId × (Nat → Int32) × (Nat → Int64)
abbrev PL := List (List Nat × (Nat → CQ))
def aO (g : Nat → CQ) : Nat → Nat := fun i => (g i).1
def cO (g : Nat → CQ) : Nat → ClassId := fun i => (g i).2.1
def mO (g : Nat → CQ) : Mem := (fun i => (g i).2.2.1, fun i => (g i).2.2.2)
def pkq (adr : Nat → Nat) (cA : Nat → ClassId) (μ : Mem) : Nat → CQ := fun i => (adr i, cA i, μ.1 i, μ.2 i)
def gW (lay : List Nat) (g : Nat → CQ) : va_W := wld lay (aO g) (cO g) (mO g)
def layP : PL → List Nat
  | [] => []
  | q :: ps => q.1 ++ layP ps
def gl (z : CQ) : PL → Nat → CQ
  | [], _ => z
  | q :: ps, i => cond (Nat.blt i q.1.length) (q.2 i) (gl z ps (i - q.1.length))
def glH (z : CQ) (ps : PL) : Nat → CQ
  | 0 => z
  | i + 1 => gl z ps i
def wP : PL → va_W
  | [] => []
  | q :: ps => gW q.1 q.2 ++ wP ps
def tP : PL → List (ClassId × FieldType)
  | [] => []
  | q :: ps => tysL q.1 (cO q.2) ++ tP ps
theorem gl_l {z : CQ} {q : List Nat × (Nat → CQ)} {ps : PL} {i : Nat} (h : i < q.1.length) : gl z (q :: ps) i = q.2 i := by
  have : Nat.blt i q.1.length = true := Nat.ble_eq_true_of_le h
  show cond (Nat.blt i q.1.length) _ _ = _
  rw [this]
  rfl
theorem gl_r {z : CQ} {q : List Nat × (Nat → CQ)} {ps : PL} {i : Nat} : gl z (q :: ps) (q.1.length + i) = gl z ps i := by
  have : Nat.blt (q.1.length + i) q.1.length = false := by
    cases h : Nat.blt (q.1.length + i) q.1.length with
    | false => rfl
    | true => exact absurd (Nat.le_of_ble_eq_true h) (by omega)
  show cond (Nat.blt (q.1.length + i) q.1.length) _ _ = _
  rw [this, Nat.add_sub_cancel_left]
  rfl
theorem knd_l {a b : List Nat} {i : Nat} (h : i < a.length) : knd (a ++ b) i = knd a i := by
  unfold knd
  rw [List.getD, List.getD, List.getElem?_append_left h]
theorem knd_r {a b : List Nat} {i : Nat} : knd (a ++ b) (a.length + i) = knd b i := by
  unfold knd
  rw [List.getD, List.getD, List.getElem?_append_right (by omega), Nat.add_sub_cancel_left]
theorem rarr_pos {τ n t g : Nat} (h : rarr τ = some (n, t, g)) : t ≠ 0 := by
  unfold rarr at h
  split at h
  · cases h; decide
  · cases h; decide
  · cases h; decide
  · cases h
theorem cell_tr {lay : List Nat} (hw : wfB lay = true) {g f : Nat → CQ} {t i : Nat} (hi : i < lay.length) (hg : ∀ j, j < lay.length → g (t + j) = f j) : cellE (aO g) (cO g) (mO g) (knd lay i) (t + i) = cellE (aO f) (cO f) (mO f) (knd lay i) i := by
  have h0 := hg i hi
  have hwi := List.all_eq_true.mp hw i (List.mem_range.mpr hi)
  have hkn : ∀ j, knd lay j ≠ 0 → aO g (t + j) = aO f j := fun j hj => by
    show (g (t + j)).1 = (f j).1
    rw [hg j (kOK_lt rfl hj)]
  have hc : cO g (t + i) = cO f i := by show (g (t + i)).2.1 = _; rw [h0]; rfl
  have hm1 : (mO g).1 (t + i) = (mO f).1 i := by show (g (t + i)).2.2.1 = _; rw [h0]; rfl
  have hm2 : (mO g).2 (t + i) = (mO f).2 i := by show (g (t + i)).2.2.2 = _; rw [h0]; rfl
  generalize hτ : knd lay i = τ at hwi
  unfold cellE
  cases hr : rarr τ with
  | some v =>
    obtain ⟨n, t', g'⟩ := v
    rw [hr] at hwi
    simp only at hwi ⊢
    rw [hc]
    refine congrArg (fun z => Sum.inl (cO f i, (n, Sum.inr (Sum.inr (Sum.inr (Sum.inr z)))))) (funext fun j => ?_)
    by_cases hj : j < n
    · rw [if_pos hj, if_pos hj]
      have h1 := List.all_eq_true.mp hwi j (List.mem_range.mpr hj)
      simp only [beq_iff_eq] at h1
      rw [show t + i + 1 + g' * j = t + (i + 1 + g' * j) by omega, hkn _ (by rw [h1]; exact rarr_pos hr)]
    · rw [if_neg hj, if_neg hj]
  | none =>
    rw [hr] at hwi
    simp only at hwi ⊢
    by_cases h20 : τ < 20
    · rw [if_pos h20] at hwi
      rw [if_pos h20, if_pos h20]
      simp only [Bool.and_eq_true] at hwi
      refine congrArg (fun z => Sum.inr (τ - 10, z)) (List.map_congr_left fun k hk => ?_)
      have h1 := List.all_eq_true.mp hwi.2 k hk
      unfold fval
      by_cases h2 : (fkt (τ - 10) k).1 < 2
      · rw [if_pos h2, if_pos h2, hm1]
      · rw [if_neg h2, if_neg h2]
        have h3 : Nat.ble (fkt (τ - 10) k).1 1 = false := by
          cases hb : Nat.ble (fkt (τ - 10) k).1 1 with
          | false => rfl
          | true => exact absurd (Nat.le_of_ble_eq_true hb) (by omega)
        rw [h3] at h1
        simp only [Bool.false_or, beq_iff_eq] at h1
        rw [Nat.add_assoc, hkn _ (by rw [h1]; omega)]
    · rw [if_neg h20, if_neg h20, hc, hm1, hm2]
def wS (lay : List Nat) (g : Nat → CQ) (t n : Nat) : va_W := (List.range n).map fun i => (aO g (t + i), cellE (aO g) (cO g) (mO g) (knd lay (t + i)) (t + i))
theorem wS_add {lay : List Nat} {g : Nat → CQ} {t n m : Nat} : wS lay g t (n + m) = wS lay g t n ++ wS lay g (t + n) m := by
  unfold wS
  rw [List.range_add, List.map_append, List.map_map]
  refine congrArg _ (List.map_congr_left fun i _ => ?_)
  show (aO g (t + (n + i)), cellE (aO g) (cO g) (mO g) (knd lay (t + (n + i))) (t + (n + i))) = _
  rw [← Nat.add_assoc]
theorem wS_ps {lay : List Nat} {g : Nat → CQ} {z : CQ} : ∀ (ps : PL) (t : Nat), (∀ q ∈ ps, wfB q.1 = true) → (∀ i, i < (layP ps).length → knd lay (t + i) = knd (layP ps) i) → (∀ i, i < (layP ps).length → g (t + i) = gl z ps i) → wS lay g t (layP ps).length = wP ps
  | [], t, _, _, _ => rfl
  | q :: ps, t, hw, hk, hg => by
    have hl : (layP (q :: ps)).length = q.1.length + (layP ps).length := List.length_append
    rw [hl, wS_add]
    show _ = gW q.1 q.2 ++ wP ps
    refine congr (congrArg HAppend.hAppend ?_) (wS_ps (z := z) ps (t + q.1.length) (fun x hx => hw x (List.mem_cons_of_mem _ hx)) (fun i hi => ?_) (fun i hi => ?_))
    · unfold wS gW wld
      refine List.map_congr_left fun i hi => ?_
      have hi := List.mem_range.mp hi
      have h1 : knd lay (t + i) = knd q.1 i := by rw [hk i (by omega)]; exact knd_l hi
      have hgg : ∀ j, j < q.1.length → g (t + j) = q.2 j := fun j hj => by rw [hg j (by omega)]; exact gl_l hj
      rw [h1, cell_tr (hw q List.mem_cons_self) hi hgg]
      show ((g (t + i)).1, _) = _
      rw [hgg i hi]
      rfl
    · rw [Nat.add_assoc, hk _ (by omega)]
      exact knd_r
    · rw [Nat.add_assoc, hg _ (by omega)]
      exact gl_r
theorem glued {τ ci : Nat} {ps : PL} {z : CQ} {fs : List Value} (hw : ∀ q ∈ ps, wfB q.1 = true) (hc : cellE (aO (glH z ps)) (cO (glH z ps)) (mO (glH z ps)) τ 0 = .inr (ci, fs)) : gW (τ :: layP ps) (glH z ps) = (z.1, .inr (ci, fs)) :: wP ps := by
  have h1 : gW (τ :: layP ps) (glH z ps) = wS (τ :: layP ps) (glH z ps) 0 (1 + (layP ps).length) := by
    unfold gW wld wS
    rw [List.length_cons, Nat.add_comm]
    refine List.map_congr_left fun i _ => ?_
    rw [Nat.zero_add]
  rw [h1, wS_add, wS_ps (z := z) ps (0 + 1) hw (fun i _ => by rw [Nat.zero_add, Nat.add_comm]; rfl) (fun i _ => by rw [Nat.zero_add, Nat.add_comm]; rfl)]
  show (z.1, cellE (aO (glH z ps)) (cO (glH z ps)) (mO (glH z ps)) τ 0) :: wP ps = _
  rw [hc]
theorem tys_ps {z : CQ} : ∀ (ps : PL) (i : Nat), 20 ≤ knd (layP ps) i → (cO (gl z ps) i, aty (knd (layP ps) i)) ∈ tP ps
  | [], i, h => by
    have : knd (layP []) i = 0 := by unfold knd layP; simp
    omega
  | q :: ps, i, h => by
    show _ ∈ tysL q.1 (cO q.2) ++ tP ps
    have hk : knd (layP (q :: ps)) i = knd (q.1 ++ layP ps) i := rfl
    rw [hk] at h ⊢
    rcases Nat.lt_or_ge i q.1.length with hl | hl
    · rw [knd_l hl] at h ⊢
      refine List.mem_append_left _ ?_
      unfold tysL
      refine List.mem_map.mpr ⟨i, List.mem_filter.mpr ⟨List.mem_range.mpr hl, Nat.ble_eq_true_of_le h⟩, ?_⟩
      show ((q.2 i).2.1, _) = ((gl z (q :: ps) i).2.1, _)
      rw [gl_l hl]
    · obtain ⟨j, rfl⟩ : ∃ j, i = q.1.length + j := ⟨i - q.1.length, by omega⟩
      rw [knd_r] at h ⊢
      refine List.mem_append_right _ ?_
      have := tys_ps (z := z) ps j h
      have e : cO (gl z (q :: ps)) (q.1.length + j) = cO (gl z ps) j := by
        show (gl z (q :: ps) (q.1.length + j)).2.1 = _
        rw [gl_r]
        rfl
      rw [e]
      exact this
theorem tys_glued {τ : Nat} {ps : PL} {z : CQ} (h0 : τ < 20) : ∀ x ∈ tysL (τ :: layP ps) (cO (glH z ps)), x ∈ tP ps := by
  intro x hx
  obtain ⟨id, hid, rfl⟩ := List.mem_map.mp hx
  have h := Nat.le_of_ble_eq_true (List.mem_filter.mp hid).2
  cases id with
  | zero => exact absurd h (by show ¬ 20 ≤ τ; omega)
  | succ i => exact tys_ps (z := z) ps i h
theorem va_K.mem {D : va_G} {cl : List vw_C} {t t' : List (ClassId × FieldType)} {s : State} (h : va_K D cl t s) (hm : ∀ x ∈ t', x ∈ t) : va_K D cl t' s := ⟨h.1, fun k x hx => by
  obtain ⟨k', hk'⟩ := List.getElem?_of_mem (hm x (List.mem_of_getElem? hx))
  exact h.2 k' x hk'⟩
theorem wld_inj {A : Nat → Prop} {lay : List Nat} {adr : Nat → Nat} {cA : Nat → ClassId} {μ : Mem} (h : va_D A (wld lay adr cA μ)) : injA lay adr := fun i j hi hj e => by
  have g : ∀ i, i < lay.length → (wld lay adr cA μ)[i]? = some (adr i, cellE adr cA μ (knd lay i) i) := fun i hi => by
    unfold wld
    rw [List.getElem?_map, List.getElem?_range hi]
    rfl
  exact h.1 i j _ _ (g i hi) (g j hj) e
theorem wld_in {A : Nat → Prop} {lay : List Nat} {adr : Nat → Nat} {cA : Nat → ClassId} {μ : Mem} (h : va_D A (wld lay adr cA μ)) {i : Nat} (hi : i < lay.length) : A (adr i) := by
  have := h.2 i (adr i, cellE adr cA μ (knd lay i) i) (by unfold wld; rw [List.getElem?_map, List.getElem?_range hi]; rfl)
  exact this
theorem wld_D2 {A : Nat → Prop} {lay : List Nat} {adr : Nat → Nat} {cA : Nat → ClassId} {μ μ1 : Mem} (h : va_D A (wld lay adr cA μ)) : va_D A (wld lay adr cA μ1) := ⟨fun i j p q hp hq e => by
    obtain ⟨l1, e1⟩ := wld_at hp
    obtain ⟨l2, e2⟩ := wld_at hq
    rw [e1, e2] at e
    exact wld_inj h i j l1 l2 e, fun k q hq => by
    obtain ⟨l1, e1⟩ := wld_at hq
    rw [e1]
    exact wld_in h l1⟩
