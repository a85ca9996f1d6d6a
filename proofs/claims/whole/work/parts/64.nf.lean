/-! joins: where nothing of a kind hangs together any more, all is settled by what was -/
def NF (k : Nat) (rs : List RG) : Prop := ∀ i q, i < q → q < rs.length → kd rs i = k → ¬ hangB rs i q
def act (k : Nat) (rs : List RG) (i : Nat) : Prop := kd rs i = k ∧ ra rs i < rb rs i
abbrev TG : Type := Nat × RG
def JT (k : Nat) (r0 : List RG) (L : List TG) : Prop :=
  (L.map (·.1)).Pairwise (· < ·) ∧
  (∀ x ∈ L, x.1 < r0.length ∧ x.2.1 = kd r0 x.1 ∧ (¬ act k r0 x.1 → x.2 = el r0 x.1) ∧ (act k r0 x.1 → x.2.2.1 ≤ ra r0 x.1 ∧ rb r0 x.1 ≤ x.2.2.2)) ∧
  (∀ i, i < r0.length → ¬ act k r0 i → (i, el r0 i) ∈ L) ∧
  (∀ i, i < r0.length → act k r0 i → ∃ x ∈ L, x.1 ≤ i ∧ act k r0 x.1 ∧ x.2.2.1 ≤ ra r0 i ∧ rb r0 i ≤ x.2.2.2) ∧
  (∀ x ∈ L, act k r0 x.1 → ∀ y, x.2.2.1 ≤ y → y < x.2.2.2 → ∃ i, i < r0.length ∧ act k r0 i ∧ ra r0 i ≤ y ∧ y < rb r0 i)
def JJ (k : Nat) (r0 rs : List RG) : Prop := ∃ L : List TG, L.map (·.2) = rs ∧ JT k r0 L
theorem er_map {α β : Type} (f : α → β) (l : List α) (r : Nat) : (l.eraseIdx r).map f = (l.map f).eraseIdx r := by
  apply List.ext_getElem?
  intro i
  rw [List.getElem?_map, List.getElem?_eraseIdx, List.getElem?_eraseIdx, List.getElem?_map, List.getElem?_map]
  split <;> rfl
theorem mem_er {α : Type} {l : List α} {r i : Nat} {z : α} (h : l[i]? = some z) (hne : i ≠ r) : z ∈ l.eraseIdx r := by
  rcases Nat.lt_or_ge i r with q | q
  · exact List.mem_of_getElem? (i := i) (by rw [List.getElem?_eraseIdx, if_pos q]; exact h)
  · exact List.mem_of_getElem? (i := i - 1) (by rw [List.getElem?_eraseIdx, if_neg (by omega), show i - 1 + 1 = i by omega]; exact h)
theorem el_mp {L : List TG} {i : Nat} {x : TG} (h : L[i]? = some x) : el (L.map (·.2)) i = x.2 := el_of (by rw [List.getElem?_map, h]; rfl)
theorem JJ.rf {k L0 : Nat} {r0 : List RG} (hw : WR L0 r0) : JJ k r0 r0 := by
  have hm : ∀ x : TG, x ∈ (List.range r0.length).map (fun i => (i, el r0 i)) ↔ x.1 < r0.length ∧ x.2 = el r0 x.1 := fun x => by
    rw [List.mem_map]
    constructor
    · rintro ⟨i, h1, h2⟩
      subst h2
      exact ⟨List.mem_range.mp h1, rfl⟩
    · rintro ⟨h1, h2⟩
      exact ⟨x.1, List.mem_range.mpr h1, by rw [← h2]⟩
  refine ⟨(List.range r0.length).map (fun i => (i, el r0 i)), ?_, ?_, fun x hx => ?_, fun i hi _ => (hm _).mpr ⟨hi, rfl⟩, fun i hi ha => ⟨(i, el r0 i), (hm _).mpr ⟨hi, rfl⟩, Nat.le_refl _, ha, Nat.le_refl _, Nat.le_refl _⟩, fun x hx ha y h1 h2 => ?_⟩
  · rw [List.map_map]
    apply List.ext_getElem?
    intro i
    rw [List.getElem?_map]
    rcases Nat.lt_or_ge i r0.length with q | q
    · rw [List.getElem?_range q, el_in q]
      rfl
    · rw [List.getElem?_eq_none (by simpa using q), List.getElem?_eq_none q]
      rfl
  · rw [List.map_map]
    have : ((fun x : TG => x.1) ∘ fun i => (i, el r0 i)) = id := rfl
    rw [this, List.map_id]
    exact List.pairwise_lt_range
  · obtain ⟨h1, h2⟩ := (hm x).mp hx
    refine ⟨h1, by rw [h2, el_1], fun _ => h2, fun _ => ?_⟩
    rw [h2]
    exact ⟨Nat.le_refl _, Nat.le_refl _⟩
  · obtain ⟨h3, h4⟩ := (hm x).mp hx
    rw [h4] at h1 h2
    exact ⟨x.1, h3, ha, h1, h2⟩
theorem JJ.mrg {k L0 : Nat} {r0 rs : List RG} (hw : WR L0 r0) (h : JJ k r0 rs) {q r : Nat} (hqr : q < r) (hr : r < rs.length) (hh : hangB rs q r) (hk : kd rs q = k) : JJ k r0 (mrg rs q r) := by
  obtain ⟨L, hL, j1, j2, j3, j4, j5⟩ := h
  have hll : L.length = rs.length := by rw [← hL, List.length_map]
  have hx : L[q]? = some (L[q]'(by omega)) := List.getElem?_eq_getElem (by omega)
  have hy : L[r]? = some (L[r]'(by omega)) := List.getElem?_eq_getElem (by omega)
  generalize L[q]'(by omega) = x at hx
  generalize L[r]'(by omega) = y at hy
  have ex : el rs q = x.2 := by rw [← hL]; exact el_mp hx
  have ey : el rs r = y.2 := by rw [← hL]; exact el_mp hy
  have mx := List.mem_of_getElem? hx
  have my := List.mem_of_getElem? hy
  obtain ⟨x1, x2, x3, x4⟩ := j2 x mx
  obtain ⟨y1, y2, y3, y4⟩ := j2 y my
  obtain ⟨g1, g2, g3, g4, g5⟩ := hh
  have kx : x.2.1 = k := by rw [← ex]; exact hk
  have ky : y.2.1 = k := by rw [← ey]; show kd rs r = k; omega
  have eax : ra rs q = x.2.2.1 := by rw [← ex]; rfl
  have ebx : rb rs q = x.2.2.2 := by rw [← ex]; rfl
  have eay : ra rs r = y.2.2.1 := by rw [← ey]; rfl
  have eby : rb rs r = y.2.2.2 := by rw [← ey]; rfl
  have ax : act k r0 x.1 := by
    by_cases c : act k r0 x.1
    · exact c
    · exfalso
      have e := x3 c
      have := (hw.at x1).2.1
      apply c
      refine ⟨by omega, ?_⟩
      rw [e] at eax ebx
      have eax : ra rs q = ra r0 x.1 := eax
      have ebx : rb rs q = rb r0 x.1 := ebx
      omega
  have ay : act k r0 y.1 := by
    by_cases c : act k r0 y.1
    · exact c
    · exfalso
      have e := y3 c
      have := (hw.at y1).2.1
      apply c
      refine ⟨by omega, ?_⟩
      rw [e] at eay eby
      have eay : ra rs r = ra r0 y.1 := eay
      have eby : rb rs r = rb r0 y.1 := eby
      omega
  have hxy : x.1 < y.1 := by
    have := List.pairwise_iff_getElem.mp j1 q r (by rw [List.length_map]; omega) (by rw [List.length_map]; omega) hqr
    rw [List.getElem_map, List.getElem_map] at this
    rw [(List.getElem?_eq_some_iff.mp hx).2, (List.getElem?_eq_some_iff.mp hy).2] at this
    exact this
  obtain ⟨w1, w2⟩ := x4 ax
  obtain ⟨v1, v2⟩ := y4 ay
  have ln : mgR rs q r = (k, (if ra rs r < ra rs q then ra rs r else ra rs q), (if rb rs q < rb rs r then rb rs r else rb rs q)) := by
    unfold mgR
    rw [hk]
  generalize hM : mgR rs q r = M at ln
  have M1 : M.1 = k := by rw [ln]
  have M2 : M.2.1 ≤ x.2.2.1 ∧ M.2.1 ≤ y.2.2.1 ∧ x.2.2.2 ≤ M.2.2 ∧ y.2.2.2 ≤ M.2.2 ∧ ∀ p, M.2.1 ≤ p → p < M.2.2 → (x.2.2.1 ≤ p ∧ p < x.2.2.2) ∨ (y.2.2.1 ≤ p ∧ p < y.2.2.2) := by
    rw [ln]
    have nx : x.2.2.1 < x.2.2.2 := by have := ax.2; omega
    have ny : y.2.2.1 < y.2.2.2 := by have := ay.2; omega
    refine ⟨?_, ?_, ?_, ?_, fun p p1 p2 => ?_⟩
    · show (if ra rs r < ra rs q then ra rs r else ra rs q) ≤ _
      split <;> omega
    · show (if ra rs r < ra rs q then ra rs r else ra rs q) ≤ _
      split <;> omega
    · show _ ≤ (if rb rs q < rb rs r then rb rs r else rb rs q)
      split <;> omega
    · show _ ≤ (if rb rs q < rb rs r then rb rs r else rb rs q)
      split <;> omega
    · have p1 : (if ra rs r < ra rs q then ra rs r else ra rs q) ≤ p := p1
      have p2 : p < (if rb rs q < rb rs r then rb rs r else rb rs q) := p2
      split at p1 <;> split at p2 <;> omega
  have hlq : q < L.length := by omega
  have new : (x.1, M) ∈ (L.set q (x.1, M)).eraseIdx r := mem_er (i := q) (by rw [List.getElem?_set, if_pos rfl, if_pos hlq]) (by omega)
  have keep : ∀ z ∈ L, z ≠ x → z ≠ y → z ∈ (L.set q (x.1, M)).eraseIdx r := fun z hz zx zy => by
    obtain ⟨i, hi⟩ := List.getElem?_of_mem hz
    have iq : i ≠ q := fun e => zx (by rw [e, hx] at hi; exact (Option.some.inj hi).symm)
    have ir : i ≠ r := fun e => zy (by rw [e, hy] at hi; exact (Option.some.inj hi).symm)
    exact mem_er (i := i) (by rw [List.getElem?_set, if_neg (Ne.symm iq)]; exact hi) ir
  have back : ∀ z ∈ (L.set q (x.1, M)).eraseIdx r, z = (x.1, M) ∨ z ∈ L := fun z hz => by
    rcases List.mem_or_eq_of_mem_set (List.mem_of_mem_eraseIdx hz) with e | e
    · exact Or.inr e
    · exact Or.inl e
  refine ⟨(L.set q (x.1, M)).eraseIdx r, ?_, ?_, fun z hz => ?_, fun i hi ha => ?_, fun i hi ha => ?_, fun z hz ha p p1 p2 => ?_⟩
  · rw [er_map, List.map_set, hL, ← hM]
    rfl
  · rw [er_map, List.map_set]
    refine List.Pairwise.sublist (List.eraseIdx_sublist _ _) ?_
    have : (L.map (·.1)).set q x.1 = L.map (·.1) := by
      apply List.ext_getElem?
      intro i
      rw [List.getElem?_set]
      by_cases e : q = i
      · subst e
        rw [if_pos rfl, if_pos (by rw [List.length_map]; exact hlq), List.getElem?_map, hx]
        rfl
      · rw [if_neg e]
    show ((L.map (·.1)).set q x.1).Pairwise (· < ·)
    rw [this]
    exact j1
  · rcases back z hz with e | e
    · subst e
      exact ⟨x1, by show M.1 = _; rw [M1, ← x2, kx], fun c => absurd ax c, fun _ => ⟨by show M.2.1 ≤ ra r0 x.1; omega, by show rb r0 x.1 ≤ M.2.2; omega⟩⟩
    · exact j2 z e
  · refine keep _ (j3 i hi ha) (fun e => ha ?_) (fun e => ha ?_)
    · have : x.1 = i := by rw [← e]
      rw [← this]
      exact ax
    · have : y.1 = i := by rw [← e]
      rw [← this]
      exact ay
  · obtain ⟨z, z1, z2, z3, z4, z5⟩ := j4 i hi ha
    by_cases e1 : z = x
    · subst e1
      exact ⟨(z.1, M), new, z2, ax, by show M.2.1 ≤ _; omega, by show _ ≤ M.2.2; omega⟩
    · by_cases e2 : z = y
      · subst e2
        exact ⟨(x.1, M), new, by show x.1 ≤ i; omega, ax, by show M.2.1 ≤ _; omega, by show _ ≤ M.2.2; omega⟩
      · exact ⟨z, keep z z1 e1 e2, z2, z3, z4, z5⟩
  · rcases back z hz with e | e
    · subst e
      rcases M2.2.2.2.2 p p1 p2 with w | w
      · exact j5 x mx ax p w.1 w.2
      · exact j5 y my ay p w.1 w.2
    · exact j5 z e ha p p1 p2
theorem JT.sep {k L0 : Nat} {r0 : List RG} {L : List TG} (hw : WR L0 r0) (h : JT k r0 L) (hn : NF k (L.map (·.2))) : ∀ x ∈ L, ∀ y ∈ L, act k r0 x.1 → act k r0 y.1 → x ≠ y → x.2.2.2 < y.2.2.1 ∨ y.2.2.2 < x.2.2.1 := by
  obtain ⟨j1, j2, j3, j4, j5⟩ := h
  have one : ∀ (i j : Nat) (x y : TG), i < j → L[i]? = some x → L[j]? = some y → act k r0 x.1 → act k r0 y.1 → x.2.2.2 < y.2.2.1 ∨ y.2.2.2 < x.2.2.1 := by
    intro i j x y hij hx hy ax ay
    have ex := el_mp hx
    have ey := el_mp hy
    obtain ⟨x1, x2, x3, x4⟩ := j2 x (List.mem_of_getElem? hx)
    obtain ⟨y1, y2, y3, y4⟩ := j2 y (List.mem_of_getElem? hy)
    have hj := (List.getElem?_eq_some_iff.mp hy).1
    have e1 : kd (L.map (·.2)) i = k := by rw [← el_1, ex, x2]; exact ax.1
    have e2 : kd (L.map (·.2)) j = k := by rw [← el_1, ey, y2]; exact ay.1
    have e3 : ra (L.map (·.2)) i = x.2.2.1 := by rw [← el_2, ex]
    have e4 : rb (L.map (·.2)) i = x.2.2.2 := by rw [← el_3, ex]
    have e5 : ra (L.map (·.2)) j = y.2.2.1 := by rw [← el_2, ey]
    have e6 : rb (L.map (·.2)) j = y.2.2.2 := by rw [← el_3, ey]
    have hnn := hn i j hij (by rw [List.length_map]; exact hj) e1
    have := x4 ax
    have := y4 ay
    have := ax.2
    have := ay.2
    rcases Nat.lt_or_ge x.2.2.2 y.2.2.1 with q | q
    · exact Or.inl q
    · rcases Nat.lt_or_ge y.2.2.2 x.2.2.1 with w | w
      · exact Or.inr w
      · exact absurd ⟨by omega, by omega, by omega, by omega, by omega⟩ hnn
  intro x hx y hy ax ay hne
  obtain ⟨i, hi⟩ := List.getElem?_of_mem hx
  obtain ⟨j, hj⟩ := List.getElem?_of_mem hy
  rcases Nat.lt_or_ge i j with q | q
  · exact one i j x y q hi hj ax ay
  · rcases Nat.lt_or_eq_of_le q with w | w
    · exact (one j i y x w hj hi ay ax).symm
    · exfalso
      subst w
      rw [hi] at hj
      exact hne (Option.some.inj hj)
theorem JT.sub {k L0 : Nat} {r0 : List RG} {L M : List TG} (hw : WR L0 r0) (hL : JT k r0 L) (hM : JT k r0 M) (nL : NF k (L.map (·.2))) (nM : NF k (M.map (·.2))) : ∀ x ∈ L, x ∈ M := by
  have sL := JT.sep hw hL nL
  have sM := JT.sep hw hM nM
  obtain ⟨j1, j2, j3, j4, j5⟩ := hL
  obtain ⟨m1, m2, m3, m4, m5⟩ := hM
  intro x hx
  obtain ⟨x1, x2, x3, x4⟩ := j2 x hx
  by_cases ax : act k r0 x.1
  · obtain ⟨y, y1, y2, y3, y4, y5⟩ := m4 x.1 x1 ax
    obtain ⟨u1, u2, u3, u4⟩ := m2 y y1
    obtain ⟨w1, w2⟩ := x4 ax
    obtain ⟨v1, v2⟩ := u4 y3
    have ax2 := ax.2
    -- whatever covers a place of one covers it in the other
    have inL : ∀ p, (∃ i, i < r0.length ∧ act k r0 i ∧ ra r0 i ≤ p ∧ p < rb r0 i) → ∃ z ∈ L, act k r0 z.1 ∧ z.2.2.1 ≤ p ∧ p < z.2.2.2 := fun p ⟨i, i1, i2, i3, i4⟩ => by
      obtain ⟨z, z1, z2, z3, z4, z5⟩ := j4 i i1 i2
      exact ⟨z, z1, z3, by omega, by omega⟩
    have inM : ∀ p, (∃ i, i < r0.length ∧ act k r0 i ∧ ra r0 i ≤ p ∧ p < rb r0 i) → ∃ z ∈ M, act k r0 z.1 ∧ z.2.2.1 ≤ p ∧ p < z.2.2.2 := fun p ⟨i, i1, i2, i3, i4⟩ => by
      obtain ⟨z, z1, z2, z3, z4, z5⟩ := m4 i i1 i2
      exact ⟨z, z1, z3, by omega, by omega⟩
    have ea : x.2.2.1 = y.2.2.1 := by
      rcases Nat.lt_trichotomy x.2.2.1 y.2.2.1 with q | q | q
      · exfalso
        obtain ⟨z, z1, z2, z3, z4⟩ := inM (y.2.2.1 - 1) (j5 x hx ax _ (by omega) (by omega))
        have hne : z ≠ y := fun e => by rw [e] at z3; omega
        have := sM z z1 y y1 z2 y3 hne
        omega
      · exact q
      · exfalso
        obtain ⟨z, z1, z2, z3, z4⟩ := inL (x.2.2.1 - 1) (m5 y y1 y3 _ (by omega) (by omega))
        have hne : z ≠ x := fun e => by rw [e] at z3; omega
        have := sL z z1 x hx z2 ax hne
        omega
    have eb : x.2.2.2 = y.2.2.2 := by
      rcases Nat.lt_trichotomy x.2.2.2 y.2.2.2 with q | q | q
      · exfalso
        obtain ⟨z, z1, z2, z3, z4⟩ := inL x.2.2.2 (m5 y y1 y3 _ (by omega) (by omega))
        have hne : z ≠ x := fun e => by rw [e] at z4; omega
        have := sL z z1 x hx z2 ax hne
        omega
      · exact q
      · exfalso
        obtain ⟨z, z1, z2, z3, z4⟩ := inM y.2.2.2 (j5 x hx ax _ (by omega) (by omega))
        have hne : z ≠ y := fun e => by rw [e] at z4; omega
        have := sM z z1 y y1 z2 y3 hne
        omega
    -- the least number stays
    obtain ⟨t, t1, t2, t3, t4, t5⟩ := j4 y.1 u1 y3
    have ay2 := y3.2
    have etx : t = x := by
      by_cases c : t = x
      · exact c
      · exfalso
        have := sL t t1 x hx t3 ax c
        omega
    have et : x.1 = y.1 := by
      rw [etx] at t2
      omega
    have : x = y := by
      have k1 : x.2.1 = y.2.1 := by rw [x2, u2, et]
      obtain ⟨a, b, c, e⟩ := x
      obtain ⟨a', b', c', e'⟩ := y
      simp only at et k1 ea eb
      rw [et, k1, ea, eb]
    rw [this]
    exact y1
  · have := m3 x.1 x1 ax
    rw [← x3 ax] at this
    exact this
theorem srt_same : ∀ {L M : List TG}, (L.map (·.1)).Pairwise (· < ·) → (M.map (·.1)).Pairwise (· < ·) → (∀ x ∈ L, x ∈ M) → (∀ x ∈ M, x ∈ L) → L = M
  | [], [], _, _, _, _ => rfl
  | [], y :: M, _, _, _, h => absurd (h y List.mem_cons_self) (by simp)
  | x :: L, [], _, _, h, _ => absurd (h x List.mem_cons_self) (by simp)
  | x :: L, y :: M, h1, h2, h3, h4 => by
    rw [List.map_cons, List.pairwise_cons] at h1 h2
    have exy : x = y := by
      rcases List.mem_cons.mp (h3 x List.mem_cons_self) with e | e
      · exact e
      · rcases List.mem_cons.mp (h4 y List.mem_cons_self) with e' | e'
        · exact e'.symm
        · have a := h2.1 x.1 (List.mem_map.mpr ⟨x, e, rfl⟩)
          have b := h1.1 y.1 (List.mem_map.mpr ⟨y, e', rfl⟩)
          omega
    subst exy
    have : L = M := srt_same h1.2 h2.2 (fun z hz => by
      rcases List.mem_cons.mp (h3 z (List.mem_cons_of_mem _ hz)) with e | e
      · have := h1.1 z.1 (List.mem_map.mpr ⟨z, hz, rfl⟩)
        rw [e] at this
        omega
      · exact e) (fun z hz => by
      rcases List.mem_cons.mp (h4 z (List.mem_cons_of_mem _ hz)) with e | e
      · have := h2.1 z.1 (List.mem_map.mpr ⟨z, hz, rfl⟩)
        rw [e] at this
        omega
      · exact e)
    rw [this]
theorem nf_one {k L0 : Nat} {r0 rs qs : List RG} (hw : WR L0 r0) (h1 : JJ k r0 rs) (n1 : NF k rs) (h2 : JJ k r0 qs) (n2 : NF k qs) : rs = qs := by
  obtain ⟨L, e1, j1⟩ := h1
  obtain ⟨M, e2, j2⟩ := h2
  subst e1
  subst e2
  rw [srt_same j1.1 j2.1 (JT.sub hw j1 j2 n1 n2) (JT.sub hw j2 j1 n2 n1)]
/-! what the class' gathering comes to -/
theorem gathQ_ind2 {r : Nat} (I : List RG → Prop) (hI : ∀ rs q, I rs → r < q → q < rs.length → hangB rs r q → I (mrg rs r q)) : ∀ (q : Nat) (rs : List RG), I rs → r < rs.length → q < rs.length → I (gathQ r q rs)
  | 0, rs, h, hr, _ => h
  | q + 1, rs, h, hr, hq => by
    unfold gathQ
    split
    · exact h
    · next hrq =>
      split
      · next hh =>
        have hl := mrg_len (r := r) hq
        exact gathQ_ind2 I hI q _ (hI rs (q + 1) h (by omega) hq hh) (by omega) (by omega)
      · exact gathQ_ind2 I hI q rs h hr (by omega)
theorem gathN_ind2 {L0 r : Nat} (I : List RG → Prop) (hI : ∀ rs q, I rs → r < q → q < rs.length → hangB rs r q → I (mrg rs r q)) : ∀ (n : Nat) (rs : List RG), WR L0 rs → I rs → r < rs.length → I (gathN r n rs)
  | 0, rs, _, h, hr => h
  | n + 1, rs, hw, h, hr => by
    obtain ⟨h1, h2⟩ := gathQ_inv (rs.length - 1) rs hw hr (by omega)
    exact gathN_ind2 I hI n _ h1 (gathQ_ind2 I hI (rs.length - 1) rs h hr (by omega)) h2
theorem gathQ_st {r : Nat} : ∀ (q : Nat) (rs : List RG), r < rs.length → q < rs.length → (gathQ r q rs).length ≤ rs.length ∧ ((gathQ r q rs).length = rs.length → gathQ r q rs = rs ∧ ∀ j, r < j → j ≤ q → ¬ hangB rs r j)
  | 0, rs, hr, _ => ⟨Nat.le_refl _, fun _ => ⟨rfl, fun j h1 h2 => by omega⟩⟩
  | q + 1, rs, hr, hq => by
    have e : gathQ r (q + 1) rs = if q + 1 ≤ r then rs else gathQ r q (if hangB rs r (q + 1) then mrg rs r (q + 1) else rs) := rfl
    rw [e]
    by_cases h1 : q + 1 ≤ r
    · rw [if_pos h1]
      exact ⟨Nat.le_refl _, fun _ => ⟨rfl, fun j h2 h3 => by omega⟩⟩
    · rw [if_neg h1]
      by_cases h2 : hangB rs r (q + 1)
      · rw [if_pos h2]
        have hl := mrg_len (r := r) hq
        have := (gathQ_st (r := r) q (mrg rs r (q + 1)) (by omega) (by omega)).1
        exact ⟨by omega, fun w => by omega⟩
      · rw [if_neg h2]
        obtain ⟨i1, i2⟩ := gathQ_st q rs hr (by omega)
        refine ⟨i1, fun w => ?_⟩
        obtain ⟨i3, i4⟩ := i2 w
        refine ⟨i3, fun j j1 j2 => ?_⟩
        by_cases ej : j = q + 1
        · rw [ej]; exact h2
        · exact i4 j j1 (by omega)
theorem gathQ_no {r : Nat} : ∀ (q : Nat) (rs : List RG), q < rs.length → (∀ j, r < j → j < rs.length → ¬ hangB rs r j) → gathQ r q rs = rs
  | 0, rs, _, _ => rfl
  | q + 1, rs, hq, h => by
    have e : gathQ r (q + 1) rs = if q + 1 ≤ r then rs else gathQ r q (if hangB rs r (q + 1) then mrg rs r (q + 1) else rs) := rfl
    rw [e]
    by_cases h1 : q + 1 ≤ r
    · rw [if_pos h1]
    · rw [if_neg h1, if_neg (h _ (by omega) hq)]
      exact gathQ_no q rs (by omega) h
theorem gathN_no {r : Nat} : ∀ (n : Nat) (rs : List RG), r < rs.length → (∀ j, r < j → j < rs.length → ¬ hangB rs r j) → gathN r n rs = rs
  | 0, rs, _, _ => rfl
  | n + 1, rs, hr, h => by
    show gathN r n (gathQ r (rs.length - 1) rs) = rs
    rw [gathQ_no _ rs (by omega) h]
    exact gathN_no n rs hr h
theorem gathN_nf {L0 r : Nat} : ∀ (n : Nat) (rs : List RG), WR L0 rs → r < rs.length → rs.length ≤ n + r + 1 → ∀ j, r < j → j < (gathN r n rs).length → ¬ hangB (gathN r n rs) r j
  | 0, rs, _, hr, hl => fun j h1 h2 => by
    have h2 : j < rs.length := h2
    omega
  | n + 1, rs, hw, hr, hl => by
    show ∀ j, r < j → j < (gathN r n (gathQ r (rs.length - 1) rs)).length → ¬ hangB (gathN r n (gathQ r (rs.length - 1) rs)) r j
    obtain ⟨h1, h2⟩ := gathQ_inv (rs.length - 1) rs hw hr (by omega)
    obtain ⟨s1, s2⟩ := gathQ_st (rs.length - 1) rs hr (by omega)
    by_cases e : (gathQ r (rs.length - 1) rs).length = rs.length
    · obtain ⟨s3, s4⟩ := s2 e
      rw [s3]
      have hno : ∀ j, r < j → j < rs.length → ¬ hangB rs r j := fun j j1 j2 => s4 j j1 (by omega)
      rw [gathN_no n rs hr hno]
      exact hno
    · exact gathN_nf n _ h1 h2 (by omega)
/-- of those ahead of r nothing of the kind hangs together with one behind it -/
def NFu (k r : Nat) (rs : List RG) : Prop := ∀ i q, i < r → i < q → q < rs.length → kd rs i = k → ¬ hangB rs i q
theorem NFu_mrg {L0 k r : Nat} {rs : List RG} {q : Nat} (hw : WR L0 rs) (h : NFu k r rs) (hr : r < q) (hq : q < rs.length) (hh : hangB rs r q) : NFu k r (mrg rs r q) := by
  intro i j hi hij hj hk hn
  have hl := mrg_len (r := r) hq
  have ei : el (mrg rs r q) i = el rs i := by rw [mrg_el hr hq, if_pos (by omega), if_neg (by omega)]
  have ki : kd (mrg rs r q) i = kd rs i := by rw [← el_1, ei, el_1]
  have ai : ra (mrg rs r q) i = ra rs i := by rw [← el_2, ei, el_2]
  have bi : rb (mrg rs r q) i = rb rs i := by rw [← el_3, ei, el_3]
  have oth : ∀ j', i < j' → j' < rs.length → el (mrg rs r q) j = el rs j' → False := fun j' h1 h2 e => by
    refine h i j' hi h1 h2 (by omega) ?_
    obtain ⟨n1, n2, n3, n4, n5⟩ := hn
    have kj : kd (mrg rs r q) j = kd rs j' := by rw [← el_1, e, el_1]
    have aj : ra (mrg rs r q) j = ra rs j' := by rw [← el_2, e, el_2]
    have bj : rb (mrg rs r q) j = rb rs j' := by rw [← el_3, e, el_3]
    exact ⟨by omega, by omega, by omega, by omega, by omega⟩
  rcases Nat.lt_or_ge j q with w | w
  · by_cases e : j = r
    · subst e
      have ej : el (mrg rs j q) j = mgR rs j q := by rw [mrg_el hr hq, if_pos w, if_pos rfl]
      have kj : kd (mrg rs j q) j = kd rs j := by rw [← el_1, ej]; rfl
      have aj : ra (mrg rs j q) j = (if ra rs q < ra rs j then ra rs q else ra rs j) := by rw [← el_2, ej]; rfl
      have bj : rb (mrg rs j q) j = (if rb rs j < rb rs q then rb rs q else rb rs j) := by rw [← el_3, ej]; rfl
      obtain ⟨n1, n2, n3, n4, n5⟩ := hn
      obtain ⟨g1, g2, g3, g4, g5⟩ := hh
      have u1 := h i j hi hij (by omega) (by omega)
      have u2 := h i q hi (by omega) hq (by omega)
      have b1 := (hw.at (show j < rs.length by omega)).2.1
      have b2 := (hw.at hq).2.1
      have b3 := (hw.at (show i < rs.length by omega)).2.1
      rw [aj, bj] at n2
      rw [aj] at n5
      rw [bj] at n4
      have v1 : ¬ (ra rs i ≤ rb rs j ∧ ra rs j ≤ rb rs i) := fun z => u1 ⟨by omega, by omega, by omega, z.1, z.2⟩
      have v2 : ¬ (ra rs i ≤ rb rs q ∧ ra rs q ≤ rb rs i) := fun z => u2 ⟨by omega, by omega, by omega, z.1, z.2⟩
      split at n4 <;> split at n5 <;> omega
    · exact oth j (by omega) (by omega) (by rw [mrg_el hr hq, if_pos w, if_neg e])
  · exact oth (j + 1) (by omega) (by omega) (by rw [mrg_el hr hq, if_neg (by omega)])
theorem jnS_nf {L0 k : Nat} : ∀ (n r : Nat) (rs : List RG), WR L0 rs → rs.length ≤ r + n → NFu k r rs → NF k (jnS k n r rs)
  | 0, r, rs, hw, hl, h => fun i q h1 h2 h3 => h i q (by have h2 : q < rs.length := h2; omega) h1 h2 h3
  | n + 1, r, rs, hw, hl, h => by
    unfold jnS
    by_cases hr : r < rs.length
    · rw [if_pos hr]
      by_cases hk : kd rs r = k
      · rw [if_pos hk]
        obtain ⟨g1, g2⟩ := gather_inv hw hr
        have h8 := hw.1
        refine jnS_nf n (r + 1) _ g1 ?_ ?_
        · have : (gather rs r).length ≤ rs.length := by
            unfold gather
            split
            · exact Nat.le_refl _
            · exact gathN_ind2 (L0 := L0) (fun qs => qs.length ≤ rs.length) (fun qs q h1 h2 h3 _ => by rw [mrg_len h3]; omega) 8 rs hw (Nat.le_refl _) hr
          omega
        · intro i q h1 h2 h3 h4
          by_cases e : i = r
          · subst e
            unfold gather at h3 ⊢
            by_cases he : ra rs i = rb rs i
            · rw [if_pos he]
              exact fun z => z.1 he
            · rw [if_neg he] at h3 ⊢
              exact gathN_nf 8 rs hw hr (by omega) q h2 h3
          · have hu : WR L0 (gather rs r) ∧ NFu k r (gather rs r) := by
              unfold gather
              split
              · exact ⟨hw, h⟩
              · exact gathN_ind2 (L0 := L0) (fun qs => WR L0 qs ∧ NFu k r qs) (fun qs q h1 h2 h3 h4 => ⟨WR_mrg h1.1 (by omega) h3, NFu_mrg h1.1 h1.2 h2 h3 h4⟩) 8 rs hw ⟨hw, h⟩ hr
            exact hu.2 i q (by omega) h2 h3 h4
      · rw [if_neg hk]
        refine jnS_nf n (r + 1) rs hw (by omega) (fun i q h1 h2 h3 h4 => ?_)
        by_cases e : i = r
        · rw [e] at h4
          exact absurd h4 hk
        · exact h i q (by omega) h2 h3 h4
    · rw [if_neg hr]
      exact fun i q h1 h2 h3 => h i q (by omega) h1 h2 h3
theorem joinX_nf {L0 k : Nat} {rs : List RG} (hw : WR L0 rs) : JJ k rs (joinX k rs) ∧ NF k (joinX k rs) := ⟨jnS_ind (JJ k rs) (fun qs r q h h1 h2 h3 h4 => JJ.mrg hw h h1 h2 h3 h4) 8 0 rs (JJ.rf hw), jnS_nf 8 0 rs hw (by have := hw.1; omega) (fun i q h => absurd h (Nat.not_lt_zero _))⟩
