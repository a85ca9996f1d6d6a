/-! the small machine's memory as cells of the heap -/
def cv (adr : Nat → Nat) : TV → Value
  | .inl x => .int x
  | .inr (.inl x) => .long x
  | .inr (.inr (_, id)) => .ref (adr id)
def kn : TV → Bool
  | .inr (.inr (0, _)) => false
  | _ => true
def prs (adr : Nat → Nat) : Nat → List TV → List (Nat × Value)
  | _, [] => []
  | i, v :: l => match kn v with
    | true => (i, cv adr v) :: prs adr (i + 1) l
    | false => prs adr (i + 1) l
theorem prs_mem {adr : Nat → Nat} {q : Nat × Value} : ∀ {ls : List TV} {i : Nat}, q ∈ prs adr i ls ↔ ∃ (k : Nat) (w : TV), ls[k]? = some w ∧ kn w = true ∧ q = (i + k, cv adr w)
  | [], i => by simp [prs]
  | v :: l, i => by
    have ih := prs_mem (adr := adr) (q := q) (ls := l) (i := i + 1)
    constructor
    · intro h
      cases hv : kn v with
      | true =>
        simp only [prs, hv] at h
        rcases List.mem_cons.mp h with h | h
        · exact ⟨0, v, rfl, hv, by simpa using h⟩
        · obtain ⟨k, w, h1, h2, h3⟩ := ih.mp h
          exact ⟨k + 1, w, by simpa using h1, h2, by rw [h3]; congr 1; omega⟩
      | false =>
        simp only [prs, hv] at h
        obtain ⟨k, w, h1, h2, h3⟩ := ih.mp h
        exact ⟨k + 1, w, by simpa using h1, h2, by rw [h3]; congr 1; omega⟩
    · rintro ⟨k, w, h1, h2, h3⟩
      cases k with
      | zero =>
        simp at h1
        subst h1
        simp only [prs, h2]
        exact List.mem_cons.mpr (Or.inl (by simpa using h3))
      | succ k =>
        have h4 : q ∈ prs adr (i + 1) l := ih.mpr ⟨k, w, by simpa using h1, h2, by rw [h3]; congr 1; omega⟩
        cases hv : kn v with
        | true => simp only [prs, hv]; exact List.mem_cons_of_mem _ h4
        | false => simp only [prs, hv]; exact h4
def LH (adr : Nat → Nat) (la : Array Slot) (nL : Nat) (ls : List TV) : Prop := lv_has la nL (prs adr 0 ls) ∧ ls.length = nL
theorem LH.get {adr : Nat → Nat} {la : Array Slot} {nL : Nat} {ls : List TV} (h : LH adr la nL ls) {k : Nat} {v : TV} (hk : ls[k]? = some v) (hv : kn v = true) : la[k]? = some (.val (cv adr v)) :=
  h.1.2.2 (k, cv adr v) (prs_mem.mpr ⟨k, v, hk, hv, by simp⟩)
theorem cv_cat (adr : Nat → Nat) (v : TV) : (cv adr v).category = tcat v := by
  rcases v with x | x | x <;> rfl
theorem isL_cat {v : TV} : isL v = true ↔ tcat v = 2 := by
  rcases v with x | x | x <;> simp [isL, tcat]
theorem sto_len (ls : List TV) (i : Nat) (v : TV) : (sto ls i v).length = ls.length := by
  unfold sto
  split
  · simp
  · split
    · split <;> simp
    · simp
theorem sto_get {ls : List TV} {i j : Nat} {v u : TV} (h : (sto ls i v)[j]? = some u) (hu : kn u = true) : (j = i ∧ u = v) ∨ (j ≠ i ∧ ls[j]? = some u ∧ ¬ (j + 1 = i ∧ isL u = true)) := by
  cases i with
  | zero =>
    simp only [sto] at h
    by_cases hj : j = 0
    · subst hj
      rw [List.getElem?_set] at h
      simp at h
      exact Or.inl ⟨rfl, by rw [← h.2]⟩
    · rw [List.getElem?_set_ne (Ne.symm hj)] at h
      exact Or.inr ⟨hj, h, fun q => by omega⟩
  | succ i =>
    simp only [sto] at h
    by_cases hj : j = i + 1
    · subst hj
      rw [List.getElem?_set] at h
      simp at h
      exact Or.inl ⟨rfl, by rw [← h.2]⟩
    · rw [List.getElem?_set_ne (Ne.symm hj)] at h
      refine Or.inr ⟨hj, ?_⟩
      cases hw : ls[i]? with
      | none =>
        rw [hw] at h
        refine ⟨h, fun q => ?_⟩
        have e : j = i := by omega
        subst e
        rw [hw] at h
        cases h
      | some w =>
        rw [hw] at h
        cases hL : isL w with
        | false =>
          simp only [hL] at h
          refine ⟨h, fun q => ?_⟩
          have e : j = i := by omega
          subst e
          have e2 : w = u := by
            have := hw.symm.trans h
            exact Option.some.inj this
          subst e2
          rw [hL] at q
          exact absurd q.2 (by simp)
        | true =>
          simp only [hL, if_true] at h
          by_cases e : j = i
          · subst e
            rw [List.getElem?_set] at h
            simp at h
            obtain ⟨-, h⟩ := h
            subst h
            simp [kn] at hu
          · rw [List.getElem?_set_ne (Ne.symm e)] at h
            exact ⟨h, fun q => e (by omega)⟩
theorem LH.set {adr : Nat → Nat} {la la' : Array Slot} {nL i : Nat} {ls : List TV} {v : TV} (h : LH adr la nL ls) (h' : lv_has la' nL ((i, cv adr v) :: (prs adr 0 ls).filter (fun q => !(q.1 == i) && !(q.1 + 1 == i && q.2.category == 2)))) : LH adr la' nL (sto ls i v) := by
  refine ⟨⟨h'.1, h'.2.1, fun q hq => ?_⟩, by rw [sto_len]; exact h.2⟩
  obtain ⟨k, w, h1, h2, rfl⟩ := prs_mem.mp hq
  rw [Nat.zero_add]
  refine h'.2.2 (k, cv adr w) ?_
  rcases sto_get h1 h2 with ⟨e1, e2⟩ | ⟨e1, e2, e3⟩
  · subst e1; subst e2; exact List.mem_cons_self
  · refine List.mem_cons_of_mem _ (List.mem_filter.mpr ⟨prs_mem.mpr ⟨k, w, e2, h2, by simp⟩, ?_⟩)
    rw [cv_cat]
    have e4 : ¬ (k + 1 = i ∧ tcat w = 2) := fun q => e3 ⟨q.1, isL_cat.mpr q.2⟩
    by_cases a : k + 1 = i
    · have b : ¬ tcat w = 2 := fun q => e4 ⟨a, q⟩
      simp [e1, b]
    · simp [e1, a]
theorem LH.setL {adr : Nat → Nat} {la la' : Array Slot} {nL i : Nat} {ls : List TV} {v : TV} (h : LH adr la nL ls) (h' : lv_has la' nL ((i, cv adr v) :: (prs adr 0 ls).filter (fun q => !(q.1 == i) && (!(q.1 == i + 1) && !(q.1 + 1 == i && q.2.category == 2))))) : LH adr la' nL ((sto ls i v).set (i + 1) un) := by
  refine ⟨⟨h'.1, h'.2.1, fun q hq => ?_⟩, by rw [List.length_set, sto_len]; exact h.2⟩
  obtain ⟨k, w, h1, h2, rfl⟩ := prs_mem.mp hq
  rw [Nat.zero_add]
  refine h'.2.2 (k, cv adr w) ?_
  have hk : ¬ k = i + 1 := fun e => by
    subst e
    rw [List.getElem?_set] at h1
    simp at h1
    obtain ⟨-, h1⟩ := h1
    subst h1
    simp [kn] at h2
  rw [List.getElem?_set_ne (fun e => hk e.symm)] at h1
  rcases sto_get h1 h2 with ⟨e1, e2⟩ | ⟨e1, e2, e3⟩
  · subst e1; subst e2; exact List.mem_cons_self
  · refine List.mem_cons_of_mem _ (List.mem_filter.mpr ⟨prs_mem.mpr ⟨k, w, e2, h2, by simp⟩, ?_⟩)
    rw [cv_cat]
    have e4 : ¬ (k + 1 = i ∧ tcat w = 2) := fun q => e3 ⟨q.1, isL_cat.mpr q.2⟩
    by_cases a : k + 1 = i
    · have b : ¬ tcat w = 2 := fun q => e4 ⟨a, q⟩
      simp [e1, b, hk]
    · simp [e1, a, hk]
/-! kinds -/
def knd (lay : List Nat) (id : Nat) : Nat := lay.getD id 0
def kOK (lay : List Nat) : TV → Prop
  | .inr (.inr (τ, id)) => τ = 0 ∨ knd lay id = τ
  | _ => True
theorem sto_in {ls : List TV} {i : Nat} {v u : TV} (h : u ∈ sto ls i v) : u = v ∨ u = un ∨ u ∈ ls := by
  unfold sto at h
  split at h
  · rcases List.mem_or_eq_of_mem_set h with h | h
    · exact Or.inr (Or.inr h)
    · exact Or.inl h
  · rcases List.mem_or_eq_of_mem_set h with h | h
    · split at h
      · split at h
        · rcases List.mem_or_eq_of_mem_set h with h | h
          · exact Or.inr (Or.inr h)
          · exact Or.inr (Or.inl h)
        · exact Or.inr (Or.inr h)
      · exact Or.inr (Or.inr h)
    · exact Or.inl h
theorem kOK_un (lay : List Nat) : kOK lay un := Or.inl rfl
theorem kOK_sto {lay : List Nat} {ls : List TV} {i : Nat} {v : TV} (h : ∀ u ∈ ls, kOK lay u) (hv : kOK lay v) : ∀ u ∈ sto ls i v, kOK lay u := by
  intro u hu
  rcases sto_in hu with e | e | e
  · rw [e]; exact hv
  · rw [e]; exact kOK_un lay
  · exact h u e
theorem kOK_lt {lay : List Nat} {id τ : Nat} (h : knd lay id = τ) (h0 : τ ≠ 0) : id < lay.length := by
  rcases Nat.lt_or_ge id lay.length with q | q
  · exact q
  · exfalso
    apply h0
    rw [← h, knd, List.getD, List.getElem?_eq_none q]
    rfl
/-! the world -/
def fval (adr : Nat → Nat) (μ : Mem) (id ci k : Nat) : Value := if (fkt ci k).1 < 2 then .int (μ.1 id k) else .ref (adr (id + (fkt ci k).2))
def nfl (ci : Nat) : Nat := (clsF.getD ci []).length
def cellE (adr : Nat → Nat) (cA : Nat → ClassId) (μ : Mem) (τ id : Nat) : va_E :=
  match rarr τ with
  | some (n, _, g) => .inl (cA id, (n, .inr (.inr (.inr (.inr (fun j => if j < n then some (adr (id + 1 + g * j)) else none))))))
  | none => if τ < 20 then .inr (τ - 10, (List.range (nfl (τ - 10))).map (fval adr μ id (τ - 10)))
    else if τ < 20000 then .inl (cA id, (τ - 10000, .inl (μ.1 id)))
    else .inl (cA id, (τ - 20000, .inr (.inl (μ.2 id))))
def aty (τ : Nat) : FieldType := if τ = 30 then .object "NestRanges$Text" else if τ < 33 then .array .int else if τ < 20000 then .int else .long
def wld (lay : List Nat) (adr : Nat → Nat) (cA : Nat → ClassId) (μ : Mem) : va_W := (List.range lay.length).map fun id => (adr id, cellE adr cA μ (knd lay id) id)
def tysL (lay : List Nat) (cA : Nat → ClassId) : List (ClassId × FieldType) := ((List.range lay.length).filter (fun id => Nat.ble 20 (knd lay id))).map fun id => (cA id, aty (knd lay id))
def Aset (lay : List Nat) (adr : Nat → Nat) (sz : Nat) : Nat → Prop := fun q => (∃ id, id < lay.length ∧ q = adr id) ∨ sz ≤ q
def injA (lay : List Nat) (adr : Nat → Nat) : Prop := ∀ i j, i < lay.length → j < lay.length → adr i = adr j → i = j
theorem wld_get {lay : List Nat} {adr : Nat → Nat} {cA : Nat → ClassId} {μ : Mem} {id τ : Nat} (h : knd lay id = τ) (h0 : τ ≠ 0) : (wld lay adr cA μ)[id]? = some (adr id, cellE adr cA μ τ id) := by
  have hl := kOK_lt h h0
  unfold wld
  rw [List.getElem?_map, List.getElem?_range hl, ← h]
  rfl
theorem wld_at {lay : List Nat} {adr : Nat → Nat} {cA : Nat → ClassId} {μ : Mem} {k : Nat} {q : Nat × va_E} (h : (wld lay adr cA μ)[k]? = some q) : k < lay.length ∧ q = (adr k, cellE adr cA μ (knd lay k) k) := by
  unfold wld at h
  have hl : k < lay.length := by
    have := (List.getElem?_eq_some_iff.mp h).1
    simpa using this
  rw [List.getElem?_map, List.getElem?_range hl] at h
  exact ⟨hl, (Option.some.inj h).symm⟩
theorem wld_D {lay : List Nat} {adr : Nat → Nat} {cA : Nat → ClassId} {μ : Mem} {sz : Nat} (hi : injA lay adr) : va_D (Aset lay adr sz) (wld lay adr cA μ) := by
  refine ⟨fun i j p q hp hq e => ?_, fun k q hq => ?_⟩
  · obtain ⟨l1, e1⟩ := wld_at hp
    obtain ⟨l2, e2⟩ := wld_at hq
    rw [e1, e2] at e
    exact hi i j l1 l2 e
  · obtain ⟨l1, e1⟩ := wld_at hq
    exact Or.inl ⟨k, l1, by rw [e1]⟩
theorem tys_get {lay : List Nat} {cA : Nat → ClassId} {id τ : Nat} (h : knd lay id = τ) (h0 : 20 ≤ τ) : ∃ t0 : Nat, (tysL lay cA)[t0]? = some (cA id, aty τ) := by
  have hl := kOK_lt h (by omega)
  refine List.getElem?_of_mem ?_
  unfold tysL
  refine List.mem_map.mpr ⟨id, List.mem_filter.mpr ⟨List.mem_range.mpr hl, ?_⟩, by rw [h]⟩
  rw [h]
  exact Nat.ble_eq_true_of_le h0
theorem wld_ext {lay : List Nat} {adr : Nat → Nat} {cA : Nat → ClassId} {μ μ1 : Mem} {id τ : Nat} {e : va_E} (h : knd lay id = τ) (h0 : τ ≠ 0) (he : e = cellE adr cA μ1 τ id) (ho : ∀ b : Nat, b ≠ id → ∀ t, cellE adr cA μ1 t b = cellE adr cA μ t b) : (wld lay adr cA μ).set id (adr id, e) = wld lay adr cA μ1 := by
  have hl := kOK_lt h h0
  refine List.ext_getElem? (fun k => ?_)
  by_cases hk : k = id
  · subst hk
    rw [List.getElem?_set_self (by unfold wld; simpa using hl), wld_get h h0, he]
  · rw [List.getElem?_set_ne (Ne.symm hk)]
    unfold wld
    rw [List.getElem?_map, List.getElem?_map]
    cases hr : (List.range lay.length)[k]? with
    | none => rfl
    | some b =>
      have hb : b = k := by
        have hkl : k < lay.length := by
          have := (List.getElem?_eq_some_iff.mp hr).1
          simpa using this
        rw [List.getElem?_range hkl] at hr
        exact (Option.some.inj hr).symm
      subst hb
      simp only [Option.map_some]
      rw [ho b hk]
theorem upI_ne {μ : Mem} {a k b : Nat} {v : Int32} (h : b ≠ a) : (upI μ a k v).1 b = μ.1 b := by
  funext j
  simp [upI, h]
theorem upI_self {μ : Mem} {a k : Nat} {v : Int32} : (upI μ a k v).1 a = upd (μ.1 a) k v := by
  funext j
  simp [upI, upd]
theorem upL_ne {μ : Mem} {a k b : Nat} {v : Int64} (h : b ≠ a) : (upL μ a k v).2 b = μ.2 b := by
  funext j
  simp [upL, h]
theorem upL_self {μ : Mem} {a k : Nat} {v : Int64} : (upL μ a k v).2 a = vp_updL (μ.2 a) k v := by
  funext j
  simp [upL, vp_updL]
theorem cellE_cong {adr : Nat → Nat} {cA : Nat → ClassId} {μ μ1 : Mem} {b : Nat} (h1 : μ1.1 b = μ.1 b) (h2 : μ1.2 b = μ.2 b) (t : Nat) : cellE adr cA μ1 t b = cellE adr cA μ t b := by
  unfold cellE fval
  rw [h1, h2]
/-- a layout in which every reference finds its kind -/
def wfB (lay : List Nat) : Bool := (List.range lay.length).all fun id =>
  (match rarr (knd lay id) with
    | some (n, t, g) => (List.range n).all fun j => knd lay (id + 1 + g * j) == t
    | none => (if knd lay id < 20 then Nat.ble 10 (knd lay id) && Nat.ble (knd lay id) 16 && (List.range (nfl (knd lay id - 10))).all fun k => Nat.ble (fkt (knd lay id - 10) k).1 1 || knd lay (id + (fkt (knd lay id - 10) k).2) == (fkt (knd lay id - 10) k).1
      else Nat.ble 10000 (knd lay id) && Nat.ble (knd lay id) 29999))
theorem wfX : wfB layX = true := by decide +kernel
theorem wfM : wfB layM = true := by decide +kernel
theorem wf_at {lay : List Nat} (h : wfB lay = true) {id τ : Nat} (hk : knd lay id = τ) (h0 : τ ≠ 0) :
  (match rarr τ with
    | some (n, t, g) => (List.range n).all fun j => knd lay (id + 1 + g * j) == t
    | none => (if τ < 20 then Nat.ble 10 τ && Nat.ble τ 16 && (List.range (nfl (τ - 10))).all fun k => Nat.ble (fkt (τ - 10) k).1 1 || knd lay (id + (fkt (τ - 10) k).2) == (fkt (τ - 10) k).1
      else Nat.ble 10000 τ && Nat.ble τ 29999)) = true := by
  have hl := kOK_lt hk h0
  have := List.all_eq_true.mp h id (List.mem_range.mpr hl)
  rw [hk] at this
  exact this
theorem wf_obj {lay : List Nat} (h : wfB lay = true) {id ci : Nat} (hk : knd lay id = ci + 10) (hc : ci < 7) {k t off : Nat} (hk2 : k < nfl ci) (hf : fkt ci k = (t + 2, off)) : knd lay (id + off) = t + 2 := by
  have := wf_at h hk (by omega)
  have hr : rarr (ci + 10) = none := by
    rcases (show ci = 0 ∨ ci = 1 ∨ ci = 2 ∨ ci = 3 ∨ ci = 4 ∨ ci = 5 ∨ ci = 6 by omega) with e | e | e | e | e | e | e <;> subst e <;> rfl
  rw [hr] at this
  simp only [show ci + 10 < 20 by omega, if_true, Nat.add_sub_cancel, Bool.and_eq_true] at this
  have h2 := List.all_eq_true.mp this.2 k (List.mem_range.mpr hk2)
  rw [hf] at h2
  have h3 : Nat.ble (t + 2) 1 = false := by
    cases hb : Nat.ble (t + 2) 1 with
    | false => rfl
    | true => exact absurd (Nat.le_of_ble_eq_true hb) (by omega)
  simp only [h3, Bool.false_or, beq_iff_eq] at h2
  exact h2
theorem wf_arr {lay : List Nat} (h : wfB lay = true) {id τ n t g j : Nat} (hk : knd lay id = τ) (h0 : τ ≠ 0) (hr : rarr τ = some (n, t, g)) (hj : j < n) : knd lay (id + 1 + g * j) = t := by
  have := wf_at h hk h0
  rw [hr] at this
  simpa using List.all_eq_true.mp this j (List.mem_range.mpr hj)
