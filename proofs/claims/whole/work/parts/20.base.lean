/-! numbers, memories and the abstract text -/
theorem nx_le {a b : Nat} (ha : a < 2147483648) (hb : b < 2147483648) : (nI a ≤ nI b) = (a ≤ b) := propext (nI_leI (by omega) (by omega))
theorem nx_lt {a b : Nat} (ha : a < 2147483648) (hb : b < 2147483648) : (nI a < nI b) = (a < b) := propext (nI_ltI (by omega) (by omega))
theorem nx_eq {a b : Nat} (ha : a < 2147483648) (hb : b < 2147483648) : (nI a = nI b) = (a = b) := propext (nI_eq (by omega) (by omega))
theorem nx_cl {a : Nat} (ha : a < 2147483648) : (nI a).toNatClampNeg = a := nI_clamp (by omega)
theorem nx_in {a n : Nat} (hn : n < 2147483648) : vp_in (nI a) n = (a < n) ∨ 2147483648 ≤ a := by
  rcases Nat.lt_or_ge a 2147483648 with h | h
  · refine Or.inl (propext ⟨fun q => ?_, fun q => vp_in_nI q (by omega)⟩)
    have := (vp_in_iff.mp q).2
    rw [nI_toInt (by omega)] at this
    omega
  · exact Or.inr h
theorem nx_in' {a n : Nat} (ha : a < 2147483648) (hn : n < 2147483648) : vp_in (nI a) n = (a < n) := (nx_in hn).resolve_right (by omega)
theorem nx_sub {a b : Nat} (h : b ≤ a) : nI a - nI b = nI (a - b) := pk_sub h
theorem nx_0 : (0 : Int32) = nI 0 := nI_0.symm
theorem nx_shl : ∀ i, i < 31 → (nI 1) <<< (nI i &&& 31) = nI (2 ^ i) := by decide
theorem nx_or (a b : Nat) : nI a ||| nI b = nI (a ||| b) := by
  apply Int32.toBitVec_inj.mp
  show BitVec.ofNat 32 a ||| BitVec.ofNat 32 b = BitVec.ofNat 32 (a ||| b)
  rw [BitVec.ofNat_or]
theorem nx_and (a b : Nat) : nI a &&& nI b = nI (a &&& b) := by
  apply Int32.toBitVec_inj.mp
  show BitVec.ofNat 32 a &&& BitVec.ofNat 32 b = BitVec.ofNat 32 (a &&& b)
  rw [BitVec.ofNat_and]
theorem mI_0 : mI 0 = -1 := by decide
theorem mI_lt (n : Nat) (h : n < 100) : mI n < 0 := by
  have : ∀ n, n < 100 → mI n < 0 := by decide +kernel
  exact this n h
theorem mI_ne {n k : Nat} (h : n < 100) (hk : k < 2147483648) : ¬ mI n = nI k := fun q => by
  have h1 := mI_lt n h
  rw [q] at h1
  exact nI_pos (by omega) h1
/-- of any int: below 0, n or above, or a number below n -/
theorem nx_ix (x : Int32) {n : Nat} (hn : n < 2147483648) : x < 0 ∨ nI n ≤ x ∨ ∃ j : Nat, j < n ∧ x = nI j := pk_ix x (by omega)
theorem nx_ge0 {x : Int32} : (¬ x < 0) = ∃ j : Nat, j < 2147483648 ∧ x = nI j := propext ⟨fun h => by
  obtain ⟨j, h1, h2⟩ := nI_of h
  exact ⟨j, by omega, h2⟩, fun ⟨j, h1, h2⟩ => by rw [h2]; exact nI_pos (by omega)⟩
theorem nx_neg {a : Nat} (ha : a < 2147483648) : ¬ nI a < 0 := nI_pos (by omega)
/-! memories -/
theorem up_get (μ : Mem) (a k : Nat) (v : Int32) (b j : Nat) : (upI μ a k v).1 b j = if b = a ∧ j = k then v else μ.1 b j := rfl
theorem up_at (μ : Mem) (a k : Nat) (v : Int32) : (upI μ a k v).1 a k = v := by rw [up_get, if_pos ⟨rfl, rfl⟩]
theorem up_ne {μ : Mem} {a k b j : Nat} {v : Int32} (h : b ≠ a ∨ j ≠ k) : (upI μ a k v).1 b j = μ.1 b j := by
  rw [up_get, if_neg]
  rintro ⟨h1, h2⟩
  rcases h with h | h
  · exact h h1
  · exact h h2
theorem up_cell {μ : Mem} {a k b : Nat} {v : Int32} (h : b ≠ a) : (upI μ a k v).1 b = μ.1 b := upI_ne h
theorem up_2 (μ : Mem) (a k : Nat) (v : Int32) : (upI μ a k v).2 = μ.2 := rfl
/-- nothing but the cells of S has changed -/
def Fr (S : List Nat) (μ μ1 : Mem) : Prop := (∀ b, b ∉ S → μ1.1 b = μ.1 b) ∧ μ1.2 = μ.2
theorem Fr.rf (S : List Nat) (μ : Mem) : Fr S μ μ := ⟨fun _ _ => rfl, rfl⟩
theorem Fr.tr {S : List Nat} {μ μ1 μ2 : Mem} (h : Fr S μ μ1) (h2 : Fr S μ1 μ2) : Fr S μ μ2 := ⟨fun b hb => (h2.1 b hb).trans (h.1 b hb), h2.2.trans h.2⟩
theorem Fr.up {S : List Nat} {μ μ1 : Mem} {a k : Nat} {v : Int32} (h : Fr S μ μ1) (ha : a ∈ S) : Fr S μ (upI μ1 a k v) := ⟨fun b hb => by
  rw [up_cell (show b ≠ a from fun e => hb (by rw [e]; exact ha))]
  exact h.1 b hb, h.2⟩
theorem Fr.mono {S S' : List Nat} {μ μ1 : Mem} (h : Fr S μ μ1) (hs : ∀ b ∈ S, b ∈ S') : Fr S' μ μ1 := ⟨fun b hb => h.1 b (fun q => hb (hs b q)), h.2⟩
/-! contracts -/
def Pv (x : Int32) (μ : Mem) : PT := fun v μ1 => v = some (vi x) ∧ μ1 = μ
def Pn (Q : Mem → Prop) : PT := fun v μ1 => v = none ∧ Q μ1
def Pq (Q : Int32 → Mem → Prop) : PT := fun v μ1 => ∃ x, v = some (vi x) ∧ Q x μ1
theorem useV {lay : List Nat} {d M : Nat} {av : List TV} {μ : Mem} {c : Int32} {K : Int32 → Mem → Prop} (h : Rn lay d M av μ (Pv c μ)) (k : K c μ) : ∃ P : PT, Rn lay d M av μ P ∧ ∀ (x : Int32) (μ1 : Mem), P (some (vi x)) μ1 → K x μ1 := ⟨_, h, fun x μ1 hp => by
  obtain ⟨hx, rfl⟩ := hp
  cases hx
  exact k⟩
theorem useN {lay : List Nat} {d M : Nat} {av : List TV} {μ : Mem} {Q K : Mem → Prop} (h : Rn lay d M av μ (Pn Q)) (k : ∀ μ1, Q μ1 → K μ1) : ∃ P : PT, Rn lay d M av μ P ∧ ∀ μ1 : Mem, P none μ1 → K μ1 := ⟨_, h, fun μ1 hp => k μ1 hp.2⟩
theorem useQ {lay : List Nat} {d M : Nat} {av : List TV} {μ : Mem} {Q K : Int32 → Mem → Prop} (h : Rn lay d M av μ (Pq Q)) (k : ∀ x μ1, Q x μ1 → K x μ1) : ∃ P : PT, Rn lay d M av μ P ∧ ∀ (x : Int32) (μ1 : Mem), P (some (vi x)) μ1 → K x μ1 := ⟨_, h, fun x μ1 hp => by
  obtain ⟨y, hy, hq⟩ := hp
  cases hy
  exact k x μ1 hq⟩
/-! the abstract text: ranges (kind, a, b), length, ranks -/
abbrev RG : Type := Nat × Nat × Nat
abbrev TS : Type := List RG × Nat × List Nat
def kd (rs : List RG) (i : Nat) : Nat := (rs.getD i (0, 0, 0)).1
def ra (rs : List RG) (i : Nat) : Nat := (rs.getD i (0, 0, 0)).2.1
def rb (rs : List RG) (i : Nat) : Nat := (rs.getD i (0, 0, 0)).2.2
def RAt (μ : Mem) (iK iA iB : Nat) (rs : List RG) : Prop := ∀ i, i < rs.length → μ.1 iK i = nI (kd rs i) ∧ μ.1 iA i = nI (ra rs i) ∧ μ.1 iB i = nI (rb rs i)
def WR (L : Nat) (rs : List RG) : Prop := rs.length ≤ 8 ∧ ∀ r ∈ rs, r.1 < 4 ∧ r.2.1 ≤ r.2.2 ∧ r.2.2 ≤ L
def WT (T : TS) : Prop := WR T.2.1 T.1 ∧ T.2.1 ≤ 90 ∧ T.2.2.length = 4 ∧ ∀ x ∈ T.2.2, x < 4
def TeAt (μ : Mem) (t : Nat) (T : TS) : Prop := μ.1 t 4 = nI T.1.length ∧ μ.1 t 5 = nI T.2.1 ∧ RAt μ (t + 1) (t + 2) (t + 3) T.1 ∧ ∀ k, k < 4 → μ.1 (t + 4) k = nI (T.2.2.getD k 0)
theorem rg_at {rs : List RG} {i : Nat} (h : i < rs.length) : rs[i]? = some (kd rs i, ra rs i, rb rs i) := by
  unfold kd ra rb
  rw [List.getD, List.getElem?_eq_getElem h]
  rfl
theorem WR.at {L : Nat} {rs : List RG} (h : WR L rs) {i : Nat} (hi : i < rs.length) : kd rs i < 4 ∧ ra rs i ≤ rb rs i ∧ rb rs i ≤ L := h.2 _ (List.mem_of_getElem? (rg_at hi))
theorem WT.rk {T : TS} (h : WT T) (k : Nat) : T.2.2.getD k 0 < 4 := by
  rw [List.getD]
  cases hk : T.2.2[k]? with
  | none => simp
  | some x => exact h.2.2.2 x (List.mem_of_getElem? hk)
/-- a cell's kind, at a text -/
def isTe (lay : List Nat) (t : Nat) : Prop := knd lay t = 13
theorem kTe {lay : List Nat} {t : Nat} (h : isTe lay t) : kOK lay (rf 13 t) := Or.inr h
/-! rewriting -/
theorem i_lt (x y : Int32) : (x < y) = (x.toInt < y.toInt) := propext Int32.lt_iff_toInt_lt
theorem i_le (x y : Int32) : (x ≤ y) = (x.toInt ≤ y.toInt) := propext Int32.le_iff_toInt_le
theorem i_eq (x y : Int32) : (x = y) = (x.toInt = y.toInt) := propext Int32.toInt_inj.symm
theorem nI_ti {n : Nat} (h : n < 2147483648) : (nI n).toInt = (n : Int) := nI_toInt (by omega)
theorem i_0 : (0 : Int32).toInt = 0 := by decide
theorem ti_lt (x : Int32) : x.toInt < 2147483648 := Int32.toInt_lt x
theorem ti_ge (x : Int32) : -2147483648 ≤ x.toInt := Int32.le_toInt x
theorem up_n1 {μ : Mem} {a k b j : Nat} {v : Int32} (h : b ≠ a) : (upI μ a k v).1 b j = μ.1 b j := up_ne (Or.inl h)
theorem up_n2 {μ : Mem} {a k j : Nat} {v : Int32} (h : j ≠ k) : (upI μ a k v).1 a j = μ.1 a j := up_ne (Or.inr h)
def bI (c : Prop) [Decidable c] : Int32 := if c then nI 1 else nI 0
theorem bI_t {c : Prop} [Decidable c] (h : c) : bI c = nI 1 := if_pos h
theorem bI_f {c : Prop} [Decidable c] (h : ¬ c) : bI c = nI 0 := if_neg h
theorem bI_01 (c : Prop) [Decidable c] : bI c = 0 ∨ bI c = 1 := by
  unfold bI
  split
  · exact Or.inr (by decide)
  · exact Or.inl (by decide)
theorem bI_eq0 (c : Prop) [Decidable c] : (bI c = 0) = ¬ c := by
  unfold bI
  split
  · next h => simp [h, nI]
  · next h => simp [h, nI]
theorem pv_t {c : Prop} [Decidable c] {μ : Mem} (h : c) : Pv (bI c) μ (some (vi (nI 1))) μ := ⟨by rw [bI_t h], rfl⟩
theorem pv_f {c : Prop} [Decidable c] {μ : Mem} (h : ¬ c) : Pv (bI c) μ (some (vi (nI 0))) μ := ⟨by rw [bI_f h], rfl⟩
theorem pv_e {x y : Int32} {μ : Mem} (h : y = x) : Pv x μ (some (vi y)) μ := ⟨by rw [h], rfl⟩
theorem bIc {c e : Prop} [Decidable c] [Decidable e] (h : c ↔ e) : bI c = bI e := by
  unfold bI
  by_cases q : c
  · rw [if_pos q, if_pos (h.mp q)]
  · rw [if_neg q, if_neg (fun z => q (h.mpr z))]
