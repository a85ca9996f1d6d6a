/-! the reference: its state, its small methods -/
/-- nothing but the cells of S and, of the object's own cell m, the places F, has changed -/
def FM (m : Nat) (S F : List Nat) (μ μ1 : Mem) : Prop := (∀ b, b ≠ m → b ∉ S → μ1.1 b = μ.1 b) ∧ (∀ j, j ∉ F → μ1.1 m j = μ.1 m j) ∧ ∀ b, b ∉ S → μ1.2 b = μ.2 b
theorem FM.rf (m : Nat) (S F : List Nat) (μ : Mem) : FM m S F μ μ := ⟨fun _ _ _ => rfl, fun _ _ => rfl, fun _ _ => rfl⟩
theorem FM.tr {m : Nat} {S F : List Nat} {μ μ1 μ2 : Mem} (h : FM m S F μ μ1) (h2 : FM m S F μ1 μ2) : FM m S F μ μ2 := ⟨fun b h3 h4 => (h2.1 b h3 h4).trans (h.1 b h3 h4), fun j hj => (h2.2.1 j hj).trans (h.2.1 j hj), fun b hb => (h2.2.2 b hb).trans (h.2.2 b hb)⟩
theorem FM.up {m : Nat} {S F : List Nat} {μ μ1 : Mem} {a k : Nat} {v : Int32} (h : FM m S F μ μ1) (ha : a ∈ S) (hm : a ≠ m) : FM m S F μ (upI μ1 a k v) := ⟨fun b h1 h2 => by
  rw [up_cell (show b ≠ a from fun e => h2 (by rw [e]; exact ha))]
  exact h.1 b h1 h2, fun j hj => by rw [up_n1 (Ne.symm hm)]; exact h.2.1 j hj, h.2.2⟩
theorem FM.upf {m : Nat} {S F : List Nat} {μ μ1 : Mem} {k : Nat} {v : Int32} (h : FM m S F μ μ1) (hk : k ∈ F) : FM m S F μ (upI μ1 m k v) := ⟨fun b h1 h2 => by
  rw [up_cell h1]
  exact h.1 b h1 h2, fun j hj => by rw [up_n2 (show j ≠ k from fun e => hj (by rw [e]; exact hk))]; exact h.2.1 j hj, h.2.2⟩
theorem FM.upl {m : Nat} {S F : List Nat} {μ μ1 : Mem} {a k : Nat} {v : Int64} (h : FM m S F μ μ1) (ha : a ∈ S) : FM m S F μ (upL μ1 a k v) := ⟨h.1, h.2.1, fun b hb => by
  rw [upL_ne (show b ≠ a from fun e => hb (by rw [e]; exact ha))]
  exact h.2.2 b hb⟩
theorem FM.mono {m : Nat} {S S' F F' : List Nat} {μ μ1 : Mem} (h : FM m S F μ μ1) (hs : ∀ b ∈ S, b ∈ S') (hf : ∀ j ∈ F, j ∈ F') : FM m S' F' μ μ1 := ⟨fun b h1 h2 => h.1 b h1 (fun q => h2 (hs b q)), fun j hj => h.2.1 j (fun q => hj (hf j q)), fun b hb => h.2.2 b (fun q => hb (hs b q))⟩
def MTe (μ : Mem) (m : Nat) (T : TS) : Prop := μ.1 m 2 = nI T.1.length ∧ μ.1 m 1 = nI T.2.1 ∧ RAt μ (m + 2) (m + 3) (m + 4) T.1 ∧ ∀ k, k < 4 → μ.1 (m + 5) k = nI (T.2.2.getD k 0)
theorem MTe.fr {μ μ1 : Mem} {m : Nat} {T : TS} {S F : List Nat} (h : MTe μ m T) (hf : FM m S F μ μ1) (h1 : ∀ b ∈ [m + 2, m + 3, m + 4, m + 5], b ∉ S) (h2 : 1 ∉ F ∧ 2 ∉ F) : MTe μ1 m T := by
  obtain ⟨a, b, c, e⟩ := h
  refine ⟨by rw [hf.2.1 2 h2.2]; exact a, by rw [hf.2.1 1 h2.1]; exact b, fun i hi => ?_, fun k hk => by rw [hf.1 (m + 5) (by omega) (h1 _ (by simp))]; exact e k hk⟩
  rw [hf.1 (m + 2) (by omega) (h1 _ (by simp)), hf.1 (m + 3) (by omega) (h1 _ (by simp)), hf.1 (m + 4) (by omega) (h1 _ (by simp))]
  exact c i hi
/-- a text kept in the row 'ahead', at slot u -/
def SlAt (μ : Mem) (m u : Nat) (T : TS) : Prop := μ.1 (m + 6) (30 * u) = nI T.2.1 ∧ μ.1 (m + 6) (30 * u + 1) = nI T.1.length ∧ (∀ k, k < 4 → μ.1 (m + 6) (30 * u + 2 + k) = nI (T.2.2.getD k 0)) ∧ ∀ i, i < T.1.length → μ.1 (m + 6) (30 * u + 6 + i) = nI (kd T.1 i) ∧ μ.1 (m + 6) (30 * u + 14 + i) = nI (ra T.1 i) ∧ μ.1 (m + 6) (30 * u + 22 + i) = nI (rb T.1 i)
def MHi (μ : Mem) (m : Nat) (hist : List TS) : Prop := μ.1 m 8 = nI hist.length ∧ hist.length ≤ 12 ∧ ∀ j T, hist[j]? = some T → SlAt μ m (hist.length - 1 - j) T ∧ WT T
theorem SlAt.eq {μ μ1 : Mem} {m u : Nat} {T : TS} (h : SlAt μ m u T) (e : ∀ j, 30 * u ≤ j → j < 30 * u + 30 → μ1.1 (m + 6) j = μ.1 (m + 6) j) (hl : T.1.length ≤ 8) : SlAt μ1 m u T := by
  obtain ⟨a, b, c, f⟩ := h
  refine ⟨by rw [e _ (by omega) (by omega)]; exact a, by rw [e _ (by omega) (by omega)]; exact b, fun k hk => by rw [e _ (by omega) (by omega)]; exact c k hk, fun i hi => ?_⟩
  rw [e _ (by omega) (by omega), e _ (by omega) (by omega), e _ (by omega) (by omega)]
  exact f i hi
theorem MHi.fr {μ μ1 : Mem} {m : Nat} {hist : List TS} {S F : List Nat} (h : MHi μ m hist) (hf : FM m S F μ μ1) (h1 : m + 6 ∉ S) (h2 : 8 ∉ F) : MHi μ1 m hist := by
  obtain ⟨a, b, c⟩ := h
  refine ⟨by rw [hf.2.1 8 h2]; exact a, b, fun j T hj => ?_⟩
  obtain ⟨c1, c2⟩ := c j T hj
  exact ⟨c1.eq (fun i _ _ => by rw [hf.1 (m + 6) (by omega) h1]) c2.1.1, c2⟩
def MAt (μ : Mem) (m : Nat) (S : XS) : Prop := MTe μ m S.1 ∧ MHi μ m S.2.1 ∧ μ.1 (m + 1) 0 = S.2.2.1 ∧ μ.1 (m + 1) 1 = S.2.2.2.1 ∧ μ.1 (m + 1) 2 = S.2.2.2.2 ∧ okX S
/-- cells and places that have no part in the state -/
abbrev mwS (m : Nat) : List Nat := [m + 7, m + 8, m + 9, m + 10, m + 11, m + 12, m + 13, m + 14, m + 15, m + 16, m + 17, m + 18, m + 19, m + 20]
abbrev mwF : List Nat := [9, 18]
theorem MAt.fr {μ μ1 : Mem} {m : Nat} {S : XS} (h : MAt μ m S) (hf : FM m (mwS m) mwF μ μ1) : MAt μ1 m S := by
  obtain ⟨a, b, c, e, f, g⟩ := h
  have e1 := hf.1 (m + 1) (by omega) (by simp)
  exact ⟨a.fr hf (by simp) (by simp), b.fr hf (by simp) (by simp), by rw [e1]; exact c, by rw [e1]; exact e, by rw [e1]; exact f, g⟩
abbrev PM (m : Nat) (c : Int32) (S : XS) : PT := Pq fun v μ1 => v = c ∧ MAt μ1 m S
theorem MAt.cnt {μ : Mem} {m k : Nat} {v : Int32} {S : XS} (h : MAt μ m S) : MTe (upI μ (m + 1) k v) m S.1 ∧ MHi (upI μ (m + 1) k v) m S.2.1 := by
  have hf : FM m [m + 1] [] μ (upI μ (m + 1) k v) := (FM.rf _ _ _ _).up (by simp) (by omega)
  exact ⟨h.1.fr hf (by simp) (by simp), h.2.1.fr hf (by simp) (by simp)⟩
theorem c012 : (nI 0).toNatClampNeg = 0 ∧ (nI 1).toNatClampNeg = 1 ∧ (nI 2).toNatClampNeg = 2 ∧ (nI 3).toNatClampNeg = 3 := by decide
theorem vin {a n : Nat} (h : a < n) (hn : n < 2147483648) : vp_in (nI a) n := by rw [nx_in' (by omega) hn]; exact h
theorem useMBad {lay : List Nat} (hwf : wfB lay = true) (d : Nat) {μ : Mem} {m : Nat} {S : XS} (h : MAt μ m S) : ∃ P : PT, Rn lay d mM_bad [rf 16 m] μ P ∧ ∀ (v : Int32) (μ1 : Mem), P (some (vi v)) μ1 → PM m (mI 1) (xBad S) (some (vi v)) μ1 := by
  refine ⟨PM m (mI 1) (xBad S), Rn_intro ok_M_bad hwf rfl (fun G hC => g_M_bad_0 hC ?_), fun v μ1 hp => hp⟩
  obtain ⟨a, b⟩ := h.cnt (k := 0) (v := μ.1 (m + 1) 0 + nI 1)
  obtain ⟨_, _, c, e, f, g⟩ := h
  rw [c012.1]
  exact ⟨vin (by omega) (by omega), vin (by omega) (by omega), _, rfl, rfl, a, b, by rw [up_at, c]; rfl, by rw [up_n2 (by omega)]; exact e, by rw [up_n2 (by omega)]; exact f, g⟩
theorem useMNo {lay : List Nat} (hwf : wfB lay = true) (d : Nat) {μ : Mem} {m : Nat} {S : XS} (h : MAt μ m S) : ∃ P : PT, Rn lay d mM_no [rf 16 m] μ P ∧ ∀ (v : Int32) (μ1 : Mem), P (some (vi v)) μ1 → PM m (mI 2) (xNo S) (some (vi v)) μ1 := by
  refine ⟨PM m (mI 2) (xNo S), Rn_intro ok_M_no hwf rfl (fun G hC => g_M_no_0 hC ?_), fun v μ1 hp => hp⟩
  obtain ⟨a, b⟩ := h.cnt (k := 1) (v := μ.1 (m + 1) 1 + nI 1)
  obtain ⟨_, _, c, e, f, g⟩ := h
  rw [c012.2.1]
  exact ⟨vin (by omega) (by omega), vin (by omega) (by omega), _, rfl, rfl, a, b, by rw [up_n2 (by omega)]; exact c, by rw [up_at, e]; rfl, by rw [up_n2 (by omega)]; exact f, g⟩
theorem useMFull {lay : List Nat} (hwf : wfB lay = true) (d : Nat) {μ : Mem} {m : Nat} {S : XS} (h : MAt μ m S) : ∃ P : PT, Rn lay d mM_full [rf 16 m] μ P ∧ ∀ (v : Int32) (μ1 : Mem), P (some (vi v)) μ1 → PM m (mI 3) (xFull S) (some (vi v)) μ1 := by
  refine ⟨PM m (mI 3) (xFull S), Rn_intro ok_M_full hwf rfl (fun G hC => g_M_full_0 hC ?_), fun v μ1 hp => hp⟩
  obtain ⟨a, b⟩ := h.cnt (k := 2) (v := μ.1 (m + 1) 2 + nI 1)
  obtain ⟨_, _, c, e, f, g⟩ := h
  rw [c012.2.2.1]
  exact ⟨vin (by omega) (by omega), vin (by omega) (by omega), _, rfl, rfl, a, b, by rw [up_n2 (by omega)]; exact c, by rw [up_n2 (by omega)]; exact e, by rw [up_at, f]; rfl, g⟩
theorem min_ok {lay : List Nat} (hwf : wfB lay = true) (d : Nat) (v a b : Int32) (μ : Mem) : Rn lay d mM_in [vi v, vi a, vi b] μ (Pv (bI (a.toInt ≤ v.toInt ∧ v.toInt ≤ b.toInt)) μ) := by
  refine Rn_intro ok_M_in hwf rfl (fun G hC => g_M_in_0 hC ?_)
  rw [i_lt, i_lt]
  exact ⟨fun _ => pv_f (by omega), fun _ => ⟨fun _ => pv_f (by omega), fun _ => pv_t (by omega)⟩⟩
theorem pre_ti {n : Nat} (h : n < 2147483648) : (nI n - nI 1).toInt = (n : Int) - 1 := by
  rcases Nat.eq_zero_or_pos n with q | q
  · subst q
    decide
  · rw [nx_sub (by omega), nI_ti (by omega)]
    omega
theorem ti_lit : (nI 0).toInt = 0 ∧ (nI 1).toInt = 1 ∧ (nI 2).toInt = 2 ∧ (nI 3).toInt = 3 ∧ (nI 4).toInt = 4 ∧ (nI 7).toInt = 7 ∧ (nI 8).toInt = 8 ∧ (nI 90).toInt = 90 ∧ (nI 999999).toInt = 999999 := by decide
theorem mIsRange_ok {lay : List Nat} (hwf : wfB lay = true) (d : Nat) {μ : Mem} {m : Nat} {T : TS} (hT : MTe μ m T) (hn : T.1.length ≤ 8) (v : Int32) : Rn lay (d + 1) mM_isRange [rf 16 m, vi v] μ (Pv (bI (0 ≤ v.toInt ∧ v.toInt < T.1.length)) μ) := by
  refine Rn_intro ok_M_isRange hwf rfl (fun G hC => g_M_isRange_0 hC ?_)
  rw [hT.1]
  refine useV (min_ok hwf d _ _ _ μ) ⟨bI_01 _, pv_e ?_⟩
  rw [pre_ti (by omega), ti_lit.1]
  exact bIc (by omega)
theorem mIsKind_ok {lay : List Nat} (hwf : wfB lay = true) (d : Nat) (v : Int32) (μ : Mem) : Rn lay (d + 1) mM_isKind [vi v] μ (Pv (bI (0 ≤ v.toInt ∧ v.toInt < 4)) μ) := by
  refine Rn_intro ok_M_isKind hwf rfl (fun G hC => g_M_isKind_0 hC ?_)
  refine useV (min_ok hwf d _ _ _ μ) ⟨bI_01 _, pv_e ?_⟩
  rw [ti_lit.1, ti_lit.2.2.2.1]
  exact bIc (by omega)
theorem mIsFromTo_ok {lay : List Nat} (hwf : wfB lay = true) (d : Nat) {μ : Mem} {m L : Nat} (hL : μ.1 m 1 = nI L) (hL2 : L ≤ 90) (a b : Int32) : Rn lay (d + 1) mM_isFromTo [rf 16 m, vi a, vi b] μ (Pv (bI (0 ≤ a.toInt ∧ a.toInt ≤ b.toInt ∧ b.toInt ≤ L)) μ) := by
  refine Rn_intro ok_M_isFromTo hwf rfl (fun G hC => g_M_isFromTo_0 hC ?_)
  refine useV (min_ok hwf d _ _ _ μ) ?_
  rw [bI_eq0, hL, ti_lit.1, i_lt, nI_ti (by omega)]
  exact ⟨fun q => pv_f (by omega), fun q => ⟨fun q2 => pv_f (by omega), fun q2 => pv_t (by have := Classical.not_not.mp q; omega)⟩⟩
theorem mIsEmpty_ok {lay : List Nat} (hwf : wfB lay = true) (d : Nat) {μ : Mem} {m j a b : Nat} (hj : j < 9) (ha : μ.1 (m + 3) j = nI a) (hb : μ.1 (m + 4) j = nI b) (ha2 : a < 2147483648) (hb2 : b < 2147483648) : Rn lay d mM_isEmpty [rf 16 m, vi (nI j)] μ (Pv (bI (a = b)) μ) := by
  refine Rn_intro ok_M_isEmpty hwf rfl (fun G hC => g_M_isEmpty_0 hC ?_)
  rw [nx_in' (by omega) (by omega), nx_cl (by omega), ha, hb, nx_eq ha2 hb2]
  exact ⟨hj, hj, fun q => pv_f q, fun q => pv_t q⟩
theorem mIsEmpty_T {lay : List Nat} (hwf : wfB lay = true) (d : Nat) {μ : Mem} {m j : Nat} {T : TS} (hT : MTe μ m T) (hw : WT T) (hj : j < T.1.length) : Rn lay d mM_isEmpty [rf 16 m, vi (nI j)] μ (Pv (bI (ra T.1 j = rb T.1 j)) μ) := by
  obtain ⟨e1, e2, e3⟩ := hT.2.2.1 j hj
  obtain ⟨b1, b2, b3⟩ := hw.1.at hj
  have := hw.1.1
  have := hw.2.1
  exact mIsEmpty_ok hwf d (by omega) e2 e3 (by omega) (by omega)
/-! bits -/
theorem bit1 : ∀ k, k < 8 → ∀ c, c < 256 → ((nI c) >>> (nI k &&& 31)) &&& nI 1 = nI (if c.testBit k = true then 1 else 0) := by decide +kernel
def popU (c : Nat) : Nat → Nat
  | 0 => 0
  | i + 1 => popU c i + (if c.testBit i = true then 1 else 0)
theorem popU_f (c : Nat) : ∀ i, popU c i = ((List.range i).filter (fun j => c.testBit j)).length
  | 0 => rfl
  | i + 1 => by
    rw [List.range_succ, List.filter_append, List.length_append, ← popU_f c i]
    show popU c i + _ = _
    rw [List.filter_cons]
    by_cases h : c.testBit i = true
    · rw [if_pos h, if_pos h]
      rfl
    · rw [if_neg h, if_neg h]
      rfl
theorem popU_le (c : Nat) : ∀ i, popU c i ≤ i
  | 0 => Nat.le_refl _
  | i + 1 => by
    have := popU_le c i
    show popU c i + _ ≤ _
    split <;> omega
theorem mBits_ok {lay : List Nat} (hwf : wfB lay = true) (d : Nat) {c : Nat} (hc : c < 256) (μ : Mem) : Rn lay d mM_bits [vi (nI c)] μ (Pv (nI (popN c)) μ) := by
  refine Rn_intro ok_M_bits hwf rfl (fun G hC => g_M_bits_0 hC ?_)
  have loop : ∀ k i, i + k = 8 → G 4 [vi (nI c), vi (nI (popU c i)), vi (nI i)] [] μ := by
    intro k
    induction k with
    | zero =>
      intro i hi
      refine g_M_bits_4 hC ?_
      have : i = 8 := by omega
      subst this
      rw [nx_le (by omega) (by omega)]
      exact ⟨fun _ => pv_e (by rw [popU_f]; rfl), fun z => absurd (by omega) z⟩
    | succ k ih =>
      intro i hi
      refine g_M_bits_4 hC ?_
      rw [nx_le (by omega) (by omega), bit1 i (by omega) c hc, nI_add, nI_add]
      exact ⟨fun z => absurd z (by omega), fun _ => ih (i + 1) (by omega)⟩
  exact loop 8 0 rfl
theorem mHas_ok {lay : List Nat} (hwf : wfB lay = true) (d : Nat) {c k : Nat} (hc : c < 256) (hk : k < 8) (μ : Mem) : Rn lay d mM_has [vi (nI c), vi (nI k)] μ (Pv (bI (c.testBit k = true)) μ) := by
  refine Rn_intro ok_M_has hwf rfl (fun G hC => g_M_has_0 hC ?_)
  rw [bit1 k hk c hc]
  refine ⟨fun q => pv_f (fun z => q (by rw [if_pos z])), fun q => pv_t ?_⟩
  rw [nx_eq (by split <;> omega) (by omega)] at q
  by_cases h : c.testBit k = true
  · exact h
  · rw [if_neg h] at q
    omega
/-! how many ranges cover a place -/
def cmU (rs : List RG) (p : Nat) : Nat → Nat
  | 0 => 0
  | i + 1 => cmU rs p i + (if ra rs i ≤ p ∧ p < rb rs i then 1 else 0)
theorem cmU_f (rs : List RG) (p : Nat) : ∀ i, i ≤ rs.length → cmU rs p i = ((rs.take i).filter (cvr p)).length
  | 0, _ => by simp [cmU]
  | i + 1, h => by
    have e : rs.take (i + 1) = rs.take i ++ [el rs i] := by
      rw [List.take_add_one, el_in (by omega)]
      rfl
    rw [e, List.filter_append, List.length_append, ← cmU_f rs p i (by omega), List.filter_cons]
    show cmU rs p i + _ = _
    by_cases hc : ra rs i ≤ p ∧ p < rb rs i
    · rw [if_pos hc, if_pos (show cvr p (el rs i) = true from cvr_t.mpr hc)]
      rfl
    · rw [if_neg hc, if_neg (show ¬ cvr p (el rs i) = true from fun q => hc (cvr_t.mp q))]
      rfl
theorem cmU_le (rs : List RG) (p : Nat) : ∀ i, cmU rs p i ≤ i
  | 0 => Nat.le_refl _
  | i + 1 => by
    have := cmU_le rs p i
    show cmU rs p i + _ ≤ _
    split <;> omega
theorem mCover_ok {lay : List Nat} (hwf : wfB lay = true) (d : Nat) {μ : Mem} {m : Nat} {T : TS} (hT : MTe μ m T) (hw : WT T) {p : Nat} (hp : p < 2147483648) : Rn lay d mM_coverMany [rf 16 m, vi (nI p)] μ (Pv (nI (popN (cov T.1 p))) μ) := by
  have hn := hw.1.1
  have hL := hw.2.1
  refine Rn_intro ok_M_coverMany hwf rfl (fun G hC => g_M_coverMany_0 hC ?_)
  have loop : ∀ k i, i + k = T.1.length → G 4 [rf 16 m, vi (nI p), vi (nI (cmU T.1 p i)), vi (nI i)] [] μ := by
    intro k
    induction k with
    | zero =>
      intro i hi
      refine g_M_coverMany_4 hC ?_
      rw [hT.1, nx_le (by omega) (by omega)]
      have : i = T.1.length := by omega
      subst this
      refine ⟨fun _ => pv_e ?_, fun z => absurd (by omega) z⟩
      rw [cmU_f T.1 p _ (Nat.le_refl _), List.take_length, pop_cvr hn]
    | succ k ih =>
      intro i hi
      have hil : i < T.1.length := by omega
      obtain ⟨e1, e2, e3⟩ := hT.2.2.1 i hil
      obtain ⟨b1, b2, b3⟩ := hw.1.at hil
      have ih := ih (i + 1) (by omega)
      have eu : cmU T.1 p (i + 1) = cmU T.1 p i + (if ra T.1 i ≤ p ∧ p < rb T.1 i then 1 else 0) := rfl
      rw [eu] at ih
      refine g_M_coverMany_4 hC ?_
      simp (disch := omega) only [hT.1, nx_le, nx_lt, nx_cl, nx_in', e2, e3, nI_add]
      refine ⟨fun q => absurd q (by omega), fun _ => ⟨by omega, fun q => ?_, fun q => ⟨by omega, fun q2 => ?_, fun q2 => ?_⟩⟩⟩
      · rw [if_neg (by omega)] at ih
        exact ih
      · rw [if_neg (by omega)] at ih
        exact ih
      · rw [if_pos (by omega)] at ih
        exact ih
  exact loop T.1.length 0 (by omega)
def tmU (rs : List RG) (n : Nat) : Bool := (List.range n).any fun p => decide (5 < popN (cov rs p))
theorem tmU_s (rs : List RG) (n : Nat) : tmU rs (n + 1) = (tmU rs n || decide (5 < popN (cov rs n))) := by
  unfold tmU
  rw [List.range_succ, List.any_append]
  simp
theorem tm_crowd {T : TS} (hw : WT T) : tmU T.1 T.2.1 = crowd T.1 := by
  have hn := hw.1.1
  cases hc : crowd T.1 with
  | true =>
    obtain ⟨r, r1, r2⟩ := crowd_iff.mp hc
    unfold tmU
    rw [List.any_eq_true]
    refine ⟨ra T.1 r, List.mem_range.mpr ?_, decide_eq_true r2⟩
    rcases Nat.lt_or_ge (ra T.1 r) T.2.1 with q | q
    · exact q
    · exfalso
      rw [pop_cvr hn] at r2
      have : T.1.filter (cvr (ra T.1 r)) = [] := by
        rw [List.filter_eq_nil_iff]
        intro x hx hcv
        have := (hw.1.2 x hx).2.2
        have := (cvr_t.mp hcv).2
        omega
      rw [this] at r2
      exact absurd r2 (by simp)
  | false =>
    have h := nc_of hc hn
    unfold tmU
    rw [List.any_eq_false]
    intro p _ hp
    have := h p
    have := of_decide_eq_true hp
    omega
theorem mTooMuch_ok {lay : List Nat} (hwf : wfB lay = true) (d : Nat) {μ : Mem} {m : Nat} {T : TS} (hT : MTe μ m T) (hw : WT T) : Rn lay (d + 1) mM_isTooMuch [rf 16 m] μ (Pv (bI (crowd T.1 = true)) μ) := by
  have hn := hw.1.1
  have hL := hw.2.1
  refine Rn_intro ok_M_isTooMuch hwf rfl (fun G hC => g_M_isTooMuch_0 hC ?_)
  have loop : ∀ k i, i + k = T.2.1 → G 4 [rf 16 m, vi (bI (tmU T.1 i = true)), vi (nI i)] [] μ := by
    intro k
    induction k with
    | zero =>
      intro i hi
      refine g_M_isTooMuch_4 hC ?_
      rw [hT.2.1, nx_le (by omega) (by omega)]
      have : i = T.2.1 := by omega
      subst this
      exact ⟨fun _ => ⟨bI_01 _, pv_e (by rw [tm_crowd hw])⟩, fun z => absurd (by omega) z⟩
    | succ k ih =>
      intro i hi
      have ih := ih (i + 1) (by omega)
      rw [tmU_s] at ih
      refine g_M_isTooMuch_4 hC ?_
      rw [hT.2.1, nx_le (by omega) (by omega), bI_eq0, nI_add]
      refine ⟨fun z => absurd z (by omega), fun _ => ⟨fun z => ?_, fun z => ?_⟩⟩
      · have z := Classical.not_not.mp z
        rw [z, Bool.true_or, bI_t rfl] at ih
        exact ih
      · have z2 : tmU T.1 i = false := by simpa using z
        rw [z2, Bool.false_or] at ih
        refine useV (mCover_ok hwf d hT hw (by omega)) ?_
        have hp8 := popN_le (cov T.1 i)
        rw [nx_le (by omega) (by omega)]
        refine ⟨fun q => ?_, fun q => ?_⟩
        · rw [bI_f (fun w => by have := of_decide_eq_true w; omega)] at ih
          exact ih
        · rw [bI_t (decide_eq_true (by omega))] at ih
          exact ih
  exact loop T.2.1 0 (by omega)
