/-! History: the last twelve texts, the newest first -/
def Fri (lo hi : Nat) (μ μ1 : Mem) : Prop := (∀ b, b < lo ∨ hi ≤ b → μ1.1 b = μ.1 b) ∧ μ1.2 = μ.2
theorem Fri.rf (lo hi : Nat) (μ : Mem) : Fri lo hi μ μ := ⟨fun _ _ => rfl, rfl⟩
theorem Fri.tr {lo hi : Nat} {μ μ1 μ2 : Mem} (h : Fri lo hi μ μ1) (h2 : Fri lo hi μ1 μ2) : Fri lo hi μ μ2 := ⟨fun b hb => (h2.1 b hb).trans (h.1 b hb), h2.2.trans h.2⟩
theorem Fri.up {lo hi : Nat} {μ μ1 : Mem} {a k : Nat} {v : Int32} (h : Fri lo hi μ μ1) (ha : lo ≤ a ∧ a < hi) : Fri lo hi μ (upI μ1 a k v) := ⟨fun b hb => by
  rw [up_cell (show b ≠ a by omega)]
  exact h.1 b hb, h.2⟩
theorem Fri.mono {lo hi lo' hi' : Nat} {μ μ1 : Mem} (h : Fri lo hi μ μ1) (h1 : lo' ≤ lo) (h2 : hi ≤ hi') : Fri lo' hi' μ μ1 := ⟨fun b hb => h.1 b (by omega), h.2⟩
theorem Fr.te {t : Nat} {μ μ1 : Mem} (h : Fr (teC t) μ μ1) : Fri t (t + 5) μ μ1 := ⟨fun b hb => h.1 b (by simp; omega), h.2⟩
theorem TeAt.fi {μ μ1 : Mem} {t lo hi : Nat} {T : TS} (h : TeAt μ t T) (hf : Fri lo hi μ μ1) (hd : t + 5 ≤ lo ∨ hi ≤ t) : TeAt μ1 t T := h.fr (fun b hb => hf.1 b (by simp at hb; omega))
def slotH (h nx j : Nat) : Nat := h + 1 + 1 + 5 * ((nx + 11 - j) % 12)
def HiAt (μ : Mem) (h : Nat) (hist : List TS) : Prop := ∃ nx, nx < 12 ∧ μ.1 h 1 = nI nx ∧ μ.1 h 2 = nI hist.length ∧ hist.length ≤ 12 ∧ ∀ j T, hist[j]? = some T → TeAt μ (slotH h nx j) T ∧ WT T
theorem HiAt.fi {μ μ1 : Mem} {h lo hi : Nat} {hist : List TS} (hh : HiAt μ h hist) (hf : Fri lo hi μ μ1) (hd : h + 62 ≤ lo ∨ hi ≤ h) : HiAt μ1 h hist := by
  obtain ⟨nx, h1, h2, h3, h4, h5⟩ := hh
  have e := hf.1 h (by omega)
  refine ⟨nx, h1, by rw [e]; exact h2, by rw [e]; exact h3, h4, fun j T hj => ?_⟩
  obtain ⟨a, b⟩ := h5 j T hj
  refine ⟨a.fi hf ?_, b⟩
  unfold slotH
  omega
theorem forget_ok {lay : List Nat} (hwf : wfB lay = true) (d : Nat) {μ : Mem} {h : Nat} {hist : List TS} (hh : HiAt μ h hist) : Rn lay d mHi_forget [rf 10 h] μ (Pn fun μ1 => HiAt μ1 h [] ∧ Fri h (h + 62) μ μ1) := by
  obtain ⟨nx, h1, h2, h3, h4, h5⟩ := hh
  refine Rn_intro ok_Hi_forget hwf rfl (fun G hC => g_Hi_forget_0 hC ?_)
  refine ⟨rfl, ⟨nx, h1, by rw [up_n2 (by omega)]; exact h2, by rw [up_at]; rfl, by simp, fun j T hj => by simp at hj⟩, (Fri.rf _ _ _).up (by omega)⟩
theorem nx_rem {a d : Nat} (ha : a < 2147483648) (h0 : 0 < d) (hd : d < 2147483648) : nI a - nI a / nI d * nI d = nI (a % d) := pk_rem (by omega) h0 (by omega)
theorem keep_ok {lay : List Nat} (hwf : wfB lay = true) (d : Nat) {μ : Mem} {h u : Nat} {hist : List TS} {T : TS} (hh : HiAt μ h hist) (hT : TeAt μ u T) (hw : WT T) (hd : u + 5 ≤ h ∨ h + 62 ≤ u) : Rn lay (d + 1) mHi_keep [rf 10 h, rf 13 u] μ (Pn fun μ1 => HiAt μ1 h ((T :: hist).take 12) ∧ Fri h (h + 62) μ μ1) := by
  obtain ⟨nx, h1, h2, h3, h4, h5⟩ := hh
  refine Rn_intro ok_Hi_keep hwf rfl (fun G hC => g_Hi_keep_0 hC ?_)
  simp (disch := omega) only [h2, nx_0, nx_lt, nx_cl, nx_in']
  refine ⟨fun z => absurd z (by omega), fun _ => ⟨fun _ => ⟨h1, ?_⟩, fun z => absurd h1 z⟩⟩
  refine useN (copy_ok hwf d hT hw (by omega)) (fun μ1 hp => ?_)
  obtain ⟨p1, p2⟩ := hp
  have e0 := p2.1 h (by simp; omega)
  have hsl : ∀ j T', hist[j]? = some T' → j < 11 → TeAt μ1 (slotH h ((nx + 1) % 12) (j + 1)) T' ∧ WT T' := by
    intro j T' hj hj2
    obtain ⟨q1, q2⟩ := h5 j T' hj
    refine ⟨?_, q2⟩
    have es : slotH h ((nx + 1) % 12) (j + 1) = slotH h nx j := by
      unfold slotH
      congr 2
      omega
    rw [es]
    refine q1.far p2 (fun b hb hb2 => ?_)
    unfold slotH at hb
    simp at hb hb2
    have : (nx + 11 - j) % 12 ≠ nx := by omega
    omega
  have hnew : TeAt μ1 (slotH h ((nx + 1) % 12) 0) T := by
    have es : slotH h ((nx + 1) % 12) 0 = h + 1 + 1 + 5 * nx := by
      unfold slotH
      congr 2
      omega
    rw [es]
    exact p1
  have hall : ∀ (μ2 : Mem), (∀ b, b ≠ h → μ2.1 b = μ1.1 b) → ∀ j T', ((T :: hist).take 12)[j]? = some T' → TeAt μ2 (slotH h ((nx + 1) % 12) j) T' ∧ WT T' := by
    intro μ2 hm j T' hj
    rw [List.getElem?_take] at hj
    split at hj
    · next hj12 =>
      have key : TeAt μ1 (slotH h ((nx + 1) % 12) j) T' ∧ WT T' := by
        cases j with
        | zero =>
          simp at hj
          subst hj
          exact ⟨hnew, hw⟩
        | succ j => exact hsl j T' (by simpa using hj) (by omega)
      refine ⟨key.1.fr (fun b hb => hm b ?_), key.2⟩
      unfold slotH at hb
      simp at hb
      omega
    · cases hj
  have hfi : Fri h (h + 62) μ μ1 := p2.te.mono (by omega) (by omega)
  simp (disch := omega) only [e0, h2, h3, nI_add, nx_rem, up_n2, nx_le]
  refine ⟨fun z => ⟨rfl, ⟨(nx + 1) % 12, by omega, by rw [up_at], ?_, ?_, ?_⟩, hfi.up (by omega)⟩, fun z => ⟨rfl, ⟨(nx + 1) % 12, by omega, ?_, ?_, ?_, ?_⟩, (hfi.up (by omega)).up (by omega)⟩⟩
  · rw [up_n2 (by omega), e0, h3]
    congr 1
    simp
    omega
  · simp
    omega
  · exact hall _ (fun b hb => up_cell hb)
  · rw [up_n2 (by omega), up_at]
  · rw [up_at]
    congr 1
    simp
    omega
  · simp
    omega
  · exact hall _ (fun b hb => (up_cell hb).trans (up_cell hb))
theorem takeBack_no {lay : List Nat} (hwf : wfB lay = true) (d : Nat) {μ : Mem} {h u : Nat} (hh : HiAt μ h []) : Rn lay (d + 1) mHi_takeBack [rf 10 h, rf 13 u] μ (Pv (nI 0) μ) := by
  obtain ⟨nx, h1, h2, h3, h4, h5⟩ := hh
  refine Rn_intro ok_Hi_takeBack hwf rfl (fun G hC => g_Hi_takeBack_0 hC ?_)
  rw [h3, nx_0, nx_lt (by omega) (by simp)]
  exact ⟨fun z => absurd z (by simp), fun _ => pv_e rfl⟩
theorem takeBack_ok {lay : List Nat} (hwf : wfB lay = true) (d : Nat) {μ : Mem} {h u : Nat} {hist : List TS} {T : TS} (hh : HiAt μ h (T :: hist)) (hd : u + 5 ≤ h ∨ h + 62 ≤ u) : Rn lay (d + 1) mHi_takeBack [rf 10 h, rf 13 u] μ (Pq fun x μ1 => x = nI 1 ∧ TeAt μ1 u T ∧ WT T ∧ HiAt μ1 h hist ∧ (∀ b, (b < u ∨ u + 5 ≤ b) → b ≠ h → μ1.1 b = μ.1 b) ∧ μ1.2 = μ.2) := by
  obtain ⟨nx, h1, h2, h3, h4, h5⟩ := hh
  have hl : hist.length + 1 ≤ 12 := by simpa using h4
  rw [List.length_cons] at h3
  obtain ⟨q1, q2⟩ := h5 0 T rfl
  refine Rn_intro ok_Hi_takeBack hwf rfl (fun G hC => g_Hi_takeBack_0 hC ?_)
  -- the rest, once the place of the newest is known
  have fin : ∀ (ny : Nat) (μ' : Mem), ny = (nx + 11) % 12 → μ' = upI μ h 1 (nI ny) → vp_in (nI ny) 12 ∧ (∃ P52 : PT, Rn lay d mTe_copy [rf 13 u, rf 13 (h + 1 + 1 + 5 * (nI ny).toNatClampNeg)] μ' P52 ∧ ∀ μ52 : Mem, P52 none μ52 → (Pq fun x μ1 => x = nI 1 ∧ TeAt μ1 u T ∧ WT T ∧ HiAt μ1 h hist ∧ (∀ b, (b < u ∨ u + 5 ≤ b) → b ≠ h → μ1.1 b = μ.1 b) ∧ μ1.2 = μ.2) (some (vi (nI 1))) (upI μ52 h 2 ((μ52.1 h 2) - (nI 1)))) := by
    intro ny μ' hny hμ
    have hny2 : ny < 12 := by omega
    rw [nx_cl (by omega), nx_in' (by omega) (by omega)]
    have es : slotH h nx 0 = h + 1 + 1 + 5 * ny := by
      unfold slotH
      congr 2
      omega
    have hs : TeAt μ' (h + 1 + 1 + 5 * ny) T := by
      rw [← es, hμ]
      refine q1.fr (fun b hb => up_cell ?_)
      rw [es] at hb
      simp at hb
      omega
    refine ⟨hny2, useN (copy_ok hwf d hs q2 (by omega)) (fun μ1 hp => ?_)⟩
    obtain ⟨p1, p2⟩ := hp
    have e0 := p2.1 h (by simp; omega)
    have e1 : μ1.1 h 1 = nI ny := by rw [e0, hμ, up_at]
    have e2 : μ1.1 h 2 = nI (hist.length + 1) := by rw [e0, hμ, up_n2 (by omega)]; exact h3
    refine ⟨nI 1, rfl, rfl, p1.fr (fun b hb => up_cell (by simp at hb; omega)), q2, ⟨ny, hny2, by rw [up_n2 (by omega)]; exact e1, by rw [up_at, e2, nx_sub (by omega)]; rfl, by omega, fun j T' hj => ?_⟩, fun b hb hb2 => ?_, ?_⟩
    · obtain ⟨r1, r2⟩ := h5 (j + 1) T' (by simpa using hj)
      have es2 : slotH h ny j = slotH h nx (j + 1) := by
        have : j < hist.length := (List.getElem?_eq_some_iff.mp hj).1
        unfold slotH
        congr 2
        omega
      rw [es2]
      refine ⟨r1.fr (fun b hb => ?_), r2⟩
      unfold slotH at hb
      simp at hb
      rw [up_cell (by omega), p2.1 b (by simp; omega), hμ, up_cell (by omega)]
    · rw [up_cell hb2, p2.1 b (by simp; omega), hμ, up_cell hb2]
    · show μ1.2 = μ.2
      rw [p2.2, hμ]
      rfl
  rw [h3, h2]
  simp only [up_at]
  refine ⟨fun _ => ⟨fun z => ?_, fun z => ?_⟩, fun z => absurd (by rw [nx_0, nx_lt (by omega) (by omega)]; omega) z⟩
  · rw [nx_0, nx_lt (by omega) (by omega)] at z
    rw [nx_sub (by omega), nx_lt (by omega) (by omega)]
    exact ⟨fun _ => fin (nx - 1) _ (by omega) rfl, fun w => absurd (by omega) w⟩
  · rw [nx_0, nx_lt (by omega) (by omega)] at z
    rw [nx_lt (by omega) (by omega)]
    exact ⟨fun _ => fin 11 _ (by omega) rfl, fun w => absurd (by omega) w⟩
