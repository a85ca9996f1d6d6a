/-! Text: text put in and taken out, ranges that hang together, places drawn -/
theorem has_c {lay : List Nat} (hwf : wfB lay = true) (d : Nat) {μ : Mem} {t n j : Nat} (hc : μ.1 t 4 = nI n) (hn : n ≤ 8) (hj : j < 2147483648) : Rn lay d mTe_has [rf 13 t, vi (nI j)] μ (Pv (bI (j < n)) μ) := by
  refine Rn_intro ok_Te_has hwf rfl (fun G hC => g_Te_has_0 hC ?_)
  simp (disch := omega) only [hc, i_lt, i_le, i_0, nI_ti]
  repeat' first | exact pv_f (by omega) | exact pv_t (by omega) | refine ⟨fun _ => ?_, fun _ => ?_⟩
theorem isEmpty_c {lay : List Nat} (hwf : wfB lay = true) (d : Nat) {μ : Mem} {t n j a b : Nat} (hc : μ.1 t 4 = nI n) (hn : n ≤ 8) (hj : j < n) (ha : μ.1 (t + 2) j = nI a) (hb : μ.1 (t + 3) j = nI b) (ha2 : a < 2147483648) (hb2 : b < 2147483648) : Rn lay (d + 1) mTe_isEmpty [rf 13 t, vi (nI j)] μ (Pv (bI (a = b)) μ) := by
  refine Rn_intro ok_Te_isEmpty hwf rfl (fun G hC => g_Te_isEmpty_0 hC ?_)
  refine useV (has_c hwf d hc hn (by omega)) ?_
  simp (disch := omega) only [bI_eq0, hj, nx_cl, ha, hb, nx_eq, nx_in']
  refine ⟨fun q => absurd trivial q, fun _ => ⟨by omega, by omega, fun _ => ?_, fun _ => ?_⟩⟩
  · exact pv_f (by omega)
  · exact pv_t (by omega)
def putR (p m : Nat) (r : RG) : RG := (r.1, if p < r.2.1 ∨ (r.2.1 = p ∧ ¬ r.2.1 = r.2.2) then r.2.1 + m else r.2.1, if p < r.2.2 then r.2.2 + m else r.2.2)
theorem putIn_ok {lay : List Nat} (hwf : wfB lay = true) (d : Nat) {μ : Mem} {t : Nat} {T : TS} (hT : TeAt μ t T) (hw : WT T) {p m : Nat} (hp : p ≤ 90) (hm : m ≤ 90) : Rn lay (d + 2) mTe_putIn [rf 13 t, vi (nI p), vi (nI m)] μ (Pn fun μ1 => TeAt μ1 t (T.1.map (putR p m), T.2.1 + m, T.2.2) ∧ Fr (teC t) μ μ1) := by
  have hn := hw.1.1
  have hL := hw.2.1
  refine Rn_intro ok_Te_putIn hwf rfl (fun G hC => g_Te_putIn_0 hC ?_)
  have loop : ∀ k i (μ' : Mem), i + k = T.1.length → μ'.1 t 5 = nI (T.2.1 + m) → μ'.1 t 4 = nI T.1.length → FAt μ' t T.1.length (fun x => if x < i then putR p m (el T.1 x) else el T.1 x) → μ'.1 (t + 4) = μ.1 (t + 4) → Fr (teC t) μ μ' → G 12 [rf 13 t, vi (nI p), vi (nI m), vi (nI i), un] [] μ' := by
    intro k
    induction k with
    | zero =>
      intro i μ' hi h5 h4 hf h44 hfr
      refine g_Te_putIn_12 hC ?_
      simp (disch := omega) only [h4, nx_le]
      refine ⟨fun _ => ⟨rfl, ⟨by rw [h4]; simp, h5, fun x hx => ?_, fun k hk => by rw [h44]; exact hT.2.2.2 k hk⟩, hfr⟩, fun q => absurd (by omega) q⟩
      rw [List.length_map] at hx
      have := hf x hx
      dsimp only at this
      rw [if_pos (by omega)] at this
      rw [← el_1, ← el_2, ← el_3, el_map hx]
      exact this
    | succ k ih =>
      intro i μ' hi h5 h4 hf h44 hfr
      have hil : i < T.1.length := by omega
      have ⟨b1, b2, b3⟩ := hw.1.at hil
      have hfi := hf i hil
      dsimp only at hfi
      rw [if_neg (by omega)] at hfi
      obtain ⟨e1, e2, e3⟩ := hfi
      rw [el_2] at e2
      rw [el_3] at e3
      -- the end goes on or stays
      have h59 : ∀ (s0 : Int32) (c : Prop), (s0 = 0 ↔ ¬ c) → (c ↔ (p < ra T.1 i ∨ (ra T.1 i = p ∧ ¬ ra T.1 i = rb T.1 i))) → G 59 [rf 13 t, vi (nI p), vi (nI m), vi (nI i), un] [vi s0] μ' := by
        intro s0 c hs hcc
        have nxt : ∀ (μ2 : Mem), μ2.1 t = μ'.1 t → μ2.1 (t + 1) = μ'.1 (t + 1) → μ2.1 (t + 4) = μ'.1 (t + 4) → (∀ x, x ≠ i → μ2.1 (t + 2) x = μ'.1 (t + 2) x ∧ μ2.1 (t + 3) x = μ'.1 (t + 3) x) → μ2.1 (t + 2) i = nI (putR p m (el T.1 i)).2.1 → μ2.1 (t + 3) i = nI (putR p m (el T.1 i)).2.2 → Fr (teC t) μ μ2 → G 12 [rf 13 t, vi (nI p), vi (nI m), vi (nI (i + 1)), un] [] μ2 := by
          intro μ2 q0 q1 q4 qx qa qb qf
          refine ih (i + 1) μ2 (by omega) (by rw [q0]; exact h5) (by rw [q0]; exact h4) (fun x hx => ?_) (by rw [q4]; exact h44) qf
          by_cases e : x = i
          · subst e
            dsimp only
            rw [if_pos (by omega), q1]
            exact ⟨by rw [e1]; rfl, qa, qb⟩
          · have := hf x hx
            dsimp only at this ⊢
            rw [q1, (qx x e).1, (qx x e).2]
            simp only [show (x < i + 1) = (x < i) from propext (by omega)]
            exact this
        refine g_Te_putIn_59 hC ?_
        simp (disch := omega) only [nx_cl, nx_in', e2, e3, up_n1, nI_add, nx_le]
        refine ⟨fun z => ⟨by omega, fun z2 => ?_, fun z2 => ⟨by omega, by omega, ?_⟩⟩, fun z => ⟨by omega, by omega, by omega, fun z2 => ?_, fun z2 => ⟨by omega, by omega, ?_⟩⟩⟩
        · have hnc : ¬ (p < ra T.1 i ∨ (ra T.1 i = p ∧ ¬ ra T.1 i = rb T.1 i)) := fun w => hs.mp z (hcc.mpr w)
          refine nxt μ' rfl rfl rfl (fun x _ => ⟨rfl, rfl⟩) ?_ ?_ hfr
          · rw [show (putR p m (el T.1 i)).2.1 = ra T.1 i from if_neg hnc]; exact e2
          · rw [show (putR p m (el T.1 i)).2.2 = rb T.1 i from if_neg (show ¬ p < rb T.1 i by omega)]; exact e3
        · have hnc : ¬ (p < ra T.1 i ∨ (ra T.1 i = p ∧ ¬ ra T.1 i = rb T.1 i)) := fun w => hs.mp z (hcc.mpr w)
          refine nxt _ (up_cell (by omega)) (up_cell (by omega)) (up_cell (by omega)) (fun x hx => ?_) ?_ ?_ (hfr.up (by simp))
          · rw [up_n1 (by omega), up_n2 hx]; exact ⟨rfl, rfl⟩
          · rw [up_n1 (by omega)]
            rw [show (putR p m (el T.1 i)).2.1 = ra T.1 i from if_neg hnc]; exact e2
          · rw [up_at, show (putR p m (el T.1 i)).2.2 = rb T.1 i + m from if_pos (show p < rb T.1 i by omega)]
        · have hcc2 : p < ra T.1 i ∨ (ra T.1 i = p ∧ ¬ ra T.1 i = rb T.1 i) := hcc.mp (Classical.byContradiction fun w => z (hs.mpr w))
          omega
        · have hcc2 : p < ra T.1 i ∨ (ra T.1 i = p ∧ ¬ ra T.1 i = rb T.1 i) := hcc.mp (Classical.byContradiction fun w => z (hs.mpr w))
          refine nxt _ ?_ ?_ ?_ (fun x hx => ?_) ?_ ?_ ((hfr.up (by simp)).up (by simp))
          · rw [up_cell (by omega), up_cell (by omega)]
          · rw [up_cell (by omega), up_cell (by omega)]
          · rw [up_cell (by omega), up_cell (by omega)]
          · simp (disch := omega) only [up_n1, up_n2]
            exact ⟨trivial, trivial⟩
          · rw [up_n1 (by omega), up_at]
            rw [show (putR p m (el T.1 i)).2.1 = ra T.1 i + m from if_pos hcc2]
          · rw [up_at, show (putR p m (el T.1 i)).2.2 = rb T.1 i + m from if_pos (show p < rb T.1 i by omega)]
      refine g_Te_putIn_12 hC ?_
      simp (disch := omega) only [h4, nx_le, nx_lt, nx_eq, nx_cl, nx_in', e2]
      refine ⟨fun q => absurd q (by omega), fun _ => ⟨fun q => absurd q (by omega), fun _ => ⟨by omega, fun q => ?_, fun q => ⟨by omega, fun q2 => ?_, fun q2 => ?_⟩⟩⟩⟩
      · exact h59 _ True (by simp [nI]) (by simp; omega)
      · exact h59 _ False (by simp [nI]) (by simp; omega)
      · refine useV (isEmpty_c hwf d h4 hn hil e2 e3 (by omega) (by omega)) ?_
        rw [bI_eq0]
        refine ⟨fun z => h59 _ False (by simp [nI]) (by simp; omega), fun z => h59 _ True (by simp [nI]) (by simp; omega)⟩
  refine loop T.1.length 0 _ (by omega) ?_ ?_ (fun x hx => ?_) (up_cell (by omega)) ((Fr.rf _ _).up (by simp))
  · rw [up_at, hT.2.1, nI_add]
  · rw [up_n2 (by omega)]; exact hT.1
  · simp (disch := omega) only [up_n1]
    exact hT.2.2.1 x hx
def aft (p q x : Nat) : Nat := if q ≤ x then x - (q - p) else if p < x then p else x
theorem aft_ok {lay : List Nat} (hwf : wfB lay = true) (d : Nat) (μ : Mem) {p q x : Nat} (hp : p ≤ q) (hq : q ≤ 90) (hx : x ≤ 90) : Rn lay d mTe_afterTaking [vi (nI x), vi (nI p), vi (nI q)] μ (Pv (nI (aft p q x)) μ) := by
  refine Rn_intro ok_Te_afterTaking hwf rfl (fun G hC => g_Te_afterTaking_0 hC ?_)
  simp (disch := omega) only [nx_lt, nx_sub]
  refine ⟨fun z => pv_e ?_, fun z => ?_⟩
  · rw [show aft p q x = (if p < x then p else x) from if_neg (by omega)]
    split <;> rfl
  · rw [nx_sub (by omega)]
    exact pv_e (by unfold aft; rw [if_pos (by omega)])
def takR (p q : Nat) (r : RG) : RG := (r.1, aft p q r.2.1, aft p q r.2.2)
theorem takeOut_ok {lay : List Nat} (hwf : wfB lay = true) (d : Nat) {μ : Mem} {t : Nat} {T : TS} (hT : TeAt μ t T) (hw : WT T) {p q : Nat} (hp : p ≤ q) (hq : q ≤ T.2.1) : Rn lay (d + 1) mTe_takeOut [rf 13 t, vi (nI p), vi (nI q)] μ (Pn fun μ1 => TeAt μ1 t (T.1.map (takR p q), T.2.1 - (q - p), T.2.2) ∧ Fr (teC t) μ μ1) := by
  have hn := hw.1.1
  have hL := hw.2.1
  refine Rn_intro ok_Te_takeOut hwf rfl (fun G hC => g_Te_takeOut_0 hC ?_)
  have loop : ∀ k i (μ' : Mem), i + k = T.1.length → μ'.1 t 5 = nI (T.2.1 - (q - p)) → μ'.1 t 4 = nI T.1.length → FAt μ' t T.1.length (fun x => if x < i then takR p q (el T.1 x) else el T.1 x) → μ'.1 (t + 4) = μ.1 (t + 4) → Fr (teC t) μ μ' → G 14 [rf 13 t, vi (nI p), vi (nI q), vi (nI i)] [] μ' := by
    intro k
    induction k with
    | zero =>
      intro i μ' hi h5 h4 hf h44 hfr
      refine g_Te_takeOut_14 hC ?_
      simp (disch := omega) only [h4, nx_le]
      refine ⟨fun _ => ⟨rfl, ⟨by rw [h4]; simp, h5, fun x hx => ?_, fun k hk => by rw [h44]; exact hT.2.2.2 k hk⟩, hfr⟩, fun q => absurd (by omega) q⟩
      rw [List.length_map] at hx
      have := hf x hx
      dsimp only at this
      rw [if_pos (by omega)] at this
      rw [← el_1, ← el_2, ← el_3, el_map hx]
      exact this
    | succ k ih =>
      intro i μ' hi h5 h4 hf h44 hfr
      have hil : i < T.1.length := by omega
      have ⟨b1, b2, b3⟩ := hw.1.at hil
      have hfi := hf i hil
      dsimp only at hfi
      rw [if_neg (by omega)] at hfi
      obtain ⟨e1, e2, e3⟩ := hfi
      rw [el_2] at e2
      rw [el_3] at e3
      refine g_Te_takeOut_14 hC ?_
      simp (disch := omega) only [h4, nx_le, nx_cl, nx_in', e2, nI_add]
      refine ⟨fun z => absurd z (by omega), fun _ => ⟨fun z => absurd z (by omega), fun _ => ⟨by omega, ?_⟩⟩⟩
      refine useV (aft_ok hwf d μ' hp (by omega) (by omega)) ?_
      refine ⟨by omega, by omega, ?_⟩
      rw [up_n1 (by omega), e3]
      refine useV (aft_ok hwf d _ hp (by omega) (by omega)) ?_
      refine ⟨by omega, ih (i + 1) _ (by omega) ?_ ?_ (fun x hx => ?_) ?_ ((hfr.up (by simp)).up (by simp))⟩
      · simp (disch := omega) only [up_n1]; exact h5
      · simp (disch := omega) only [up_n1]; exact h4
      · by_cases e : x = i
        · subst e
          dsimp only
          rw [if_pos (by omega)]
          simp (disch := omega) only [up_n1, up_at]
          exact ⟨e1, rfl, rfl⟩
        · have := hf x hx
          dsimp only at this ⊢
          simp (disch := omega) only [up_n1, up_n2, show (x < i + 1) = (x < i) from propext (by omega)]
          exact this
      · rw [up_cell (by omega), up_cell (by omega)]; exact h44
  refine loop T.1.length 0 _ (by omega) ?_ ?_ (fun x hx => ?_) (up_cell (by omega)) ((Fr.rf _ _).up (by simp))
  · rw [up_at, hT.2.1, nx_sub hp, nx_sub (by omega)]
  · rw [up_n2 (by omega)]; exact hT.1
  · simp (disch := omega) only [up_n1]
    exact hT.2.2.1 x hx
