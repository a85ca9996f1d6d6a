/-! the reference: text put in and taken out, places looked at, ranges drawn -/
/-- rows of a text changed as far as i -/
def MF (μ : Mem) (m n : Nat) (f : Nat → RG) : Prop := ∀ i, i < n → μ.1 (m + 2) i = nI (f i).1 ∧ μ.1 (m + 3) i = nI (f i).2.1 ∧ μ.1 (m + 4) i = nI (f i).2.2
theorem mPuts_ok {lay : List Nat} (hwf : wfB lay = true) (d : Nat) {μ : Mem} {m : Nat} {S : XS} (h : MAt μ m S) (p u : Int32) : Rn lay (d + 2) mM_puts [rf 16 m, vi p, vi u] μ (if (0 ≤ p.toInt ∧ p.toInt ≤ S.1.2.1) ∧ 1 ≤ u.toInt ∧ u.toInt ≤ 90 then (if S.1.2.1 + tN u ≤ 90 then PM m (nI (S.1.2.1 + tN u)) (xSet S (S.1.1.map (putR (tN p) (tN u)), S.1.2.1 + tN u, S.1.2.2)) else PM m (mI 3) (xFull S)) else PM m (mI 1) (xBad S)) := by
  refine Rn_intro ok_M_puts hwf rfl (fun G hC => g_M_puts_0 hC ?_)
  have hw := h.2.2.2.2.2.1
  have hn := hw.1.1
  have hL := hw.2.1
  rw [h.1.2.1]
  refine useV (min_ok hwf _ _ _ _ μ) ?_
  rw [bI_eq0, ti_lit.1, nI_ti (by omega)]
  refine ⟨fun q => ?_, fun q => ?_⟩
  · rw [if_neg (fun z => q z.1)]
    exact useMBad hwf _ h
  · have q := Classical.not_not.mp q
    refine useV (min_ok hwf _ _ _ _ μ) ?_
    rw [bI_eq0, ti_lit.2.1, ti_lit.2.2.2.2.2.2.2.1]
    refine ⟨fun s => ?_, fun s => ?_⟩
    · have s := Classical.not_not.mp s
      rw [if_pos ⟨q, s⟩] at hC ⊢
      obtain ⟨p', p1, p2, p3⟩ := nat_of q.1
      obtain ⟨u', u1, u2, u3⟩ := nat_of (v := u) (by omega)
      have ep : tN p = p' := by unfold tN; rw [p3]; rfl
      have eu : tN u = u' := by unfold tN; rw [u3]; rfl
      rw [p3] at q
      rw [u3] at s
      rw [ep, eu] at hC ⊢
      rw [p2, u2, h.1.2.1, nI_add, nx_le (by omega) (by omega)]
      refine ⟨fun z => ?_, fun z => ?_⟩
      · rw [if_pos z] at hC
        refine useNotes hwf _ h (fun μ1 t1 t2 t3 => ?_)
        have loop : ∀ k i (μ' : Mem), i + k = S.1.1.length → MF μ' m S.1.1.length (fun j => if j < i then putR p' u' (el S.1.1 j) else el S.1.1 j) → μ'.1 m 1 = nI (S.1.2.1 + u') → μ'.1 m 2 = nI S.1.1.length → (∀ k, k < 4 → μ'.1 (m + 5) k = nI (S.1.2.2.getD k 0)) → MMid μ' m S → G 59 [rf 16 m, vi (nI p'), vi (nI u'), vi (nI i), un, un] [] μ' := by
          intro k
          induction k with
          | zero =>
            intro i μ' hi hf c1 c2 c5 hm
            refine g_M_puts_59 hC ?_
            rw [c2, nx_le (by omega) (by omega)]
            refine ⟨fun _ => ⟨_, rfl, c1, hm.fin ⟨?_, c1, fun j hj => ?_, c5⟩ (put_wt hw z) (put_nc h.2.2.2.2.2.2.1 p' u')⟩, fun w => absurd (by omega) w⟩
            · rw [c2]
              show _ = nI (S.1.1.map (putR p' u')).length
              rw [List.length_map]
            · have hj : j < (S.1.1.map (putR p' u')).length := hj
              rw [List.length_map] at hj
              have := hf j hj
              dsimp only at this
              rw [if_pos (by omega)] at this
              show _ = nI (el (S.1.1.map (putR p' u')) j).1 ∧ _ = nI (el (S.1.1.map (putR p' u')) j).2.1 ∧ _ = nI (el (S.1.1.map (putR p' u')) j).2.2
              rw [el_map hj]
              exact this
          | succ k ih =>
            intro i μ' hi hf c1 c2 c5 hm
            have hil : i < S.1.1.length := by omega
            have hfi := hf i hil
            dsimp only at hfi
            rw [if_neg (by omega)] at hfi
            obtain ⟨e1, e2, e3⟩ := hfi
            obtain ⟨b1, b2, b3⟩ := hw.1.at hil
            have e2 : μ'.1 (m + 3) i = nI (ra S.1.1 i) := e2
            have e3 : μ'.1 (m + 4) i = nI (rb S.1.1 i) := e3
            refine g_M_puts_59 hC ?_
            rw [c2, nx_le (by omega) (by omega)]
            refine ⟨fun w => absurd w (by omega), fun _ => ?_⟩
            refine useV (mIsEmpty_ok hwf _ (by omega) e2 e3 (by omega) (by omega)) ?_
            have hv : vp_in (nI i) 9 := vin (by omega) (by omega)
            rw [nx_cl (by omega), e2, nx_lt (by omega) (by omega), nx_eq (by omega) (by omega), bI_eq0]
            -- the rest of a turn, by whether the beginning moves
            have rest : ∀ (c : Prop) [Decidable c], (c ↔ p' < ra S.1.1 i ∨ (ra S.1.1 i = p' ∧ ¬ ra S.1.1 i = rb S.1.1 i)) → G 104 [rf 16 m, vi (nI p'), vi (nI u'), vi (nI i), un, un] [vi (bI c)] μ' := by
              intro c _ hc
              refine g_M_puts_104 hC ?_
              rw [bI_eq0]
              simp (disch := omega) only [nx_cl, e2, e3, up_n1, nx_le, nI_add]
              have fin : ∀ y z, (putR p' u' (el S.1.1 i)).2.1 = y → (putR p' u' (el S.1.1 i)).2.2 = z → G 59 [rf 16 m, vi (nI p'), vi (nI u'), vi (nI (i + 1)), un, un] [] (upI (upI μ' (m + 3) i (nI y)) (m + 4) i (nI z)) := by
                intro y z hy hz
                refine ih (i + 1) _ (by omega) (fun j hj => ?_) (by simp (disch := omega) only [up_n1]; exact c1) (by simp (disch := omega) only [up_n1]; exact c2) (fun k hk => by simp (disch := omega) only [up_n1]; exact c5 k hk) (hm.fr (((FM.rf _ [m + 3, m + 4] [] _).up (by simp) (by omega)).up (by simp) (by omega)) (by simp) (by simp))
                dsimp only
                by_cases ej : j = i
                · subst ej
                  rw [if_pos (by omega), hy, hz]
                  simp (disch := omega) only [up_n1, up_at, and_true]
                  exact e1
                · have := hf j hj
                  dsimp only at this
                  simp (disch := omega) only [up_n1, up_n2]
                  by_cases w : j < i
                  · rw [if_pos w] at this
                    rw [if_pos (by omega)]
                    exact this
                  · rw [if_neg w] at this
                    rw [if_neg (by omega)]
                    exact this
              have ey : (putR p' u' (el S.1.1 i)).2.1 = if p' < ra S.1.1 i ∨ (ra S.1.1 i = p' ∧ ¬ ra S.1.1 i = rb S.1.1 i) then ra S.1.1 i + u' else ra S.1.1 i := rfl
              have ez : (putR p' u' (el S.1.1 i)).2.2 = if p' < rb S.1.1 i then rb S.1.1 i + u' else rb S.1.1 i := rfl
              refine ⟨hv, fun w => ⟨hv, hv, hv, fun w2 => ⟨hv, fin _ _ ?_ ?_⟩, fun w2 => ⟨hv, fin _ _ ?_ ?_⟩⟩, fun w => ⟨hv, hv, hv, fun w2 => ⟨hv, fin _ _ ?_ ?_⟩, fun w2 => ⟨hv, fin _ _ ?_ ?_⟩⟩⟩
              · rw [ey, if_neg (fun x => w (hc.mpr x))]
                omega
              · rw [ez, if_neg (by omega)]
                omega
              · rw [ey, if_neg (fun x => w (hc.mpr x))]
                omega
              · rw [ez, if_pos (by omega)]
              · rw [ey, if_pos (hc.mp (Classical.not_not.mp w))]
              · rw [ez, if_neg (by omega)]
                omega
              · rw [ey, if_pos (hc.mp (Classical.not_not.mp w))]
              · rw [ez, if_pos (by omega)]
            have hT0 : ∀ c : Prop, c → (p' < ra S.1.1 i ∨ (ra S.1.1 i = p' ∧ ¬ ra S.1.1 i = rb S.1.1 i)) → G 104 [rf 16 m, vi (nI p'), vi (nI u'), vi (nI i), un, un] [vi (nI 1)] μ' := fun c _ w => by
              have := rest True ⟨fun _ => w, fun _ => trivial⟩
              rw [bI_t trivial] at this
              exact this
            have hF0 : ¬ (p' < ra S.1.1 i ∨ (ra S.1.1 i = p' ∧ ¬ ra S.1.1 i = rb S.1.1 i)) → G 104 [rf 16 m, vi (nI p'), vi (nI u'), vi (nI i), un, un] [vi (nI 0)] μ' := fun w => by
              have := rest False ⟨fun x => x.elim, fun x => w x⟩
              rw [bI_f (fun x => x)] at this
              exact this
            exact ⟨hv, fun w => hT0 True trivial (Or.inl w), fun w => ⟨hv, fun w2 => hF0 (by omega), fun w2 => ⟨fun w3 => hF0 (by have := Classical.not_not.mp w3; omega), fun w3 => hT0 True trivial (Or.inr ⟨w2, w3⟩)⟩⟩⟩
        rw [t1.2.1, nI_add]
        refine loop S.1.1.length 0 _ (by omega) (fun j hj => ?_) (by rw [up_at]) (by rw [up_n2 (by omega)]; exact t1.1) (fun k hk => by rw [up_n1 (by omega)]; exact t1.2.2.2 k hk) (t2.fr ((FM.rf _ [] [1] _).upf (by simp)) (by simp) (by simp))
        dsimp only
        rw [if_neg (by omega), up_n1 (by omega), up_n1 (by omega), up_n1 (by omega)]
        exact t1.2.2.1 j hj
      · rw [if_neg z]
        exact useMFull hwf _ h
    · rw [if_neg (fun z => s z.2)]
      exact useMBad hwf _ h
theorem mBehind_ok {lay : List Nat} (hwf : wfB lay = true) (d : Nat) (μ : Mem) {p q x : Nat} (hp : p ≤ q) (hq : q ≤ 90) (hx : x ≤ 90) : Rn lay d mM_behind [vi (nI x), vi (nI p), vi (nI q)] μ (Pv (nI (aft p q x)) μ) := by
  refine Rn_intro ok_M_behind hwf rfl (fun G hC => g_M_behind_0 hC ?_)
  rw [nx_lt (by omega) (by omega), nx_le (by omega) (by omega)]
  unfold aft
  refine ⟨fun z => ⟨fun z2 => pv_e ?_, fun z2 => pv_e ?_⟩, fun z => pv_e ?_⟩
  · rw [if_neg (by omega), if_neg (by omega)]
  · rw [if_neg (by omega), if_pos (by omega)]
  · rw [if_pos (by omega), nx_sub (by omega), nI_add]
    congr 1
    omega
theorem mTakes_ok {lay : List Nat} (hwf : wfB lay = true) (d : Nat) {μ : Mem} {m : Nat} {S : XS} (h : MAt μ m S) (p q : Int32) : Rn lay (d + 2) mM_takes [rf 16 m, vi p, vi q] μ (if 0 ≤ p.toInt ∧ p.toInt < q.toInt ∧ q.toInt ≤ S.1.2.1 then PM m (nI (S.1.2.1 - (tN q - tN p))) (xSet S (S.1.1.map (takR (tN p) (tN q)), S.1.2.1 - (tN q - tN p), S.1.2.2)) else PM m (mI 1) (xBad S)) := by
  refine Rn_intro ok_M_takes hwf rfl (fun G hC => g_M_takes_0 hC ?_)
  have hw := h.2.2.2.2.2.1
  have hn := hw.1.1
  have hL := hw.2.1
  rw [h.1.2.1]
  refine ⟨fun z => ?_, fun z => ⟨fun z2 => ?_, fun z2 => ⟨fun z3 => ?_, fun z3 => ?_⟩⟩⟩
  · rw [i_lt, i_0] at z
    rw [if_neg (by omega)]
    exact useMBad hwf _ h
  · rw [i_le] at z2
    rw [if_neg (by omega)]
    exact useMBad hwf _ h
  · rw [i_lt, i_0] at z
    rw [i_le] at z2
    rw [i_le, nI_ti (by omega)] at z3
    rw [if_pos (by omega)] at hC
    obtain ⟨p', p1, p2, p3⟩ := nat_of (v := p) (by omega)
    obtain ⟨q', q1, q2, q3⟩ := nat_of (v := q) (by omega)
    have ep : tN p = p' := by unfold tN; rw [p3]; rfl
    have eq : tN q = q' := by unfold tN; rw [q3]; rfl
    rw [ep, eq] at hC
    rw [p2, q2]
    have hpq : p' ≤ q' := by omega
    have hq : q' ≤ S.1.2.1 := by omega
    refine useNotes hwf _ h (fun μ1 t1 t2 t3 => ?_)
    have loop : ∀ k i (μ' : Mem), i + k = S.1.1.length → MF μ' m S.1.1.length (fun j => if j < i then takR p' q' (el S.1.1 j) else el S.1.1 j) → μ'.1 m 1 = nI (S.1.2.1 - (q' - p')) → μ'.1 m 2 = nI S.1.1.length → (∀ k, k < 4 → μ'.1 (m + 5) k = nI (S.1.2.2.getD k 0)) → MMid μ' m S → G 40 [rf 16 m, vi (nI p'), vi (nI q'), vi (nI i)] [] μ' := by
      intro k
      induction k with
      | zero =>
        intro i μ' hi hf c1 c2 c5 hm
        refine g_M_takes_40 hC ?_
        rw [c2, nx_le (by omega) (by omega)]
        refine ⟨fun _ => ⟨_, rfl, c1, hm.fin ⟨?_, c1, fun j hj => ?_, c5⟩ (tak_wt hw hpq hq) (tak_nc h.2.2.2.2.2.2.1 hpq)⟩, fun w => absurd (by omega) w⟩
        · rw [c2]
          show _ = nI (S.1.1.map (takR p' q')).length
          rw [List.length_map]
        · have hj : j < (S.1.1.map (takR p' q')).length := hj
          rw [List.length_map] at hj
          have := hf j hj
          dsimp only at this
          rw [if_pos (by omega)] at this
          show _ = nI (el (S.1.1.map (takR p' q')) j).1 ∧ _ = nI (el (S.1.1.map (takR p' q')) j).2.1 ∧ _ = nI (el (S.1.1.map (takR p' q')) j).2.2
          rw [el_map hj]
          exact this
      | succ k ih =>
        intro i μ' hi hf c1 c2 c5 hm
        have hil : i < S.1.1.length := by omega
        have hfi := hf i hil
        dsimp only at hfi
        rw [if_neg (by omega)] at hfi
        obtain ⟨e1, e2, e3⟩ := hfi
        obtain ⟨b1, b2, b3⟩ := hw.1.at hil
        have e2 : μ'.1 (m + 3) i = nI (ra S.1.1 i) := e2
        have e3 : μ'.1 (m + 4) i = nI (rb S.1.1 i) := e3
        have hv : vp_in (nI i) 9 := vin (by omega) (by omega)
        refine g_M_takes_40 hC ?_
        rw [c2, nx_le (by omega) (by omega), nx_cl (by omega), e2]
        refine ⟨fun w => absurd w (by omega), fun _ => ⟨hv, useV (mBehind_ok hwf _ _ hpq (by omega) (by omega)) ⟨hv, hv, ?_⟩⟩⟩
        rw [up_n1 (by omega), e3]
        refine useV (mBehind_ok hwf _ _ hpq (by omega) (by omega)) ⟨hv, ?_⟩
        rw [nI_add]
        refine ih (i + 1) _ (by omega) (fun j hj => ?_) (by simp (disch := omega) only [up_n1]; exact c1) (by simp (disch := omega) only [up_n1]; exact c2) (fun k hk => by simp (disch := omega) only [up_n1]; exact c5 k hk) (hm.fr (((FM.rf _ [m + 3, m + 4] [] _).up (by simp) (by omega)).up (by simp) (by omega)) (by simp) (by simp))
        dsimp only
        by_cases ej : j = i
        · subst ej
          rw [if_pos (by omega)]
          simp (disch := omega) only [up_n1, up_at]
          exact ⟨e1, rfl, rfl⟩
        · have := hf j hj
          dsimp only at this
          simp (disch := omega) only [up_n1, up_n2]
          by_cases w : j < i
          · rw [if_pos w] at this
            rw [if_pos (by omega)]
            exact this
          · rw [if_neg w] at this
            rw [if_neg (by omega)]
            exact this
    rw [t1.2.1, nx_sub hpq, nx_sub (by omega)]
    refine loop S.1.1.length 0 _ (by omega) (fun j hj => ?_) (by rw [up_at]) (by rw [up_n2 (by omega)]; exact t1.1) (fun k hk => by rw [up_n1 (by omega)]; exact t1.2.2.2 k hk) (t2.fr ((FM.rf _ [] [1] _).upf (by simp)) (by simp) (by simp))
    dsimp only
    rw [if_neg (by omega), up_n1 (by omega), up_n1 (by omega), up_n1 (by omega)]
    exact t1.2.2.1 j hj
  · rw [i_le, nI_ti (by omega)] at z3
    rw [if_neg (by omega)]
    exact useMBad hwf _ h
theorem mOver_ok {lay : List Nat} (hwf : wfB lay = true) (d : Nat) {μ : Mem} {m : Nat} {S : XS} (h : MAt μ m S) (v : Int32) : Rn lay (d + 1) mM_over [rf 16 m, vi v] μ (if 0 ≤ v.toInt ∧ v.toInt < S.1.2.1 then PM m (nI (cov S.1.1 v.toInt.toNat)) S else PM m (mI 1) (xBad S)) := by
  refine Rn_intro ok_M_over hwf rfl (fun G hC => g_M_over_0 hC ?_)
  have hw := h.2.2.2.2.2.1
  have hn := hw.1.1
  have hL := hw.2.1
  rw [h.1.2.1]
  refine useV (min_ok hwf _ _ _ _ μ) ?_
  rw [bI_eq0, ti_lit.1, pre_ti (by omega)]
  refine ⟨fun q => ?_, fun q => ?_⟩
  · have q := Classical.not_not.mp q
    rw [if_pos (by omega)] at hC
    obtain ⟨p, p1, p2, p3⟩ := nat_of q.1
    rw [p3, Int.toNat_natCast] at hC
    rw [p2]
    have loop : ∀ k i, i + k = S.1.1.length → G 23 [rf 16 m, vi (nI p), vi (nI (covU S.1.1 p i)), vi (nI i)] [] μ := by
      intro k
      induction k with
      | zero =>
        intro i hi
        refine g_M_over_23 hC ?_
        rw [h.1.1, nx_le (by omega) (by omega)]
        refine ⟨fun _ => ⟨_, rfl, ?_, h⟩, fun z => absurd (by omega) z⟩
        rw [show i = S.1.1.length by omega]
        rfl
      | succ k ih =>
        intro i hi
        have hil : i < S.1.1.length := by omega
        obtain ⟨e1, e2, e3⟩ := h.1.2.2.1 i hil
        obtain ⟨b1, b2, b3⟩ := hw.1.at hil
        have ih := ih (i + 1) (by omega)
        have hg : ∀ z, z = (if ra S.1.1 i ≤ p ∧ p < rb S.1.1 i then 2 ^ i else 0) → G 23 [rf 16 m, vi (nI p), vi (nI (covU S.1.1 p i ||| z)), vi (nI (i + 1))] [] μ := fun z hz => by
          rw [hz]
          exact ih
        refine g_M_over_23 hC ?_
        simp (disch := omega) only [h.1.1, nx_le, nx_lt, nx_cl, nx_in', e2, e3, nI_add, nx_shl, nx_or]
        refine ⟨fun z => absurd z (by omega), fun _ => ⟨by omega, fun z => hg 0 (by rw [if_neg (by omega)]), fun z => ⟨by omega, fun z2 => hg 0 (by rw [if_neg (by omega)]), fun z2 => hg _ (by rw [if_pos (by omega)])⟩⟩⟩
    exact loop S.1.1.length 0 (by omega)
  · rw [if_neg (by omega)]
    exact useMBad hwf _ h
theorem mCross_ok {lay : List Nat} (hwf : wfB lay = true) (d : Nat) {μ : Mem} {m : Nat} {T : TS} (hT : MTe μ m T) (hw : WT T) {r q : Nat} (hr : r < T.1.length) (hq : q < T.1.length) : Rn lay d mM_crosses [rf 16 m, vi (nI r), vi (nI q)] μ (Pv (bI (xs2 T.1 r q ∨ xs2 T.1 q r)) μ) := by
  have hn := hw.1.1
  have hL := hw.2.1
  obtain ⟨_, e1, e2⟩ := hT.2.2.1 r hr
  obtain ⟨_, f1, f2⟩ := hT.2.2.1 q hq
  obtain ⟨_, b2, b3⟩ := hw.1.at hr
  obtain ⟨_, c2, c3⟩ := hw.1.at hq
  have hv : vp_in (nI r) 9 := vin (by omega) (by omega)
  have hv2 : vp_in (nI q) 9 := vin (by omega) (by omega)
  refine Rn_intro ok_M_crosses hwf rfl (fun G hC => g_M_crosses_0 hC ?_)
  have h0 : ¬ xs2 T.1 r q → G 50 [rf 16 m, vi (nI r), vi (nI q), un] [vi (nI 0)] μ := fun w => by
    refine g_M_crosses_50 hC ?_
    simp (disch := omega) only [nx_cl, e1, e2, f1, f2, nx_le]
    refine ⟨fun z => absurd nx_0.symm z, fun _ => ⟨hv2, hv, fun z => pv_f ?_, fun z => ⟨hv, hv2, fun z2 => pv_f ?_, fun z2 => ⟨hv2, hv, fun z3 => pv_f ?_, fun z3 => pv_t ?_⟩⟩⟩⟩
    · exact fun x => x.elim w (fun y => by have := y.1; omega)
    · exact fun x => x.elim w (fun y => by have := y.2.1; omega)
    · exact fun x => x.elim w (fun y => by have := y.2.2; omega)
    · exact Or.inr ⟨by omega, by omega, by omega⟩
  simp (disch := omega) only [nx_cl, e1, e2, f1, f2, nx_le]
  refine ⟨hv, hv2, fun z => h0 (fun y => by have := y.1; omega), fun z => ⟨hv2, hv, fun z2 => h0 (fun y => by have := y.2.1; omega), fun z2 => ⟨hv, hv2, fun z3 => h0 (fun y => by have := y.2.2; omega), fun z3 => ?_⟩⟩⟩
  refine g_M_crosses_50 hC ⟨fun _ => pv_t (Or.inl ⟨by omega, by omega, by omega⟩), fun y => ?_⟩
  rw [nx_0, nx_eq (by omega) (by omega)] at y
  omega
theorem mAcross_ok {lay : List Nat} (hwf : wfB lay = true) (d : Nat) {μ : Mem} {m : Nat} {T : TS} (hT : MTe μ m T) (hw : WT T) {r : Nat} (hr : r < T.1.length) : Rn lay (d + 1) mM_acrossMany [rf 16 m, vi (nI r)] μ (Pv (nI (xsU T.1 r T.1.length)) μ) := by
  have hn := hw.1.1
  refine Rn_intro ok_M_acrossMany hwf rfl (fun G hC => g_M_acrossMany_0 hC ?_)
  have loop : ∀ k i, i + k = T.1.length → G 4 [rf 16 m, vi (nI r), vi (nI (xsU T.1 r i)), vi (nI i)] [] μ := by
    intro k
    induction k with
    | zero =>
      intro i hi
      refine g_M_acrossMany_4 hC ?_
      rw [hT.1, nx_le (by omega) (by omega)]
      exact ⟨fun _ => pv_e (by rw [show i = T.1.length by omega]), fun z => absurd (by omega) z⟩
    | succ k ih =>
      intro i hi
      have ih := ih (i + 1) (by omega)
      have eu : xsU T.1 r (i + 1) = xsU T.1 r i + (if xs2 T.1 r i ∨ xs2 T.1 i r then 1 else 0) := rfl
      rw [eu] at ih
      refine g_M_acrossMany_4 hC ?_
      rw [hT.1, nx_le (by omega) (by omega)]
      refine ⟨fun z => absurd z (by omega), fun _ => useV (mCross_ok hwf d hT hw hr (by omega)) ?_⟩
      rw [bI_eq0, nI_add, nI_add, nI_add]
      refine ⟨fun z => ?_, fun z => ?_⟩
      · rw [if_neg z] at ih
        exact ih
      · rw [if_pos (Classical.not_not.mp z)] at ih
        exact ih
  exact loop T.1.length 0 (by omega)
theorem mDraw_ok {lay : List Nat} (hwf : wfB lay = true) (d : Nat) {μ : Mem} {m : Nat} {S : XS} (h : MAt μ m S) (s v : Int32) : Rn lay (d + 2) mM_draw [rf 16 m, vi s, vi v] μ (if (0 ≤ s.toInt ∧ s.toInt ≤ 999999) ∧ 0 ≤ v.toInt ∧ v.toInt ≤ 8 then PM m (nI (drX S.1.2.1 (tN v) (tN s) []).length) (xSet S (drX S.1.2.1 (tN v) (tN s) [], S.1.2)) else PM m (mI 1) (xBad S)) := by
  refine Rn_intro ok_M_draw hwf rfl (fun G hC => g_M_draw_0 hC ?_)
  have hw := h.2.2.2.2.2.1
  have hn := hw.1.1
  have hL := hw.2.1
  refine useV (min_ok hwf _ _ _ _ μ) ?_
  rw [bI_eq0, ti_lit.1, ti_lit.2.2.2.2.2.2.2.2]
  refine ⟨fun q => ?_, fun q => ?_⟩
  · rw [if_neg (fun z => q z.1)]
    exact useMBad hwf _ h
  · have q := Classical.not_not.mp q
    refine useV (min_ok hwf _ _ _ _ μ) ?_
    rw [bI_eq0, ti_lit.1, ti_lit.2.2.2.2.2.2.1]
    refine ⟨fun r => ?_, fun r => ?_⟩
    · have r := Classical.not_not.mp r
      rw [if_pos ⟨q, r⟩] at hC
      obtain ⟨s', s1, s2, s3⟩ := nat_of q.1
      obtain ⟨n, n1, n2, n3⟩ := nat_of r.1
      have es : tN s = s' := by unfold tN; rw [s3]; rfl
      have en : tN v = n := by unfold tN; rw [n3]; rfl
      rw [es, en] at hC
      rw [s3] at q
      rw [n3] at r
      rw [s2, n2, nI_l (by omega)]
      refine useNotes hwf _ h (fun μ1 t1 t2 t3 => ?_)
      have loop : ∀ k i X (rs : List RG) (μ' : Mem), i + k = n → X < 2147483648 → MMid μ' m S → MTe μ' m (rs, S.1.2) → WR S.1.2.1 rs ∧ NC rs → rs.length ≤ i → drX S.1.2.1 k X rs = drX S.1.2.1 n s' [] → G 40 [rf 16 m, un, vi (nI n), vl (lN X), un, vi (nI i), un, un] [] μ' := by
        intro k
        induction k with
        | zero =>
          intro i X rs μ' hi hX hx hT hW hl he
          refine g_M_draw_40 hC ?_
          rw [nx_le (by omega) (by omega)]
          refine ⟨fun _ => ?_, fun z => absurd (by omega) z⟩
          have he : rs = drX S.1.2.1 n s' [] := he
          refine ⟨_, rfl, ?_, ?_⟩
          · rw [← he]
            exact hT.1
          · rw [← he]
            exact hx.fin hT ⟨hW.1, hw.2⟩ hW.2
        | succ k ih =>
          intro i X rs μ' hi hX hx hT hW hl he
          refine g_M_draw_40 hC ?_
          rw [nx_le (by omega) (by omega)]
          refine ⟨fun z => absurd z (by omega), fun _ => ⟨lne0.1, ?_⟩⟩
          rw [lN_mul, lN_add, pk_lRem (by omega) (by omega) (by omega)]
          have hX2 := dnx_lt X
          have he : drX S.1.2.1 k (dnx X) (drS S.1.2.1 (dnx X) rs) = drX S.1.2.1 n s' [] := he
          show G 60 [rf 16 m, un, vi (nI n), vl (lN (dnx X)), un, vi (nI i), un, un] [] μ'
          generalize dnx X = Y at hX2 he
          have hL1 : μ'.1 m 1 = nI S.1.2.1 := hT.2.1
          have e0 : ¬ lN (S.1.2.1 + 1) = 0 := fun z => by
            have h0 : lN (S.1.2.1 + 1) = lN 0 := z
            rw [lN_eq (by omega) (by omega)] at h0
            omega
          have m1 := Nat.mod_lt (Y / 1024) (show 0 < S.1.2.1 + 1 by omega)
          have m2 := Nat.mod_lt (Y / 32768) (show 0 < S.1.2.1 + 1 by omega)
          have hl8 : rs.length < 8 := by omega
          obtain ⟨d1, d2⟩ := drS_ok Y hW hl8
          have hW2 : WR S.1.2.1 (rs ++ [drG S.1.2.1 Y]) := WR_app hW.1 hl8 (drG_ok _ _)
          have hll : (rs ++ [drG S.1.2.1 Y]).length = rs.length + 1 := by simp
          -- behind 'comes'
          have beh : ∀ μ2 : Mem, MTe μ2 m (rs ++ [drG S.1.2.1 Y], S.1.2) → FM m [m + 2, m + 3, m + 4] [2] μ' μ2 → (∃ P140 : PT, Rn lay (d + 1) mM_isTooMuch [rf 16 m] μ2 P140 ∧ ∀ (x140 : Int32) (μ140 : Mem), P140 (some (vi x140)) μ140 → ((x140 = 0 → G 40 [rf 16 m, un, vi (nI n), vl (lN Y), un, vi (nI i + nI 1), un, un] [] (upI μ140 m 2 ((μ2.1 m 2) - (nI 0)))) ∧ (¬ x140 = 0 → G 40 [rf 16 m, un, vi (nI n), vl (lN Y), un, vi (nI i + nI 1), un, un] [] (upI μ140 m 2 ((μ2.1 m 2) - (nI 1)))))) := by
            intro μ2 c1 c2
            refine useV (mTooMuch_ok hwf d c1 ⟨hW2, hw.2⟩) ?_
            rw [bI_eq0, nI_add]
            have c0 : μ2.1 m 2 = nI (rs.length + 1) := by
              rw [c1.1]
              show nI (rs ++ [drG S.1.2.1 Y]).length = _
              rw [hll]
            rw [c0, nx_sub (by omega), nx_sub (by omega), Nat.add_sub_cancel, Nat.sub_zero]
            refine ⟨fun z => ?_, fun z => ?_⟩
            · have e : drS S.1.2.1 Y rs = rs ++ [drG S.1.2.1 Y] := by unfold drS; rw [if_neg z]
              rw [e] at he d1 d2
              refine ih (i + 1) Y _ _ (by omega) hX2 (hx.fr (c2.upf (by simp)) (by simp) (by simp)) ⟨by rw [up_at]; show _ = nI (rs ++ [drG S.1.2.1 Y]).length; rw [hll], by rw [up_n2 (by omega)]; exact c1.2.1, fun j hj => ?_, fun k hk => by rw [up_n1 (by omega)]; exact c1.2.2.2 k hk⟩ d1 (by omega) he
              rw [up_n1 (by omega), up_n1 (by omega), up_n1 (by omega)]
              exact c1.2.2.1 j hj
            · have e : drS S.1.2.1 Y rs = rs := by unfold drS; rw [if_pos (Classical.not_not.mp z)]
              rw [e] at he
              exact ih (i + 1) Y rs _ (by omega) hX2 (hx.fr (c2.upf (by simp)) (by simp) (by simp)) (mte_pop c1 _ rfl) hW (by omega) he
          refine g_M_draw_60 hC ?_
          rw [hL1, nI_add, nI_l (by omega), pk_lDiv (a := Y) (b := 1024) (by omega) (by omega) (by omega), pk_lDiv (a := Y) (b := 32768) (by omega) (by omega) (by omega), pk_lRem (by omega) (by omega) (by omega), pk_lRem (by omega) (by omega) (by omega), lN_i, lN_i]
          refine ⟨lne0.2.1, e0, lne0.2.2.1, e0, ?_⟩
          refine g_M_draw_92 hC ?_
          rw [pk_lDiv (by omega) (by omega) (by omega), pk_lRem (by omega) (by omega) (by omega), lN_i, nx_le (by omega) (by omega)]
          refine ⟨lne0.2.2.2.1, lne0.2.2.2.2, fun z => ?_, fun z => ?_⟩
          · refine g_M_draw_117 hC ?_
            rw [nx_le (by omega) (by omega)]
            refine ⟨fun _ => ?_, fun w => absurd z w⟩
            refine useN (mComes_ok hwf _ hT (k := Y / 65536 % 4) (a := Y / 32768 % (S.1.2.1 + 1)) (b := Y / 1024 % (S.1.2.1 + 1)) (by show rs.length < 9; omega)) (fun μ2 hp => ?_)
            obtain ⟨c1, c2⟩ := hp
            refine beh μ2 ?_ c2
            have eg : drG S.1.2.1 Y = (Y / 65536 % 4, Y / 32768 % (S.1.2.1 + 1), Y / 1024 % (S.1.2.1 + 1)) := by
              unfold drG
              congr 2
              · split <;> omega
              · split <;> omega
            rw [eg]
            exact c1
          · refine g_M_draw_117 hC ?_
            rw [nx_le (by omega) (by omega)]
            refine ⟨fun w => absurd w z, fun _ => ?_⟩
            refine useN (mComes_ok hwf _ hT (k := Y / 65536 % 4) (a := Y / 1024 % (S.1.2.1 + 1)) (b := Y / 32768 % (S.1.2.1 + 1)) (by show rs.length < 9; omega)) (fun μ2 hp => ?_)
            obtain ⟨c1, c2⟩ := hp
            refine beh μ2 ?_ c2
            have eg : drG S.1.2.1 Y = (Y / 65536 % 4, Y / 1024 % (S.1.2.1 + 1), Y / 32768 % (S.1.2.1 + 1)) := by
              unfold drG
              congr 2
              · split <;> omega
              · split <;> omega
            rw [eg]
            exact c1
      refine loop n 0 s' [] _ (by omega) (by omega) (t2.fr ((FM.rf _ [] [2] _).upf (by simp)) (by simp) (by simp)) ⟨by rw [up_at]; rfl, by rw [up_n2 (by omega)]; exact t1.2.1, fun i hi => absurd hi (Nat.not_lt_zero _), fun k hk => by rw [up_n1 (by omega)]; exact t1.2.2.2 k hk⟩ ⟨⟨by simp, fun r hr => by simp at hr⟩, nc_nil⟩ (by simp) rfl
    · rw [if_neg (fun z => r z.2)]
      exact useMBad hwf _ h
