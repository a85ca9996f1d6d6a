/-! the reference: the stacks of all sections -/
def rkS (m : Nat) : List Nat := [m + 9, m + 10, m + 14]
/-- all sections below k have their stacks -/
def SksM (μ : Mem) (m : Nat) (rk : Nat → Nat) (cv : List Nat) (k : Nat) : Prop := ∀ s, s < k → s < cv.length → SkM μ m s (stk rk (cv.getD s 0))
theorem gd_last {α : Type} (l : List α) (a d : α) : (l ++ [a]).getD l.length d = a := by
  rw [List.getD_eq_getElem?_getD, List.getElem?_append_right (Nat.le_refl _), Nat.sub_self]
  rfl
theorem fil_take {α : Type} (p : α → Bool) (l : List α) (d : α) {i : Nat} (h : i < l.length) : (l.take (i + 1)).filter p = if p (l.getD i d) = true then (l.take i).filter p ++ [l.getD i d] else (l.take i).filter p := by
  have e : l.take (i + 1) = l.take i ++ [l.getD i d] := by
    rw [List.take_add_one, List.getD_eq_getElem?_getD, List.getElem?_eq_getElem h]
    rfl
  rw [e, List.filter_append, List.filter_cons]
  by_cases hp : p (l.getD i d) = true
  · rw [if_pos hp, if_pos hp]
    rfl
  · rw [if_neg hp, if_neg hp]
    exact List.append_nil _
theorem mSetStacks_ok {lay : List Nat} (hwf : wfB lay = true) (d : Nat) {μ : Mem} {m : Nat} {T : TS} {cs cv : List Nat} (hT : MTe μ m T) (hw : WT T) (hcu : CuM μ m cs) (hcv : CvM μ m cv) (hcl : cs.length ≤ 16) (hvl : cv.length = cs.length - 1) (hok : okC cv) (hbt : ∀ s, s < cv.length → ∀ j, j < 8 → (cv.getD s 0).testBit j = true → j < T.1.length) (fr : Bool) : Rn lay (d + 1) mM_setStacks [rf 16 m, vi (nI (if fr = true then 1 else 0))] μ (Pn fun μ1 => SksM μ1 m (rkT T fr) cv cv.length ∧ FM m (rkS m) [] μ μ1) := by
  have hn := hw.1.1
  have hrk : ∀ r, r < 8 → rkT T fr r < 4 := fun r _ => rkT_lt hw fr r
  refine Rn_intro ok_M_setStacks hwf rfl (fun G hC => g_M_setStacks_0 hC ?_)
  have keep : ∀ (μ' : Mem), FM m (rkS m) [] μ μ' → MTe μ' m T ∧ CuM μ' m cs ∧ CvM μ' m cv := fun μ' hf => by
    refine ⟨hT.fr hf (by simp [rkS]) (by simp), ⟨by rw [hf.2.1 9 (by simp)]; exact hcu.1, fun i hi => by rw [hf.1 (m + 7) (by omega) (by simp [rkS])]; exact hcu.2 i hi⟩, fun i hi => by rw [hf.1 (m + 8) (by omega) (by simp [rkS])]; exact hcv i hi⟩
  have loop : ∀ n s (μ' : Mem), s + n = cv.length → SksM μ' m (rkT T fr) cv s → FM m (rkS m) [] μ μ' → G 2 [rf 16 m, vi (nI (if fr = true then 1 else 0)), vi (nI s), un, un, un, un] [] μ' := by
    intro n
    induction n with
    | zero =>
      intro s μ' hs hsk hf
      obtain ⟨_, c1, _⟩ := keep μ' hf
      refine g_M_setStacks_2 hC ?_
      refine useV (mSections_ok hwf d c1.1 hcl) ?_
      rw [nx_le (by omega) (by omega)]
      exact ⟨fun _ => ⟨rfl, fun q h1 h2 => hsk q (by omega) h2, hf⟩, fun z => absurd (by omega) z⟩
    | succ n ih =>
      intro s μ' hs hsk hf
      obtain ⟨_, c1, _⟩ := keep μ' hf
      have hsl : s < cv.length := by omega
      obtain ⟨hc256, hc5⟩ := hok.at hsl
      have hb := hbt s hsl
      have hv15 : vp_in (nI s) 15 := vin (by omega) (by omega)
      -- one section's stacks
      have hA0 := stk_fil hrk hc256 hc5
      have hAl := stk_len (rk := rk00) hc256 hc5
      obtain ⟨hA1, hA2⟩ := chn_all hc256 hc5
      have hApos := stk_pos (rk := rk00) (fun r _ => by show 0 < 4; omega) hc256 hc5
      have hAst : ∀ i, i < (stk rk00 (cv.getD s 0)).length → isSt (cv.getD s 0) ((stk rk00 (cv.getD s 0)).getD i []) := fun i hi => stk_st hc256 (stk_get hi)
      generalize hA : stk rk00 (cv.getD s 0) = A at hA0 hAl hA1 hA2 hApos hAst
      have hlen : ∀ i, i < A.length → (A.getD i []).length = popN (cv.getD s 0) := fun i hi => (hAst i hi).len
      have hx8 : ∀ i, i < A.length → ∀ q, (A.getD i []).getD q 0 < 8 := fun i hi => gd8 (fun r hr => ((hAst i hi).2 r |>.mp hr).1)
      have hxT : ∀ i, i < A.length → ∀ q, q < (A.getD i []).length → (A.getD i []).getD q 0 < T.1.length := fun i hi q hq => by
        obtain ⟨a, b⟩ := ((hAst i hi).2 _).mp (gd_mem hq)
        exact hb _ a b
      have l65 : ∀ k i (μ2 : Mem), i + k = A.length → SksM μ2 m (rkT T fr) cv s → FM m (rkS m) [] μ μ2 → SkM μ2 m s ((A.take i).filter (fun x => msU (rkT T fr) x x.length)) → (0 < k → RwM μ2 m (A.getD i [])) → G 65 [rf 16 m, vi (nI (if fr = true then 1 else 0)), vi (nI s), vi (nI (popN (cv.getD s 0))), vi (nI (if k = 0 then 0 else 1)), un, un] [] μ2 := by
        intro k
        induction k with
        | zero =>
          intro i μ2 hi hsk2 hf2 hst hrw
          refine g_M_setStacks_65 hC ⟨fun _ => ?_, fun z => absurd (by decide) z⟩
          rw [nI_add]
          refine ih (s + 1) μ2 (by omega) (fun q h1 h2 => ?_) hf2
          by_cases e : q = s
          · subst e
            rw [List.take_of_length_le (by omega), hA0] at hst
            exact hst
          · exact hsk2 q (by omega) h2
        | succ k ih2 =>
          intro i μ2 hi hsk2 hf2 hst hrw
          obtain ⟨t1, t2, t3⟩ := keep μ2 hf2
          have hil : i < A.length := by omega
          have hrw := hrw (by omega)
          have hxl := hlen i hil
          refine g_M_setStacks_65 hC ⟨fun z => absurd z (by rw [if_neg (by omega)]; decide), fun _ => ?_⟩
          -- the next row, whatever was put down
          have nxt : ∀ μ3 : Mem, SksM μ3 m (rkT T fr) cv s → FM m (rkS m) [] μ μ3 → SkM μ3 m s ((A.take (i + 1)).filter (fun x => msU (rkT T fr) x x.length)) → RwM μ3 m (A.getD i []) → (∃ P142 : PT, Rn lay d mM_nextRow [rf 16 m, vi (nI (popN (cv.getD s 0)))] μ3 P142 ∧ ∀ (x142 : Int32) (μ142 : Mem), P142 (some (vi x142)) μ142 → G 65 [rf 16 m, vi (nI (if fr = true then 1 else 0)), vi (nI s), vi (nI (popN (cv.getD s 0))), vi x142, un, un] [] μ142) := by
            intro μ3 a1 a2 a3 a4
            have hnr := mNextRow_ok hwf d a4 (by omega) (hx8 i hil)
            rw [hxl] at hnr
            refine useQ hnr (fun v μ4 hp => ?_)
            obtain ⟨q1, q2⟩ := hp
            rw [chn_at hA2 hil] at q2
            have b1 : SksM μ4 m (rkT T fr) cv s := fun q h1 h2 => by
              obtain ⟨u1, u2⟩ := a1 q h1 h2
              exact ⟨by rw [q1.1 (m + 9) (by omega) (by simp)]; exact u1, fun j hj => by rw [q1.1 (m + 10) (by omega) (by simp)]; exact u2 j hj⟩
            have b3 : SkM μ4 m s ((A.take (i + 1)).filter (fun x => msU (rkT T fr) x x.length)) := ⟨by rw [q1.1 (m + 9) (by omega) (by simp)]; exact a3.1, fun j hj => by rw [q1.1 (m + 10) (by omega) (by simp)]; exact a3.2 j hj⟩
            have := ih2 (i + 1) μ4 (by omega) b1 (a2.tr (q1.mono (by simp [rkS]) (by simp))) b3
            rcases Nat.eq_zero_or_pos k with e | e
            · rw [List.getElem?_eq_none (by omega)] at q2
              have q2 : v = nI 0 := q2
              rw [q2]
              have := this (fun w => by omega)
              rw [if_pos e] at this
              exact this
            · rw [List.getElem?_eq_getElem (show i + 1 < A.length by omega)] at q2
              have q2 : v = nI 1 ∧ RwM μ4 m (A[i + 1]'(by omega)) := q2
              rw [q2.1]
              have := this (fun _ => by
                rw [List.getD_eq_getElem?_getD, List.getElem?_eq_getElem (show i + 1 < A.length by omega)]
                exact q2.2)
              rw [if_neg (show ¬ k = 0 by omega)] at this
              exact this
          have hft := fil_take (fun x => msU (rkT T fr) x x.length) A [] hil
          have hmay := mMay_ok hwf d t1 hw hrw (by omega) (hxT i hil) fr
          rw [hxl] at hmay
          refine useV hmay ?_
          rw [bI_eq0]
          refine ⟨fun z => ?_, fun z => ?_⟩
          · rw [← hxl] at z
            rw [if_neg z] at hft
            exact nxt μ2 hsk2 hf2 (by rw [hft]; exact hst) hrw
          · have z := Classical.not_not.mp z
            rw [← hxl] at z
            rw [if_pos z] at hft
            -- the number is put together
            have l85 : ∀ c j, j + c = popN (cv.getD s 0) → G 85 [rf 16 m, vi (nI (if fr = true then 1 else 0)), vi (nI s), vi (nI (popN (cv.getD s 0))), un, vi (nI (cdU (A.getD i []) j)), vi (nI j)] [] μ2 := by
              intro c
              induction c with
              | zero =>
                intro j hj
                refine g_M_setStacks_85 hC ?_
                rw [nx_le (by omega) (by omega)]
                refine ⟨fun _ => ?_, fun w => absurd (by omega) w⟩
                refine g_M_setStacks_112 hC ?_
                have hm120 : ((A.take i).filter (fun x => msU (rkT T fr) x x.length)).length < 120 := by
                  have h1 := List.length_filter_le (fun x => msU (rkT T fr) x x.length) (A.take i)
                  rw [List.length_take] at h1
                  omega
                rw [nx_cl (by omega), hst.1, pk_mul, nI_add, nx_cl (by omega), up_n1 (by omega), hst.1, nI_add]
                refine ⟨hv15, vin (by omega) (by omega), hv15, hv15, nxt _ (fun q h1 h2 => ?_) ((hf2.up (by simp [rkS]) (by omega)).up (by simp [rkS]) (by omega)) ?_ (fun q hq => ?_)⟩
                · obtain ⟨u1, u2⟩ := hsk2 q h1 h2
                  have hq120 : (stk (rkT T fr) (cv.getD q 0)).length ≤ 120 := stk_len (hok.at h2).1 (hok.at h2).2
                  exact ⟨by rw [up_n2 (by omega), up_n1 (by omega)]; exact u1, fun r hr => by rw [up_n1 (by omega), up_n2 (by omega)]; exact u2 r hr⟩
                · rw [hft]
                  refine ⟨by rw [up_at, List.length_append]; rfl, fun r hr => ?_⟩
                  rw [List.length_append, List.length_singleton] at hr
                  rw [up_n1 (by omega)]
                  by_cases e : r = ((A.take i).filter (fun x => msU (rkT T fr) x x.length)).length
                  · rw [e, up_at, gd_last]
                    have := cdU_f (A.getD i []) j (by omega)
                    rw [List.take_of_length_le (by omega)] at this
                    rw [this]
                  · rw [up_n2 (by omega), List.getD_eq_getElem?_getD, List.getElem?_append_left (by omega), ← List.getD_eq_getElem?_getD]
                    exact hst.2 r (by omega)
                · rw [up_n1 (by omega), up_n1 (by omega)]
                  exact hrw q hq
              | succ c ih3 =>
                intro j hj
                refine g_M_setStacks_85 hC ?_
                rw [nx_le (by omega) (by omega), nx_cl (by omega), hrw j (by omega), pk_mul, nI_add, nI_add]
                exact ⟨fun w => absurd w (by omega), fun _ => ⟨vin (by omega) (by omega), ih3 (j + 1) (by omega)⟩⟩
            exact l85 (popN (cv.getD s 0)) 0 (by omega)
      -- the first row
      have l15 : ∀ k i (μ2 : Mem), i + k = T.1.length → SksM μ2 m (rkT T fr) cv s → FM m (rkS m) [] μ μ2 → RwM μ2 m (btU (cv.getD s 0) i) → G 15 [rf 16 m, vi (nI (if fr = true then 1 else 0)), vi (nI s), vi (nI (btU (cv.getD s 0) i).length), vi (nI i), un, un] [] μ2 := by
        intro k
        induction k with
        | zero =>
          intro i μ2 hi hsk2 hf2 hrw
          obtain ⟨t1, t2, t3⟩ := keep μ2 hf2
          refine g_M_setStacks_15 hC ?_
          rw [t1.1, nx_le (by omega) (by omega), nx_cl (by omega)]
          refine ⟨fun _ => ⟨hv15, ?_⟩, fun z => absurd (by omega) z⟩
          have eb : btU (cv.getD s 0) i = bts (cv.getD s 0) := btU_all (by omega) (fun j h1 h2 => by have := hb j h1 h2; omega)
          rw [eb] at hrw ⊢
          rw [← popN_bts]
          have h0 : A.getD 0 [] = bts (cv.getD s 0) := by
            rw [List.getD_eq_getElem?_getD, ← List.head?_eq_getElem?, hA1]
            rfl
          have := l65 A.length 0 (upI μ2 (m + 9) s (nI 0)) (by omega) (fun q h1 h2 => by
            obtain ⟨u1, u2⟩ := hsk2 q h1 h2
            exact ⟨by rw [up_n2 (by omega)]; exact u1, fun r hr => by rw [up_n1 (by omega)]; exact u2 r hr⟩) (hf2.up (by simp [rkS]) (by omega)) ⟨by rw [up_at]; rfl, fun r hr => absurd hr (Nat.not_lt_zero _)⟩ (fun _ => by
            rw [h0]
            exact fun q hq => by rw [up_n1 (by omega)]; exact hrw q hq)
          rw [if_neg (show ¬ A.length = 0 by omega)] at this
          exact this
        | succ k ih2 =>
          intro i μ2 hi hsk2 hf2 hrw
          obtain ⟨t1, t2, t3⟩ := keep μ2 hf2
          have hbl : (btU (cv.getD s 0) i).length ≤ i := by rw [btU_len]; exact popU_le _ _
          have hb5 : (btU (cv.getD s 0) i).length ≤ popN (cv.getD s 0) := by
            rw [btU_len, show popN (cv.getD s 0) = popU (cv.getD s 0) 8 from (popU_f _ 8).symm]
            have mono : ∀ a b, a ≤ b → popU (cv.getD s 0) a ≤ popU (cv.getD s 0) b := by
              intro a b
              induction b with
              | zero => intro h; rw [show a = 0 by omega]; exact Nat.le_refl _
              | succ b ihb =>
                intro h
                rcases Nat.lt_or_eq_of_le h with w | w
                · have := ihb (by omega)
                  show _ ≤ popU (cv.getD s 0) b + _
                  omega
                · rw [w]; exact Nat.le_refl _
            exact mono i 8 (by omega)
          refine g_M_setStacks_15 hC ?_
          rw [t1.1, nx_le (by omega) (by omega), nx_cl (by omega), t3 s hsl]
          refine ⟨fun z => absurd z (by omega), fun _ => ⟨hv15, useV (mHas_ok hwf d hc256 (by omega) μ2) ?_⟩⟩
          rw [bI_eq0, nI_add, nI_add]
          have e := btU_s (cv.getD s 0) i
          refine ⟨fun z => ?_, fun z => ?_⟩
          · rw [if_neg z] at e
            have := ih2 (i + 1) μ2 (by omega) hsk2 hf2 (by rw [e]; exact hrw)
            rw [e] at this
            exact this
          · have z := Classical.not_not.mp z
            rw [if_pos z] at e
            have hlt : (btU (cv.getD s 0) i).length < 5 := by
              have h1 : (btU (cv.getD s 0) (i + 1)).length = (btU (cv.getD s 0) i).length + 1 := by rw [e, List.length_append]; rfl
              have h2 : (btU (cv.getD s 0) (i + 1)).length ≤ popN (cv.getD s 0) := by
                rw [btU_len, show popN (cv.getD s 0) = popU (cv.getD s 0) 8 from (popU_f _ 8).symm]
                have mono : ∀ a b, a ≤ b → popU (cv.getD s 0) a ≤ popU (cv.getD s 0) b := by
                  intro a b
                  induction b with
                  | zero => intro h; rw [show a = 0 by omega]; exact Nat.le_refl _
                  | succ b ihb =>
                    intro h
                    rcases Nat.lt_or_eq_of_le h with w | w
                    · have := ihb (by omega)
                      show _ ≤ popU (cv.getD s 0) b + _
                      omega
                    · rw [w]; exact Nat.le_refl _
                exact mono (i + 1) 8 (by omega)
              omega
            rw [nx_cl (by omega)]
            refine ⟨vin hlt (by omega), ?_⟩
            have := ih2 (i + 1) (upI μ2 (m + 14) (btU (cv.getD s 0) i).length (nI i)) (by omega) (fun q h1 h2 => by
              obtain ⟨u1, u2⟩ := hsk2 q h1 h2
              exact ⟨by rw [up_n1 (by omega)]; exact u1, fun r hr => by rw [up_n1 (by omega)]; exact u2 r hr⟩) (hf2.up (by simp [rkS]) (by omega)) (by
              rw [e]
              intro q hq
              rw [List.length_append, List.length_singleton] at hq
              by_cases eq : q = (btU (cv.getD s 0) i).length
              · rw [eq, up_at, List.getD_eq_getElem?_getD, List.getElem?_append_right (Nat.le_refl _), Nat.sub_self]
                rfl
              · rw [up_n2 eq, List.getD_eq_getElem?_getD, List.getElem?_append_left (by omega), ← List.getD_eq_getElem?_getD]
                exact hrw q (by omega))
            rw [e, List.length_append, List.length_singleton] at this
            exact this
      refine g_M_setStacks_2 hC ?_
      refine useV (mSections_ok hwf d c1.1 hcl) ?_
      rw [nx_le (by omega) (by omega)]
      exact ⟨fun z => absurd z (by omega), fun _ => l15 T.1.length 0 μ' (by omega) hsk hf (fun q hq => absurd hq (Nat.not_lt_zero _))⟩
  exact loop cv.length 0 μ (by omega) (fun q h => absurd h (Nat.not_lt_zero _)) (FM.rf _ _ _ _)
