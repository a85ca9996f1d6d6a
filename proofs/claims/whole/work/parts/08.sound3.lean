def rkV (rk : Nat) (v : Option TV) : Prop := match rk with
  | 0 => v = none
  | 1 => ∃ x, v = some (vi x)
  | _ => ∃ x, v = some (vl x)
section SOUND3
variable {p : Program} {l : Launch} {e : Env} {s : State} {m : MethodId} {args : Array Value} {below : List Frame} {meth : Method} {c : Code} {Q : State → Prop}
variable {lay : List Nat} {adr : Nat → Nat} {cA : Nat → ClassId} {D : va_G} {M d : Nat}
variable {K : KT} {pc : Nat} {ls st : List TV} {μ : Mem} {P : PT} {rk : Nat}
abbrev QM (D : va_G) (lay : List Nat) (adr : Nat → Nat) (cA : Nat → ClassId) (s : State) (args : Array Value) (below : List Frame) (rk : Nat) (P : PT) : State → Prop := MQ below (Qr D lay adr cA (Aset lay adr s.heap.size) rk P) args s 0 0 (Aset lay adr s.heap.size)
theorem ok_iret (X : Cx lay adr cA D M p s m args c) (hr : meth.sig.returnType = mRt M) (hlocks : meth.locks = false) {a : Int} {z : Nat} (hc : chkE M pc (31, a, [z]) = true) (h : s_iret z st μ P) : WW lay adr cA D M d (QM D lay adr cA s args below (rkOf (mRt M)) P) p l e s m args below meth c pc ls st μ := by
  intro H locs la hP hS hL h1 h2
  simp only [chkE, Bool.and_eq_true, decide_eq_true_eq] at hc
  obtain ⟨hd, hrt⟩ := hc
  rw [hrt] at hr
  unfold s_iret at h
  split at h
  · next v =>
    rcases z with _ | z
    · rw [hrt]
      exact W.iret (v := v) X.1 X.2.1 hr (fun t ht hW => ⟨⟨v, μ, rfl, h, by show va_P D classes _ t.heap; rw [ht]; exact hP⟩, hS.F ht⟩) hS.2.2 (dk_at hd) hlocks
    · obtain ⟨hv, h⟩ := h
      rw [hrt]
      exact W.zret (v := v) (ty := .boolean) X.1 X.2.1 hr (by rcases hv with e | e <;> subst e <;> decide) (fun t ht hW => ⟨⟨v, μ, rfl, h, by show va_P D classes _ t.heap; rw [ht]; exact hP⟩, hS.F ht⟩) hS.2.2 (dk_at hd) hlocks
  · exact h.elim
theorem ok_lret (X : Cx lay adr cA D M p s m args c) (hr : meth.sig.returnType = mRt M) (hlocks : meth.locks = false) {a : Int} {bs : List Nat} (hc : chkE M pc (32, a, bs) = true) (h : s_lret st μ P) : WW lay adr cA D M d (QM D lay adr cA s args below (rkOf (mRt M)) P) p l e s m args below meth c pc ls st μ := by
  intro H locs la hP hS hL h1 h2
  simp only [chkE, Bool.and_eq_true, decide_eq_true_eq] at hc
  obtain ⟨hd, hrt⟩ := hc
  rw [hrt] at hr
  unfold s_lret at h
  split at h
  · next v =>
    rw [hrt]
    exact W.lret (v := v) X.1 X.2.1 hr (fun t ht hW => ⟨⟨v, μ, rfl, h, by show va_P D classes _ t.heap; rw [ht]; exact hP⟩, hS.F ht⟩) hS.2.2 (dk_at hd) hlocks
  · exact h.elim
theorem ok_ret (X : Cx lay adr cA D M p s m args c) (hr : meth.sig.returnType = mRt M) (hlocks : meth.locks = false) {a : Int} {bs : List Nat} (hc : chkE M pc (33, a, bs) = true) (h : s_ret st μ P) : WW lay adr cA D M d (QM D lay adr cA s args below (rkOf (mRt M)) P) p l e s m args below meth c pc ls st μ := by
  intro H locs la hP hS hL h1 h2
  simp only [chkE, Bool.and_eq_true, decide_eq_true_eq] at hc
  obtain ⟨hd, hrt⟩ := hc
  rw [hrt] at hr
  unfold s_ret at h
  split at h
  · rw [hrt]
    exact W.vret X.1 X.2.1 hr (fun t ht hW => ⟨⟨μ, rfl, h, by show va_P D classes _ t.heap; rw [ht]; exact hP⟩, hS.F ht⟩) hS.2.2 (dk_at hd) hlocks
  · exact h.elim
theorem ok_math (X : Cx lay adr cA D M p s m args c) (hK : ∀ pc ls st μ, K pc ls st μ → WW lay adr cA D M d Q p l e s m args below meth c pc ls st μ) {a : Int} {idx b p0 p1 p2 p3 : Nat} (hc : chkE M pc (36, a, [idx, b, p0, p1, p2, p3]) = true) (h : s_math b pc ls st μ K) : WW lay adr cA D M d Q p l e s m args below meth c pc ls st μ := by
  intro H locs la hP hS hL h1 h2
  unfold s_math at h
  split at h
  · next y x st =>
    split at h
    · next hs =>
      have hk := hK _ _ _ _ h H locs la hP hS hL h1 (k_cons trivial (k_tl (k_tl h2)))
      have hs2 : ((st.map (cv adr)).map fun v => v.category).sum + 13 ≤ (rmD d).locals := by
        have e1 : (st.map (cv adr)).map (fun v => v.category) = st.map tcat := by
          rw [List.map_map]
          exact List.map_congr_left (fun v _ => cv_cat adr v)
        rw [e1]
        have := Nat.le_of_ble_eq_true hs
        simp only [rmD]
        omega
      have hml : c.maxLocals = la.size := by rw [X.2.2.1, hL.1.1]
      simp only [chkE, Bool.and_eq_true] at hc
      obtain ⟨hd, hi, hw⟩ := hc
      rcases b with _ | b
      · simp only [Bool.and_eq_true] at hw
        obtain ⟨w1, w2, w3⟩ := hw
        exact va_mmax X.1 X.2.1 hml X.2.2.2.1 (X.word (wAt_in w1 rfl)) (X.word (wAt_in w2 rfl)) (X.word (wAt_in hi rfl)) (X.word (wAt_in w3 rfl)) (by simp [rmD]) hs2 (Nat.zero_le _) (Nat.zero_le _) (dk_at hd) hk
      · simp only [Bool.and_eq_true] at hw
        obtain ⟨w1, w2, w3⟩ := hw
        exact va_mmin X.1 X.2.1 hml X.2.2.2.1 (X.word (wAt_in w1 rfl)) (X.word (wAt_in w2 rfl)) (X.word (wAt_in hi rfl)) (X.word (wAt_in w3 rfl)) (by simp [rmD]) hs2 (Nat.zero_le _) (Nat.zero_le _) (dk_at hd) hk
    · exact h.elim
  · exact h.elim
theorem gIn {ws : List Cond} (h : ∀ w ∈ ws, w ∈ lg) : GoodIn (wsOf M) ws := fun w hw => ⟨List.mem_cons_of_mem _ (h w hw), good_of_word (List.mem_filter.mp (h w hw)).2⟩
theorem call_go {d1 : Nat} {la : Array Slot} {H : Heap} {locs : List Loc} {st0 : List Value} {rest : List TV} {a : Array Value}
    (hr : va_Run p l e (rmD d1) s m args below meth c H locs 0 0 0 0 (F0 m pc la st0) (rest.map (cv adr)) (Qr D lay adr cA (Aset lay adr H.size) rk P a) (Aset lay adr H.size)) (hS : va_S (Aset lay adr s.heap.size) s.heap H locs)
    (kk : ∀ (H1 : Heap) (locs1 : List Loc) (v : Option TV) (μ1 : Mem), rkV rk v → P v μ1 → va_P D classes (wld lay adr cA μ1) H1 → va_S (Aset lay adr s.heap.size) s.heap H1 locs1 → W p l e (rmD d1) s m args below meth c H1 locs1 0 0 Q (F0 m (pc + 3) la ((v.toList ++ rest).map (cv adr)))) : W p l e (rmD d1) s m args below meth c H locs 0 0 Q (F0 m pc la st0) := by
  have hA : ∀ q, Aset lay adr H.size q → Aset lay adr s.heap.size q := fun q h => by
    rcases h with h | h
    · exact Or.inl h
    · exact Or.inr (Nat.le_trans hS.1 h)
  rcases rk with _ | _ | rk
  · exact va_callv (a := a) hr hS (fun q _ h => hA q h) hA (fun u t H1 locs1 ht hvm hw hB hz hk hS1 => kk H1 locs1 none u rfl hw (by rw [← ht]; exact hB) hS1)
  · exact va_calli (a := a) hr hS (fun q _ h => hA q h) hA (fun y u t H1 locs1 ht hvm hw hB hz hk hS1 => kk H1 locs1 (some (vi y)) u ⟨y, rfl⟩ hw (by rw [← ht]; exact hB) hS1)
  · exact va_calll (a := a) hr hS (fun q _ h => hA q h) hA (fun y u t H1 locs1 ht hvm hw hB hz hk hS1 => kk H1 locs1 (some (vl y)) u ⟨y, rfl⟩ hw (by rw [← ht]; exact hB) hS1)
theorem cal_at {M' n rk idx pl p1 p4 : Nat} (h : calOk M M' n rk idx pl p1 p4 = true) : rk = rkOf (mRt M') ∧ Cond.methodLink (mNm M).cls idx (mNm M') ∈ lg ∧ Cond.code (mNm M') (mBy M') (mMx M') (mRt M') ∈ lg ∧ Cond.initialized (mNm M').cls ∈ lg ∧ ((mNm M').cls ≠ "java/lang/invoke/MethodHandle" ∧ (mNm M').cls ≠ "java/lang/invoke/VarHandle" ∧ (parseMethodDescriptor (mNm M').desc).map (fun d => d.parameters.length) = some n) ∧ mMx M' ≤ 40 := by
  simp only [calOk, Bool.and_eq_true] at h
  obtain ⟨⟨h0, h1⟩, h2, h3, h4, h5⟩ := h
  exact ⟨by simpa using h0, wAt_in h1 rfl, wAt_in h2 rfl, wAt_in h3 rfl, of_decide_eq_true h4, Nat.le_of_ble_eq_true h5⟩
theorem ws_in {M' : Nat} (h : Cond.code (mNm M') (mBy M') (mMx M') (mRt M') ∈ lg) : ∀ w ∈ wsOf M', w ∈ lg := fun w hw => by
  rcases List.mem_cons.mp hw with e | e
  · rw [e]; exact h
  · exact e
theorem stk_cut (n : Nat) : st.map (cv adr) = (((st.take n).reverse).map (cv adr)).reverse ++ (st.drop n).map (cv adr) := by
  rw [List.map_reverse, List.reverse_reverse, ← List.map_append, List.take_append_drop]
theorem cat_sum {st : List TV} (h : Nat.ble ((st.map tcat).sum) 8 = true) {la : Array Slot} {rest : List Value} : 2 * (F0 m pc la rest).monitorRoom + ((st.map (cv adr)).map fun v => v.category).sum ≤ 8 := by
  refine lv_room ?_
  have e1 : (st.map (cv adr)).map (fun v => v.category) = st.map tcat := by
    rw [List.map_map]
    exact List.map_congr_left (fun v _ => cv_cat adr v)
  rw [e1]
  exact Nat.le_of_ble_eq_true h
theorem pre_blind {av : List Value} {sz : Nat} : FrameBlind (va_Pc av (fun U => U.heap.size = sz ∧ va_P D classes (wld lay adr cA μ) U.heap ∧ va_K D classes (tysL lay cA) U)) := fun a U g mk q => by
  obtain ⟨q0, q1, qP, qK⟩ := q
  exact ⟨q0, q1, qP, va_K.moved (u := U) (U := U.calling g mk a) (Vm.Alike.refl U.vm) qK⟩
theorem room_ok {M' : Nat} (h : mMx M' ≤ 40) : (rmD d).frames + 1 ≤ (rmD (d + 1)).frames ∧ 8 + (mMx M' + 11) + (rmD d).locals ≤ (rmD (d + 1)).locals := by
  simp only [rmD]
  omega
theorem s_call_use {C : CT} {M' n rk : Nat} (h : s_call C M' n rk pc ls st μ K) : n ≤ st.length ∧ Nat.ble (((st.drop n).map tcat).sum) 8 = true ∧ ∃ P : PT, C M' (st.take n).reverse μ P ∧ ∀ (v : Option TV) (μ1 : Mem), rkV rk v → P v μ1 → K (pc + 3) ls (v.toList ++ st.drop n) μ1 ∧ ∀ w ∈ v.toList, kOK lay w := by
  unfold s_call at h
  split at h
  · exact h.elim
  · next hb =>
    simp only [Bool.and_eq_true] at hb
    refine ⟨Nat.le_of_ble_eq_true hb.1, hb.2, ?_⟩
    rcases rk with _ | _ | rk
    · obtain ⟨P, h1, h2⟩ := h
      refine ⟨P, h1, fun v μ1 hv hp => ?_⟩
      have hv : v = none := hv
      subst hv
      exact ⟨h2 μ1 hp, fun w hw => by cases hw⟩
    · obtain ⟨P, h1, h2⟩ := h
      refine ⟨P, h1, fun v μ1 hv hp => ?_⟩
      obtain ⟨x, rfl⟩ : ∃ x, v = some (vi x) := hv
      exact ⟨h2 x μ1 hp, fun w hw => by simp at hw; subst hw; trivial⟩
    · obtain ⟨P, h1, h2⟩ := h
      refine ⟨P, h1, fun v μ1 hv hp => ?_⟩
      obtain ⟨x, rfl⟩ : ∃ x, v = some (vl x) := hv
      exact ⟨h2 x μ1 hp, fun w hw => by simp at hw; subst hw; trivial⟩
theorem ok_callS (X : Cx lay adr cA D M p s m args c) (hK : ∀ pc ls st μ, K pc ls st μ → WW lay adr cA D M d Q p l e s m args below meth c pc ls st μ) {a : Int} {idx M' n rk x0 pl p1 p2 p3 p4 : Nat} (hc : chkE M pc (35, a, [idx, M', n, rk, x0, pl, p1, p2, p3, p4]) = true) (h : s_call (CD lay d) M' n rk pc ls st μ K) : WW lay adr cA D M d Q p l e s m args below meth c pc ls st μ := by
  intro H locs la hP hS hL h1 h2
  obtain ⟨hn, hcat, P, hC, hk⟩ := s_call_use (lay := lay) h
  rcases d with _ | d
  · exact hC.elim
  simp only [chkE, Bool.and_eq_true] at hc
  obtain ⟨hd, hcal, hst⟩ := hc
  obtain ⟨w0, w1, w2, w3, w4, w5⟩ := cal_at hcal
  have hM := hC (fun v hv => h2 v (List.mem_of_mem_take (List.mem_reverse.mp hv))) l D adr cA H.size X.2.2.2.2.2.2.1
  rw [← w0] at hM
  have hT : GoodIn (wsOf M) (va_wsS (mNm M).cls idx (mNm M') (wsOf M')) := gIn (fun w hw => by
    rcases List.mem_append.mp hw with q | q
    · rcases List.mem_cons.mp q with e | q
      · rw [e]; exact w1
      rcases List.mem_cons.mp q with e | q
      · rw [e]; exact wAt_in hst rfl
      rcases List.mem_cons.mp q with e | q
      · rw [e]; exact w3
      cases q
    · exact ws_in w2 w q)
  refine call_go (va_runS (As := ((st.take n).reverse).map (cv adr)) (rest := (st.drop n).map (cv adr)) ⟨X.1, X.2.1, X.2.2.1, X.2.2.2.1, X.2.2.2.2.1⟩ hM (va_cwS n X.2.2.2.2.1 hT rfl rfl rfl w4 (room_ok w5)) ⟨pre_blind, fun U hU hW => ⟨rfl, by rw [hU], by rw [hU]; exact hP, va_K.moved hW.alike X.2.2.2.2.2.1⟩⟩ rfl (by simp; omega) hL.1.1 (stk_cut n) (cat_sum hcat) (dk_at hd) ⟨Nat.le_refl _, Nat.le_refl _⟩) hS (fun H1 locs1 v μ1 hv hp hP1 hS1 => ?_)
  obtain ⟨hk1, hkr⟩ := hk v μ1 hv hp
  exact hK _ _ _ _ hk1 H1 locs1 la hP1 hS1 hL h1 (fun v hv => by
    rcases List.mem_append.mp hv with q | q
    · exact hkr v q
    · exact h2 v (List.mem_of_mem_drop q))
theorem ok_callV (X : Cx lay adr cA D M p s m args c) (hK : ∀ pc ls st μ, K pc ls st μ → WW lay adr cA D M d Q p l e s m args below meth c pc ls st μ) {a : Int} {idx M' n rk ci pl p1 p2 p3 p4 : Nat} (hc : chkE M pc (34, a, [idx, M', n, rk, ci, pl, p1, p2, p3, p4]) = true) (h : s_callV (CD lay d) M' n rk ci pc ls st μ K) : WW lay adr cA D M d Q p l e s m args below meth c pc ls st μ := by
  intro H locs la hP hS hL h1 h2
  unfold s_callV at h
  split at h
  · next τ id hx =>
    split at h
    · next hτ =>
      have hτ : τ = ci + 10 := by simpa using hτ
      subst hτ
      obtain ⟨hn, hcat, P, hC, hk⟩ := s_call_use (lay := lay) h
      rcases d with _ | d
      · exact hC.elim
      simp only [chkE, Bool.and_eq_true, decide_eq_true_eq] at hc
      obtain ⟨hd, hcal, hst, hsl, hcn, hci⟩ := hc
      obtain ⟨w0, w1, w2, w3, w4, w5⟩ := cal_at hcal
      have hM := hC (fun v hv => h2 v (List.mem_of_mem_take (List.mem_reverse.mp hv))) l D adr cA H.size X.2.2.2.2.2.2.1
      rw [← w0] at hM
      have hkd : knd lay id = ci + 10 := k_rf (h2 _ (List.mem_of_getElem? hx)) (by omega)
      have htk : (st.take (n + 1)).reverse = rf (ci + 10) id :: (st.take n).reverse := by
        rw [List.take_succ, hx]
        simp
      have hT : GoodIn (wsOf M) (wsV (mNm M).cls idx (mNm M').cls (mNm M') (wsOf M')) := gIn (fun w hw => by
        rcases List.mem_append.mp hw with q | q
        · rcases List.mem_cons.mp q with e | q
          · rw [e]; exact w1
          rcases List.mem_cons.mp q with e | q
          · rw [e]; exact wAt_in hst rfl
          rcases List.mem_cons.mp q with e | q
          · rw [e]; exact wAt_in hsl rfl
          rcases List.mem_cons.mp q with e | q
          · rw [e]; exact w3
          cases q
        · exact ws_in w2 w q)
      obtain ⟨q, hq⟩ : ∃ q : vw_C, classes[ci]? = some q := ⟨classes[ci], List.getElem?_eq_getElem hci⟩
      have hqn : q.1 = (mNm M').cls := by
        rw [← hcn]
        unfold clsNm
        rw [List.getD, hq]
        rfl
      have he : (wld lay adr cA μ)[id]? = some (adr id, .inr (ci, (List.range (nfl ci)).map (fval adr μ id ci))) := by
        rw [wld_get hkd (by omega), cellE_obj hci]
      have hrv := va_recv X.2.2.2.2.2.1 hP hq he
      rw [hqn] at hrv
      refine call_go (va_runV (C := (mNm M').cls) (b := adr id) (As := ((st.take n).reverse).map (cv adr)) (rest := (st.drop (n + 1)).map (cv adr)) ⟨X.1, X.2.1, X.2.2.1, X.2.2.2.1, X.2.2.2.2.1⟩ hM (cwV n X.2.2.2.2.1 hT rfl rfl rfl ⟨rfl, w4⟩ (room_ok w5)) ⟨pre_blind, hrv, fun U hU hW => ⟨by rw [htk]; rfl, by rw [hU], by rw [hU]; exact hP, va_K.moved hW.alike X.2.2.2.2.2.1⟩⟩ rfl (by simp; omega) hL.1.1 ?_ (cat_sum hcat) (dk_at hd) ⟨Nat.le_refl _, Nat.le_refl _⟩) hS (fun H1 locs1 v μ1 hv hp hP1 hS1 => ?_)
      · show st.map (cv adr) = _
        rw [stk_cut (st := st) (n + 1), htk]
        simp [cv]
      · obtain ⟨hk1, hkr⟩ := hk v μ1 hv hp
        exact hK _ _ _ _ hk1 H1 locs1 la hP1 hS1 hL h1 (fun v hv => by
          rcases List.mem_append.mp hv with q | q
          · exact hkr v q
          · exact h2 v (List.mem_of_mem_drop q))
    · exact h.elim
  · exact h.elim
end SOUND3
