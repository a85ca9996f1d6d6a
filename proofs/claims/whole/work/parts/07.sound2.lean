section SOUND2
variable {p : Program} {l : Launch} {e : Env} {s : State} {m : MethodId} {args : Array Value} {below : List Frame} {meth : Method} {c : Code} {Q : State → Prop}
variable {lay : List Nat} {adr : Nat → Nat} {cA : Nat → ClassId} {D : va_G} {M d : Nat}
variable {K : KT} {pc : Nat} {ls st : List TV} {μ : Mem}
theorem cI_toInt {a : Int} (h : 0 ≤ a) (h2 : a < 1000) : (cI a).toInt = a := by
  obtain ⟨n, rfl⟩ := Int.eq_ofNat_of_zero_le h
  exact nI_toInt (by omega)
theorem cI_iff {x : Int32} {a : Int} (h : 0 ≤ a) (h2 : a < 1000) : x = cI a ↔ x.toInt = a := by
  constructor
  · intro q; rw [q, cI_toInt h h2]
  · intro q; exact Int32.toInt_inj.mp (q.trans (cI_toInt h h2).symm)
theorem sw_in {x : Int32} {dflt : Prop} {Kt : Nat → Prop} : ∀ (ts : List Nat) (lo : Int), 0 ≤ lo → lo + (ts.length : Int) < 1000 → s_sw x dflt Kt lo ts → ∀ (j t : Nat), ts[j]? = some t → x.toInt = lo + (j : Int) → Kt t
  | [], lo, _, _, _, j, t, hj, _ => by simp at hj
  | u :: ts, lo, h0, h1, h, j, t, hj, hx => by
    have h1' : lo + ((ts.length : Int) + 1) < 1000 := by simpa using h1
    cases j with
    | zero =>
      simp at hj
      subst hj
      exact h.1 ((cI_iff h0 (by omega)).mpr (by simpa using hx))
    | succ j =>
      have hn : ¬ x = cI lo := fun q => by
        have := (cI_iff h0 (by omega)).mp q
        omega
      exact sw_in ts (lo + 1) (by omega) (by omega) (h.2 hn) j t (by simpa using hj) (by omega)
theorem sw_out {x : Int32} {dflt : Prop} {Kt : Nat → Prop} : ∀ (ts : List Nat) (lo : Int), 0 ≤ lo → lo + (ts.length : Int) < 1000 → s_sw x dflt Kt lo ts → (x.toInt < lo ∨ lo + (ts.length : Int) ≤ x.toInt) → dflt
  | [], lo, _, _, h, _ => h
  | u :: ts, lo, h0, h1, h, hx => by
    have h1' : lo + ((ts.length : Int) + 1) < 1000 := by simpa using h1
    have hx' : x.toInt < lo ∨ lo + ((ts.length : Int) + 1) ≤ x.toInt := by simpa using hx
    have hn : ¬ x = cI lo := fun q => by
      have := (cI_iff h0 (by omega)).mp q
      omega
    exact sw_out ts (lo + 1) (by omega) (by omega) (h.2 hn) (by omega)
theorem ok_switch (X : Cx lay adr cA D M p s m args c) (hK : ∀ pc ls st μ, K pc ls st μ → WW lay adr cA D M d Q p l e s m args below meth c pc ls st μ) {lo : Int} {len dd : Nat} {ts : List Nat} (hc : chkE M pc (22, lo, len :: dd :: ts) = true) (h : s_switch lo dd ts ls st μ K) : WW lay adr cA D M d Q p l e s m args below meth c pc ls st μ := by
  intro H locs la hP hS hL h1 h2
  unfold s_switch at h
  split at h
  · next x st =>
    simp only [chkE, Bool.and_eq_true, decide_eq_true_eq] at hc
    obtain ⟨hd, h0, h9⟩ := hc
    by_cases hx : x.toInt < lo ∨ lo + (ts.length : Int) ≤ x.toInt
    · have hk := sw_out ts lo h0 h9 h hx
      exact lv_tableOut X.1 X.2.1 (dk_at hd) (by omega) (tgt_ok pc dd) (hK _ _ _ _ hk H locs la hP hS hL h1 (k_tl h2))
    · have hj : (x.toInt - lo).toNat < ts.length := by omega
      have ht : ts[(x.toInt - lo).toNat]? = some ts[(x.toInt - lo).toNat] := List.getElem?_eq_getElem hj
      have hk := sw_in ts lo h0 h9 h _ _ ht (by omega)
      exact lv_tableIn X.1 X.2.1 (dk_at hd) (by omega) (by omega) (by rw [List.getElem?_toArray, List.getElem?_map, ht]; rfl) (tgt_ok pc _) (hK _ _ _ _ hk H locs la hP hS hL h1 (k_tl h2))
  · exact h.elim
theorem rarr_obj {ci : Nat} (hc : ci < 7) : rarr (ci + 10) = none := by
  rcases (show ci = 0 ∨ ci = 1 ∨ ci = 2 ∨ ci = 3 ∨ ci = 4 ∨ ci = 5 ∨ ci = 6 by omega) with e | e | e | e | e | e | e <;> subst e <;> rfl
theorem cellE_obj {ci id : Nat} (hc : ci < 7) : cellE adr cA μ (ci + 10) id = .inr (ci, (List.range (nfl ci)).map (fval adr μ id ci)) := by
  unfold cellE
  rw [rarr_obj hc]
  simp only [show ci + 10 < 20 by omega, if_true, Nat.add_sub_cancel]
theorem fld_at {ci k pl idx : Nat} (h : fldOk M ci k pl idx = true) : ∃ q : vw_C, classes[ci]? = some q ∧ k < q.2.2 ∧ Cond.fieldLink (mNm M).cls idx (q.2.1 k).1 (q.2.1 k).2.1 (q.2.1 k).2.2.1 ∈ lg := by
  unfold fldOk at h
  split at h
  · next q hq =>
    simp only [Bool.and_eq_true, decide_eq_true_eq] at h
    exact ⟨q, hq, h.1, wAt_in h.2 rfl⟩
  · cases h
theorem fs_get {id ci k : Nat} (h : k < nfl ci) : ((List.range (nfl ci)).map (fval adr μ id ci))[k]? = some (fval adr μ id ci k) := by
  rw [List.getElem?_map, List.getElem?_range h]
  rfl
theorem ok_get (X : Cx lay adr cA D M p s m args c) (hK : ∀ pc ls st μ, K pc ls st μ → WW lay adr cA D M d Q p l e s m args below meth c pc ls st μ) {a : Int} {idx ci k pl : Nat} (hc : chkE M pc (23, a, [idx, ci, k, pl]) = true) (h : s_get ci k pc ls st μ K) : WW lay adr cA D M d Q p l e s m args below meth c pc ls st μ := by
  intro H locs la hP hS hL h1 h2
  simp only [chkE, Bool.and_eq_true] at hc
  obtain ⟨hd, hf⟩ := hc
  obtain ⟨q, hq, hk, hw⟩ := fld_at hf
  obtain ⟨c1, -, -, c4, c5⟩ := clsOK ci q hq
  unfold s_get at h
  split at h
  · next τ id st =>
    have row : ∀ v : TV, τ = ci + 10 → cv adr v = fval adr μ id ci k → kOK lay v → K (pc + 3) ls (v :: st) μ → W p l e (rmD d) s m args below meth c H locs 0 0 Q (F0 m pc la (List.map (cv adr) (Sum.inr (Sum.inr (τ, id)) :: st))) := by
      intro v e0 e1 e2 e3
      subst e0
      have hkd := k_rf (k_hd h2) (by omega)
      have he : (wld lay adr cA μ)[id]? = some (adr id, .inr (ci, (List.range (nfl ci)).map (fval adr μ id ci))) := by
        rw [wld_get hkd (by omega), cellE_obj c5]
      have hk2 := hK _ _ _ _ e3 H locs la hP hS hL h1 (k_cons e2 (k_tl h2))
      rw [List.map_cons, e1] at hk2
      exact va_get X.1 X.2.1 X.2.2.2.2.1 (fun w hw => List.mem_cons_of_mem _ (c1 w hw)) X.2.2.2.1 X.2.2.2.2.2.1 hP id he hq k hk (X.word hw) (fun _ h9 => h9) (fs_get (by omega)) (dk_at hd) hk2
    split at h
    · next e1 e2 => exact row (vi (μ.1 id k)) (by simpa using e1) (by unfold fval; rw [e2]; rfl) trivial h
    · next e1 e2 => exact row (vi (μ.1 id k)) (by simpa using e1) (by unfold fval; rw [e2]; rfl) trivial h
    · next t off e1 e2 =>
      have e0 : τ = ci + 10 := by simpa using e1
      refine row (rf (t + 2) (id + off)) e0 ?_ (Or.inr ?_) h
      · unfold fval
        rw [e2, if_neg (by simp)]
        rfl
      · subst e0
        exact wf_obj X.2.2.2.2.2.2.2 (k_rf (k_hd h2) (by omega)) c5 (by omega) e2
    · exact h.elim
  · exact h.elim
theorem put_cell {ci id k : Nat} {v : Int32} (hc : ci < 7) (hk : k < nfl ci) (hf : (fkt ci k).1 < 2) : (.inr (ci, ((List.range (nfl ci)).map (fval adr μ id ci)).set k (.int v)) : va_E) = cellE adr cA (upI μ id k v) (ci + 10) id := by
  rw [cellE_obj hc]
  congr 2
  refine List.ext_getElem? (fun j => ?_)
  by_cases hj : j = k
  · subst hj
    rw [List.getElem?_set_self (by simpa using hk), fs_get hk]
    unfold fval
    rw [if_pos hf, upI_self]
    simp [upd]
  · rw [List.getElem?_set_ne (Ne.symm hj), List.getElem?_map, List.getElem?_map]
    cases hr : (List.range (nfl ci))[j]? with
    | none => rfl
    | some i =>
      have hi : i = j := by
        have hjl : j < nfl ci := by
          have := (List.getElem?_eq_some_iff.mp hr).1
          simpa using this
        rw [List.getElem?_range hjl] at hr
        exact (Option.some.inj hr).symm
      subst hi
      simp only [Option.map_some]
      unfold fval
      rw [upI_self]
      simp [upd, hj]
theorem ok_put (X : Cx lay adr cA D M p s m args c) (hK : ∀ pc ls st μ, K pc ls st μ → WW lay adr cA D M d Q p l e s m args below meth c pc ls st μ) {a : Int} {idx ci k pl : Nat} (hc : chkE M pc (24, a, [idx, ci, k, pl]) = true) (h : s_put ci k pc ls st μ K) : WW lay adr cA D M d Q p l e s m args below meth c pc ls st μ := by
  intro H locs la hP hS hL h1 h2
  simp only [chkE, Bool.and_eq_true] at hc
  obtain ⟨hd, hf, hp⟩ := hc
  obtain ⟨q, hq, hk, hw⟩ := fld_at hf
  obtain ⟨c1, ⟨ty0, c2⟩, c3, c4, c5⟩ := clsOK ci q hq
  unfold putOk at hp
  rw [hq] at hp
  simp only [Bool.and_eq_true, decide_eq_true_eq] at hp
  obtain ⟨hfin, hty⟩ := hp
  unfold s_put at h
  split at h
  · next v τ id st =>
    have row : ∀ ty : FieldType, τ = ci + 10 → parseFieldDescriptor (q.2.1 k).2.2.1 = some ty → narrow ty (.int v) = .int v → fits ty (.int v) = true → (fkt ci k).1 < 2 → K (pc + 3) ls st (upI μ id k v) → W p l e (rmD d) s m args below meth c H locs 0 0 Q (F0 m pc la (List.map (cv adr) (Sum.inl v :: Sum.inr (Sum.inr (τ, id)) :: st))) := by
      intro ty e0 e1 e2 e3 e4 e5
      subst e0
      have hkd := k_rf (k_hd (k_tl h2)) (by omega)
      have he : (wld lay adr cA μ)[id]? = some (adr id, .inr (ci, (List.range (nfl ci)).map (fval adr μ id ci))) := by
        rw [wld_get hkd (by omega), cellE_obj c5]
      refine va_put X.1 X.2.1 X.2.2.2.2.1 (fun w hw => List.mem_cons_of_mem _ (c1 w hw)) ty0 c2 c3 X.2.2.2.1 X.2.2.2.2.2.1 hP (wld_D X.2.2.2.2.2.2.1) hS id he hq k hk (X.word hw) (fun _ h9 => h9) hfin e1 e2 e3 (by simp; omega) (dk_at hd) (fun H1 locs1 hP1 hD1 hS1 => ?_)
      have hw2 := wld_ext (lay := lay) (adr := adr) (cA := cA) (μ := μ) (μ1 := upI μ id k v) hkd (by omega) (put_cell (adr := adr) (cA := cA) (μ := μ) c5 (by omega) e4) (fun b hb t => cellE_cong (upI_ne hb) rfl t)
      have hP2 : va_P D classes (wld lay adr cA (upI μ id k v)) H1 := by rw [← hw2]; exact hP1
      exact hK _ _ _ _ e5 H1 locs1 la hP2 hS1 hL h1 (k_tl (k_tl h2))
    split at h
    · next e1 e2 =>
      rw [e2] at hty
      exact row .int (by simpa using e1) hty rfl rfl (by rw [e2]; simp) h
    · next e1 e2 =>
      rw [e2] at hty
      obtain ⟨hv, h⟩ := h
      refine row .boolean (by simpa using e1) hty ?_ ?_ (by rw [e2]; simp) h
      · rcases hv with e | e <;> subst e <;> decide
      · rcases hv with e | e <;> subst e <;> decide
    · exact h.elim
  · exact h.elim
theorem isIA_at {τ : Nat} (h : isIA τ = true) : 10000 ≤ τ ∧ τ < 20000 := by
  simp only [isIA, Bool.and_eq_true] at h
  have := Nat.le_of_ble_eq_true h.1
  have := Nat.le_of_ble_eq_true h.2
  omega
theorem rarr_big {τ : Nat} (h : 33 ≤ τ) : rarr τ = none := by
  cases hr : rarr τ with
  | none => rfl
  | some q =>
    exfalso
    unfold rarr at hr
    split at hr
    · omega
    · omega
    · omega
    · cases hr
theorem cellE_I {τ id : Nat} (h : 10000 ≤ τ ∧ τ < 20000) : cellE adr cA μ τ id = .inl (cA id, (τ - 10000, .inl (μ.1 id))) := by
  unfold cellE
  rw [rarr_big (by omega)]
  simp only [show ¬ τ < 20 by omega, if_false, h.2, if_true]
theorem cellE_L {τ id : Nat} (h : 20000 ≤ τ) : cellE adr cA μ τ id = .inl (cA id, (τ - 20000, .inr (.inl (μ.2 id)))) := by
  unfold cellE
  rw [rarr_big (by omega)]
  simp only [show ¬ τ < 20 by omega, if_false, show ¬ τ < 20000 by omega]
theorem aty_I {τ : Nat} (h : 10000 ≤ τ ∧ τ < 20000) : aty τ = .int := by
  unfold aty
  rw [if_neg (by omega), if_neg (by omega), if_pos h.2]
theorem aty_L {τ : Nat} (h : 20000 ≤ τ) : aty τ = .long := by
  unfold aty
  rw [if_neg (by omega), if_neg (by omega), if_neg (by omega)]
theorem ok_iald (X : Cx lay adr cA D M p s m args c) (hK : ∀ pc ls st μ, K pc ls st μ → WW lay adr cA D M d Q p l e s m args below meth c pc ls st μ) {a : Int} {bs : List Nat} (hc : chkE M pc (25, a, bs) = true) (h : s_iald pc ls st μ K) : WW lay adr cA D M d Q p l e s m args below meth c pc ls st μ := by
  intro H locs la hP hS hL h1 h2
  unfold s_iald at h
  split at h
  · next i τ id st =>
    split at h
    · next ht =>
      have hi := isIA_at ht
      have hkd := k_rf (k_hd (k_tl h2)) (by omega)
      obtain ⟨t0, ht0⟩ := tys_get (cA := cA) hkd (by omega)
      rw [aty_I hi] at ht0
      have he := wld_get (adr := adr) (cA := cA) (μ := μ) hkd (by omega)
      rw [cellE_I hi] at he
      exact va_iald X.1 X.2.1 X.2.2.2.2.2.1 hP id t0 he ht0 h.1 (dk_at hc) (hK _ _ _ _ h.2 H locs la hP hS hL h1 (k_cons trivial (k_tl (k_tl h2))))
    · exact h.elim
  · exact h.elim
theorem ok_iast (X : Cx lay adr cA D M p s m args c) (hK : ∀ pc ls st μ, K pc ls st μ → WW lay adr cA D M d Q p l e s m args below meth c pc ls st μ) {a : Int} {bs : List Nat} (hc : chkE M pc (26, a, bs) = true) (h : s_iast pc ls st μ K) : WW lay adr cA D M d Q p l e s m args below meth c pc ls st μ := by
  intro H locs la hP hS hL h1 h2
  unfold s_iast at h
  split at h
  · next v i τ id st =>
    split at h
    · next ht =>
      have hi := isIA_at ht
      have hkd := k_rf (k_hd (k_tl (k_tl h2))) (by omega)
      obtain ⟨t0, ht0⟩ := tys_get (cA := cA) hkd (by omega)
      rw [aty_I hi] at ht0
      have he := wld_get (adr := adr) (cA := cA) (μ := μ) hkd (by omega)
      rw [cellE_I hi] at he
      refine va_iast X.1 X.2.1 X.2.2.2.2.2.1 hP (wld_D X.2.2.2.2.2.2.1) hS id t0 he ht0 h.1 (dk_at hc) (fun H1 locs1 hP1 hD1 hS1 => ?_)
      rw [wld_ext hkd (by omega) (e := .inl (cA id, τ - 10000, .inl (upd (μ.1 id) i.toNatClampNeg v))) (μ1 := upI μ id i.toNatClampNeg v) (by rw [cellE_I hi, upI_self]) (fun b hb t => cellE_cong (upI_ne hb) rfl t)] at hP1
      exact hK _ _ _ _ h.2 H1 locs1 la hP1 hS1 hL h1 (k_tl (k_tl (k_tl h2)))
    · exact h.elim
  · exact h.elim
theorem ok_lald (X : Cx lay adr cA D M p s m args c) (hK : ∀ pc ls st μ, K pc ls st μ → WW lay adr cA D M d Q p l e s m args below meth c pc ls st μ) {a : Int} {bs : List Nat} (hc : chkE M pc (27, a, bs) = true) (h : s_lald pc ls st μ K) : WW lay adr cA D M d Q p l e s m args below meth c pc ls st μ := by
  intro H locs la hP hS hL h1 h2
  unfold s_lald at h
  split at h
  · next i τ id st =>
    split at h
    · next ht =>
      have hi : 20000 ≤ τ := Nat.le_of_ble_eq_true ht
      have hkd := k_rf (k_hd (k_tl h2)) (by omega)
      obtain ⟨t0, ht0⟩ := tys_get (cA := cA) hkd (by omega)
      rw [aty_L hi] at ht0
      have he := wld_get (adr := adr) (cA := cA) (μ := μ) hkd (by omega)
      rw [cellE_L hi] at he
      exact va_lald X.1 X.2.1 X.2.2.2.2.2.1 hP id t0 he ht0 h.1 (dk_at hc) (hK _ _ _ _ h.2 H locs la hP hS hL h1 (k_cons trivial (k_tl (k_tl h2))))
    · exact h.elim
  · exact h.elim
theorem ok_last (X : Cx lay adr cA D M p s m args c) (hK : ∀ pc ls st μ, K pc ls st μ → WW lay adr cA D M d Q p l e s m args below meth c pc ls st μ) {a : Int} {bs : List Nat} (hc : chkE M pc (28, a, bs) = true) (h : s_last pc ls st μ K) : WW lay adr cA D M d Q p l e s m args below meth c pc ls st μ := by
  intro H locs la hP hS hL h1 h2
  unfold s_last at h
  split at h
  · next v i τ id st =>
    split at h
    · next ht =>
      have hi : 20000 ≤ τ := Nat.le_of_ble_eq_true ht
      have hkd := k_rf (k_hd (k_tl (k_tl h2))) (by omega)
      obtain ⟨t0, ht0⟩ := tys_get (cA := cA) hkd (by omega)
      rw [aty_L hi] at ht0
      have he := wld_get (adr := adr) (cA := cA) (μ := μ) hkd (by omega)
      rw [cellE_L hi] at he
      refine va_last X.1 X.2.1 X.2.2.2.2.2.1 hP (wld_D X.2.2.2.2.2.2.1) hS id t0 he ht0 h.1 (dk_at hc) (fun H1 locs1 hP1 hD1 hS1 => ?_)
      have hw2 := wld_ext (lay := lay) (adr := adr) (cA := cA) (μ := μ) (e := .inl (cA id, τ - 20000, .inr (.inl (vp_updL (μ.2 id) i.toNatClampNeg v)))) (μ1 := upL μ id i.toNatClampNeg v) hkd (by omega) (by rw [cellE_L hi, upL_self]) (fun b hb t => cellE_cong (μ := μ) (μ1 := upL μ id i.toNatClampNeg v) rfl (upL_ne hb) t)
      have hP2 : va_P D classes (wld lay adr cA (upL μ id i.toNatClampNeg v)) H1 := by rw [← hw2]; exact hP1
      exact hK _ _ _ _ h.2 H1 locs1 la hP2 hS1 hL h1 (k_tl (k_tl (k_tl h2)))
    · exact h.elim
  · exact h.elim
theorem rarr_cases {τ n t g : Nat} (h : rarr τ = some (n, t, g)) : 30 ≤ τ ∧ τ < 33 := by
  unfold rarr at h
  split at h
  · omega
  · omega
  · omega
  · cases h
theorem aty_ref {τ : Nat} (h : 30 ≤ τ ∧ τ < 33) : (aty τ).isReference = true := by
  unfold aty
  split
  · rfl
  · rw [if_pos h.2]; rfl
theorem ok_aald (X : Cx lay adr cA D M p s m args c) (hK : ∀ pc ls st μ, K pc ls st μ → WW lay adr cA D M d Q p l e s m args below meth c pc ls st μ) {a : Int} {bs : List Nat} (hc : chkE M pc (29, a, bs) = true) (h : s_aald pc ls st μ K) : WW lay adr cA D M d Q p l e s m args below meth c pc ls st μ := by
  intro H locs la hP hS hL h1 h2
  unfold s_aald at h
  split at h
  · next i τ id st =>
    split at h
    · next n t g hr =>
      have hi := rarr_cases hr
      have hkd := k_rf (k_hd (k_tl h2)) (by omega)
      obtain ⟨t0, ht0⟩ := tys_get (cA := cA) hkd (by omega)
      have he := wld_get (adr := adr) (cA := cA) (μ := μ) hkd (by omega)
      unfold cellE at he
      rw [hr] at he
      obtain ⟨hin, h⟩ := h
      have hlt : i.toNatClampNeg < n := Nat.not_le.mp fun q => hin (Or.inr q)
      have hk2 := hK _ _ _ _ h H locs la hP hS hL h1 (k_cons (v := rf t (id + 1 + g * i.toNatClampNeg)) (Or.inr (wf_arr X.2.2.2.2.2.2.2 hkd (by omega) hr hlt)) (k_tl (k_tl h2)))
      refine W.aald (v := .ref (adr (id + 1 + g * i.toNatClampNeg))) (ty := aty τ) X.1 X.2.1 (hP id _ he) ((X.2.2.2.2.2.1.2 t0 _ ht0).1 n (fun j => va_rf (if j < n then some (adr (id + 1 + g * j)) else none))) (aty_ref hi) (fun q => by cases q) (by show ¬ (i < 0 ∨ (arrV _ _ _).slots.size ≤ _); rw [arrV_size]; exact hin) (by show (arrV _ _ _).slots[_]? = _; rw [arrV_read _ _ hlt]; simp [hlt, va_rf]) rfl rfl (dk_at hc) hk2
    · exact h.elim
  · exact h.elim
theorem ok_alen (X : Cx lay adr cA D M p s m args c) (hK : ∀ pc ls st μ, K pc ls st μ → WW lay adr cA D M d Q p l e s m args below meth c pc ls st μ) {a : Int} {bs : List Nat} (hc : chkE M pc (30, a, bs) = true) (h : s_alen pc ls st μ K) : WW lay adr cA D M d Q p l e s m args below meth c pc ls st μ := by
  intro H locs la hP hS hL h1 h2
  unfold s_alen at h
  split at h
  · next τ id st =>
    split at h
    · next ht =>
      have hi := isIA_at ht
      have hkd := k_rf (k_hd h2) (by omega)
      obtain ⟨t0, ht0⟩ := tys_get (cA := cA) hkd (by omega)
      have he := wld_get (adr := adr) (cA := cA) (μ := μ) hkd (by omega)
      rw [cellE_I hi] at he
      exact va_alen X.1 X.2.1 X.2.2.2.2.2.1 hP id t0 he ht0 rfl (dk_at hc) (hK _ _ _ _ h H locs la hP hS hL h1 (k_cons trivial (k_tl h2)))
    · exact h.elim
  · exact h.elim
end SOUND2
