/-! the small machine's steps are the machine's -/
def wsOf (M : Nat) : List Cond := Cond.code (mNm M) (mBy M) (mMx M) (mRt M) :: lg
def rmD (d : Nat) : Room := { frames := d + 1, cells := 0, slots := 0, locals := 60 * (d + 1) }
def Qr (D : va_G) (lay : List Nat) (adr : Nat → Nat) (cA : Nat → ClassId) (A : Nat → Prop) (rk : Nat) (P : PT) : Array Value → State → Outcome → State → Prop :=
  match rk with
  | 0 => va_Qv (fun u : Mem => P none u) (fun u t => va_P D classes (wld lay adr cA u) t.heap) A
  | 1 => va_Qi (fun y (u : Mem) => P (some (vi y)) u) (fun u t => va_P D classes (wld lay adr cA u) t.heap) A
  | _ => va_Ql (fun y (u : Mem) => P (some (vl y)) u) (fun u t => va_P D classes (wld lay adr cA u) t.heap) A
/-- method M, called with these values and this memory, returns, and P holds of its answer and the memory that it leaves -/
def Rn (lay : List Nat) (d M : Nat) (av : List TV) (μ : Mem) (P : PT) : Prop :=
  (∀ v ∈ av, kOK lay v) → ∀ (l : Launch) (D : va_G) (adr : Nat → Nat) (cA : Nat → ClassId) (sz : Nat), injA lay adr →
    Met l (mNm M) (wsOf M) (rmD d) (va_Pc (av.map (cv adr)) (fun U => U.heap.size = sz ∧ va_P D classes (wld lay adr cA μ) U.heap ∧ va_K D classes (tysL lay cA) U)) (Qr D lay adr cA (Aset lay adr sz) (rkOf (mRt M)) P) 0 0 (Aset lay adr sz)
def CD (lay : List Nat) : Nat → CT
  | 0 => fun _ _ _ _ => False
  | d + 1 => Rn lay d
section SOUND
variable {p : Program} {l : Launch} {e : Env} {s : State} {m : MethodId} {args : Array Value} {below : List Frame} {meth : Method} {c : Code} {Q : State → Prop}
def WW (lay : List Nat) (adr : Nat → Nat) (cA : Nat → ClassId) (D : va_G) (M d : Nat) (Q : State → Prop) (p : Program) (l : Launch) (e : Env) (s : State) (m : MethodId) (args : Array Value) (below : List Frame) (meth : Method) (c : Code) : KT := fun pc ls st μ =>
  ∀ (H : Heap) (locs : List Loc) (la : Array Slot), va_P D classes (wld lay adr cA μ) H → va_S (Aset lay adr s.heap.size) s.heap H locs → LH adr la (mMx M) ls → (∀ v ∈ ls, kOK lay v) → (∀ v ∈ st, kOK lay v) → W p l e (rmD d) s m args below meth c H locs 0 0 Q (F0 m pc la (st.map (cv adr)))
variable {lay : List Nat} {adr : Nat → Nat} {cA : Nat → ClassId} {D : va_G} {M d : Nat}
variable {K : KT} {pc : Nat} {ls st : List TV} {μ : Mem}
def Cx (lay : List Nat) (adr : Nat → Nat) (cA : Nat → ClassId) (D : va_G) (M : Nat) (p : Program) (s : State) (m : MethodId) (args : Array Value) (c : Code) : Prop :=
  p.tables.exec = Jvm.exec ∧ c.code = mBy M ∧ c.maxLocals = mMx M ∧ s.vm.findClass (mNm M).cls = some m.cls ∧ (∀ w ∈ wsOf M, w.before args s = true) ∧ va_K D classes (tysL lay cA) s ∧ injA lay adr ∧ wfB lay = true
theorem Cx.word (X : Cx lay adr cA D M p s m args c) {w : Cond} (h : w ∈ lg) : w.before args s = true := X.2.2.2.2.1 w (List.mem_cons_of_mem _ h)
theorem k_cons {v : TV} (hv : kOK lay v) (h : ∀ u ∈ st, kOK lay u) : ∀ u ∈ v :: st, kOK lay u := fun u hu => by
  rcases List.mem_cons.mp hu with e | e
  · rw [e]; exact hv
  · exact h u e
theorem k_tl {v : TV} (h : ∀ u ∈ v :: st, kOK lay u) : ∀ u ∈ st, kOK lay u := fun u hu => h u (List.mem_cons_of_mem _ hu)
theorem k_hd {v : TV} (h : ∀ u ∈ v :: st, kOK lay u) : kOK lay v := h v List.mem_cons_self
theorem k_rf {τ id : Nat} (h : kOK lay (rf τ id)) (h0 : τ ≠ 0) : knd lay id = τ := h.resolve_left h0
theorem ok_const (X : Cx lay adr cA D M p s m args c) (hK : ∀ pc ls st μ, K pc ls st μ → WW lay adr cA D M d Q p l e s m args below meth c pc ls st μ) {a : Int} {len v idx pl : Nat} (hc : chkE M pc (0, a, [len, v, idx, pl]) = true) (h : K (pc + len) ls (vi (cI a) :: st) μ) : WW lay adr cA D M d Q p l e s m args below meth c pc ls st μ := by
  intro H locs la hP hS hL h1 h2
  have hk := hK _ _ _ _ h H locs la hP hS hL h1 (k_cons trivial h2)
  rcases v with _ | _ | _ | _ | v
  · simp only [chkE, Bool.and_eq_true, beq_iff_eq] at hc
    obtain ⟨hd, rfl⟩ := hc
    exact lv_iconst X.1 X.2.1 (dk_at hd) (cI_eq a) hk
  · simp only [chkE, Bool.and_eq_true, beq_iff_eq, decide_eq_true_eq] at hc
    obtain ⟨hd, rfl, hv⟩ := hc
    exact lv_bipush X.1 X.2.1 (dk_at hd) hv hk
  · simp only [chkE, Bool.and_eq_true, beq_iff_eq, decide_eq_true_eq] at hc
    obtain ⟨hd, rfl, hv⟩ := hc
    exact lv_sipush X.1 X.2.1 (dk_at hd) hv hk
  · simp only [chkE, Bool.and_eq_true, beq_iff_eq] at hc
    obtain ⟨hd, rfl, hw⟩ := hc
    exact lv_ldc X.1 X.2.1 X.2.2.2.1 (X.word (wAt_in hw rfl)) (dk_at hd) hk
  · simp only [chkE, Bool.and_eq_true, beq_iff_eq] at hc
    obtain ⟨hd, rfl, hw⟩ := hc
    exact lv_ldcw X.1 X.2.1 X.2.2.2.1 (X.word (wAt_in hw rfl)) (dk_at hd) hk
theorem ok_lconst (X : Cx lay adr cA D M p s m args c) (hK : ∀ pc ls st μ, K pc ls st μ → WW lay adr cA D M d Q p l e s m args below meth c pc ls st μ) {a : Int} {len v idx pl : Nat} (hc : chkE M pc (1, a, [len, v, idx, pl]) = true) (h : K (pc + len) ls (vl (cL a) :: st) μ) : WW lay adr cA D M d Q p l e s m args below meth c pc ls st μ := by
  intro H locs la hP hS hL h1 h2
  have hk := hK _ _ _ _ h H locs la hP hS hL h1 (k_cons trivial h2)
  rcases v with _ | v
  · simp only [chkE, Bool.and_eq_true, beq_iff_eq, decide_eq_true_eq] at hc
    obtain ⟨hd, rfl, hv⟩ := hc
    exact lv_lconst X.1 X.2.1 (dk_at hd) hv hk
  · simp only [chkE, Bool.and_eq_true, beq_iff_eq] at hc
    obtain ⟨hd, rfl, hw⟩ := hc
    exact lv_ldc2 X.1 X.2.1 X.2.2.2.1 (X.word (wAt_in hw rfl)) (dk_at hd) hk
theorem fin4 {k : Nat} (h : Nat.ble k 3 = true) : ((Fin.ofNat 4 k : Fin 4) : Nat) = k := Nat.mod_eq_of_lt (Nat.lt_succ_of_le (Nat.le_of_ble_eq_true h))
theorem ok_iload (X : Cx lay adr cA D M p s m args c) (hK : ∀ pc ls st μ, K pc ls st μ → WW lay adr cA D M d Q p l e s m args below meth c pc ls st μ) {a : Int} {k v : Nat} (hc : chkE M pc (2, a, [k, v]) = true) (h : s_load wI pc k (ln12 v) ls st μ K) : WW lay adr cA D M d Q p l e s m args below meth c pc ls st μ := by
  intro H locs la hP hS hL h1 h2
  cases hx : ls[k]? with
  | none => simp [s_load, hx] at h
  | some w =>
    rcases w with x | x | x
    · simp only [s_load, hx, wI] at h
      have hk := hK _ _ _ _ h H locs la hP hS hL h1 (k_cons trivial h2)
      have hg := hL.get hx rfl
      rcases v with _ | v
      · simp only [chkE, Bool.and_eq_true] at hc
        exact lv_iload_n X.1 X.2.1 (dk_at hc.1) (fin4 hc.2) hg hk
      · simp only [chkE] at hc
        exact lv_iload X.1 X.2.1 (dk_at hc) hg hk
    · simp [s_load, hx, wI] at h
    · simp [s_load, hx, wI] at h
theorem ok_lload (X : Cx lay adr cA D M p s m args c) (hK : ∀ pc ls st μ, K pc ls st μ → WW lay adr cA D M d Q p l e s m args below meth c pc ls st μ) {a : Int} {k v : Nat} (hc : chkE M pc (3, a, [k, v]) = true) (h : s_load isL pc k (ln12 v) ls st μ K) : WW lay adr cA D M d Q p l e s m args below meth c pc ls st μ := by
  intro H locs la hP hS hL h1 h2
  cases hx : ls[k]? with
  | none => simp [s_load, hx] at h
  | some w =>
    rcases w with x | x | x
    · simp [s_load, hx, isL] at h
    · simp only [s_load, hx, isL] at h
      have hk := hK _ _ _ _ h H locs la hP hS hL h1 (k_cons trivial h2)
      have hg := hL.get hx rfl
      rcases v with _ | v
      · simp only [chkE, Bool.and_eq_true] at hc
        exact lv_lload_n X.1 X.2.1 (dk_at hc.1) (fin4 hc.2) hg hk
      · simp only [chkE] at hc
        exact lv_lload X.1 X.2.1 (dk_at hc) hg hk
    · simp [s_load, hx, isL] at h
theorem ok_aload (X : Cx lay adr cA D M p s m args c) (hK : ∀ pc ls st μ, K pc ls st μ → WW lay adr cA D M d Q p l e s m args below meth c pc ls st μ) {a : Int} {k v : Nat} (hc : chkE M pc (4, a, [k, v]) = true) (h : s_load wA pc k (ln12 v) ls st μ K) : WW lay adr cA D M d Q p l e s m args below meth c pc ls st μ := by
  intro H locs la hP hS hL h1 h2
  cases hx : ls[k]? with
  | none => simp [s_load, hx] at h
  | some w =>
    rcases w with x | x | ⟨_ | τ, id⟩
    · simp [s_load, hx, wA] at h
    · simp [s_load, hx, wA] at h
    · simp [s_load, hx, wA] at h
    · simp only [s_load, hx, wA] at h
      have hk := hK _ _ _ _ h H locs la hP hS hL h1 (k_cons (h1 _ (List.mem_of_getElem? hx)) h2)
      have hg := hL.get hx rfl
      rcases v with _ | v
      · simp only [chkE, Bool.and_eq_true] at hc
        exact lv_aload_n X.1 X.2.1 (dk_at hc.1) (fin4 hc.2) hg hk
      · simp only [chkE] at hc
        exact lv_aload X.1 X.2.1 (dk_at hc) hg hk
theorem ok_istore (X : Cx lay adr cA D M p s m args c) (hK : ∀ pc ls st μ, K pc ls st μ → WW lay adr cA D M d Q p l e s m args below meth c pc ls st μ) {a : Int} {k v : Nat} (hc : chkE M pc (5, a, [k, v]) = true) (h : s_store wI pc k (ln12 v) ls st μ K) : WW lay adr cA D M d Q p l e s m args below meth c pc ls st μ := by
  intro H locs la hP hS hL h1 h2
  rcases st with _ | ⟨w, st⟩
  · simp [s_store] at h
  rcases w with x | x | x
  · simp only [s_store, wI] at h
    have hk := fun la' hL' => hK _ _ _ _ h H locs la' hP hS hL' (kOK_sto h1 trivial) (k_tl h2)
    rcases v with _ | v
    · simp only [chkE, Bool.and_eq_true] at hc
      exact lv_istore_n X.1 X.2.1 (dk_at hc.2.1) (fin4 hc.2.2) hL.1 (Nat.le_of_ble_eq_true hc.1) rfl (fun la' h' => hk la' (hL.set h'))
    · simp only [chkE, Bool.and_eq_true] at hc
      exact lv_istore X.1 X.2.1 (dk_at hc.2) hL.1 (Nat.le_of_ble_eq_true hc.1) rfl (fun la' h' => hk la' (hL.set h'))
  · simp [s_store, wI] at h
  · simp [s_store, wI] at h
theorem ok_astore (X : Cx lay adr cA D M p s m args c) (hK : ∀ pc ls st μ, K pc ls st μ → WW lay adr cA D M d Q p l e s m args below meth c pc ls st μ) {a : Int} {k v : Nat} (hc : chkE M pc (7, a, [k, v]) = true) (h : s_store wA pc k (ln12 v) ls st μ K) : WW lay adr cA D M d Q p l e s m args below meth c pc ls st μ := by
  intro H locs la hP hS hL h1 h2
  rcases st with _ | ⟨w, st⟩
  · simp [s_store] at h
  rcases w with x | x | ⟨_ | τ, id⟩
  · simp [s_store, wA] at h
  · simp [s_store, wA] at h
  · simp [s_store, wA] at h
  · simp only [s_store, wA] at h
    have hk := fun la' hL' => hK _ _ _ _ h H locs la' hP hS hL' (kOK_sto h1 (k_hd h2)) (k_tl h2)
    rcases v with _ | v
    · simp only [chkE, Bool.and_eq_true] at hc
      exact lv_astore_n X.1 X.2.1 (dk_at hc.2.1) (fin4 hc.2.2) hL.1 (Nat.le_of_ble_eq_true hc.1) rfl (fun la' h' => hk la' (hL.set (v := .inr (.inr (τ + 1, id))) h'))
    · simp only [chkE, Bool.and_eq_true] at hc
      exact lv_astore X.1 X.2.1 (dk_at hc.2) hL.1 (Nat.le_of_ble_eq_true hc.1) rfl (fun la' h' => hk la' (hL.set (v := .inr (.inr (τ + 1, id))) h'))
theorem ok_lstore (X : Cx lay adr cA D M p s m args c) (hK : ∀ pc ls st μ, K pc ls st μ → WW lay adr cA D M d Q p l e s m args below meth c pc ls st μ) {a : Int} {k v : Nat} (hc : chkE M pc (6, a, [k, v]) = true) (h : s_lstore pc k (ln12 v) ls st μ K) : WW lay adr cA D M d Q p l e s m args below meth c pc ls st μ := by
  intro H locs la hP hS hL h1 h2
  rcases st with _ | ⟨w, st⟩
  · simp [s_lstore] at h
  rcases w with x | x | x
  · simp [s_lstore] at h
  · simp only [s_lstore] at h
    have hk := fun la' hL' => hK _ _ _ _ h H locs la' hP hS hL' (fun u hu => by
      rcases List.mem_or_eq_of_mem_set hu with q | q
      · exact kOK_sto h1 (v := vl x) trivial u q
      · rw [q]; exact kOK_un lay) (k_tl h2)
    rcases v with _ | v
    · simp only [chkE, Bool.and_eq_true] at hc
      exact lv_lstore_n X.1 X.2.1 (dk_at hc.2.1) (fin4 hc.2.2) hL.1 (Nat.le_of_ble_eq_true hc.1) rfl (fun la' h' => hk la' (hL.setL h'))
    · simp only [chkE, Bool.and_eq_true] at hc
      exact lv_lstore X.1 X.2.1 (dk_at hc.2) hL.1 (Nat.le_of_ble_eq_true hc.1) rfl (fun la' h' => hk la' (hL.setL h'))
  · simp [s_lstore] at h
theorem ok_iinc (X : Cx lay adr cA D M p s m args c) (hK : ∀ pc ls st μ, K pc ls st μ → WW lay adr cA D M d Q p l e s m args below meth c pc ls st μ) {a : Int} {k : Nat} (hc : chkE M pc (8, a, [k]) = true) (h : s_iinc a pc k ls st μ K) : WW lay adr cA D M d Q p l e s m args below meth c pc ls st μ := by
  intro H locs la hP hS hL h1 h2
  cases hx : ls[k]? with
  | none => simp [s_iinc, hx] at h
  | some w =>
    rcases w with x | x | x
    · simp only [s_iinc, hx] at h
      have hk := fun la' hL' => hK _ _ _ _ h H locs la' hP hS hL' (kOK_sto h1 trivial) h2
      simp only [chkE, Bool.and_eq_true] at hc
      obtain ⟨q, hq⟩ := List.getElem?_of_mem (prs_mem (adr := adr) (q := (k, .int x)) (ls := ls) (i := 0) |>.mpr ⟨k, vi x, hx, rfl, by simp [cv]⟩)
      exact lv_iinc X.1 X.2.1 (dk_at hc.2) hL.1 hq (by rw [cI_eq]) (Nat.le_of_ble_eq_true hc.1) rfl (fun la' h' => hk la' (hL.set h'))
    · simp [s_iinc, hx] at h
    · simp [s_iinc, hx] at h
theorem ok_ibin (X : Cx lay adr cA D M p s m args c) (hK : ∀ pc ls st μ, K pc ls st μ → WW lay adr cA D M d Q p l e s m args below meth c pc ls st μ) {a : Int} {b : Nat} (hc : chkE M pc (9, a, [b]) = true) (h : s_ibin b pc ls st μ K) : WW lay adr cA D M d Q p l e s m args below meth c pc ls st μ := by
  intro H locs la hP hS hL h1 h2
  unfold s_ibin at h
  split at h
  · next y x st =>
    have hk := hK _ _ _ _ h H locs la hP hS hL h1 (k_cons trivial (k_tl (k_tl h2)))
    have hd := dk_at hc
    rcases b with _ | _ | _ | _ | _ | _ | _ | _ | b
    · exact lv_iadd X.1 X.2.1 hd hk
    · exact lv_isub X.1 X.2.1 hd hk
    · exact lv_imul X.1 X.2.1 hd hk
    · exact lv_iand X.1 X.2.1 hd hk
    · exact lv_ior X.1 X.2.1 hd hk
    · exact lv_ixor X.1 X.2.1 hd hk
    · exact lv_ishl X.1 X.2.1 hd hk
    · exact lv_ishr X.1 X.2.1 hd hk
    · exact lv_iushr X.1 X.2.1 hd rfl hk
  · exact h.elim
theorem ok_idr (X : Cx lay adr cA D M p s m args c) (hK : ∀ pc ls st μ, K pc ls st μ → WW lay adr cA D M d Q p l e s m args below meth c pc ls st μ) {a : Int} {b : Nat} (hc : chkE M pc (10, a, [b]) = true) (h : s_idr b pc ls st μ K) : WW lay adr cA D M d Q p l e s m args below meth c pc ls st μ := by
  intro H locs la hP hS hL h1 h2
  unfold s_idr at h
  split at h
  · next y x st =>
    obtain ⟨h0, h⟩ := h
    have hk := hK _ _ _ _ h H locs la hP hS hL h1 (k_cons trivial (k_tl (k_tl h2)))
    have hd := dk_at hc
    rcases b with _ | b
    · exact lv_idiv X.1 X.2.1 hd h0 hk
    · exact lv_irem X.1 X.2.1 hd h0 hk
  · exact h.elim
theorem ok_lbin (X : Cx lay adr cA D M p s m args c) (hK : ∀ pc ls st μ, K pc ls st μ → WW lay adr cA D M d Q p l e s m args below meth c pc ls st μ) {a : Int} {b : Nat} (hc : chkE M pc (11, a, [b]) = true) (h : s_lbin b pc ls st μ K) : WW lay adr cA D M d Q p l e s m args below meth c pc ls st μ := by
  intro H locs la hP hS hL h1 h2
  unfold s_lbin at h
  split at h
  · next y x st =>
    have hk := hK _ _ _ _ h H locs la hP hS hL h1 (k_cons trivial (k_tl (k_tl h2)))
    have hd := dk_at hc
    rcases b with _ | _ | b
    · exact lv_ladd X.1 X.2.1 hd hk
    · exact lv_lsub X.1 X.2.1 hd hk
    · exact lv_lmul X.1 X.2.1 hd hk
  · exact h.elim
theorem ok_ldr (X : Cx lay adr cA D M p s m args c) (hK : ∀ pc ls st μ, K pc ls st μ → WW lay adr cA D M d Q p l e s m args below meth c pc ls st μ) {a : Int} {b : Nat} (hc : chkE M pc (12, a, [b]) = true) (h : s_ldr b pc ls st μ K) : WW lay adr cA D M d Q p l e s m args below meth c pc ls st μ := by
  intro H locs la hP hS hL h1 h2
  unfold s_ldr at h
  split at h
  · next y x st =>
    obtain ⟨h0, h⟩ := h
    have hk := hK _ _ _ _ h H locs la hP hS hL h1 (k_cons trivial (k_tl (k_tl h2)))
    have hd := dk_at hc
    rcases b with _ | b
    · exact lv_ldiv X.1 X.2.1 hd h0 hk
    · exact lv_lrem X.1 X.2.1 hd h0 hk
  · exact h.elim
theorem ok_i2l (X : Cx lay adr cA D M p s m args c) (hK : ∀ pc ls st μ, K pc ls st μ → WW lay adr cA D M d Q p l e s m args below meth c pc ls st μ) {a : Int} {bs : List Nat} (hc : chkE M pc (13, a, bs) = true) (h : s_i2l pc ls st μ K) : WW lay adr cA D M d Q p l e s m args below meth c pc ls st μ := by
  intro H locs la hP hS hL h1 h2
  unfold s_i2l at h
  split at h
  · exact lv_i2l X.1 X.2.1 (dk_at hc) rfl (hK _ _ _ _ h H locs la hP hS hL h1 (k_cons trivial (k_tl h2)))
  · exact h.elim
theorem ok_l2i (X : Cx lay adr cA D M p s m args c) (hK : ∀ pc ls st μ, K pc ls st μ → WW lay adr cA D M d Q p l e s m args below meth c pc ls st μ) {a : Int} {bs : List Nat} (hc : chkE M pc (14, a, bs) = true) (h : s_l2i pc ls st μ K) : WW lay adr cA D M d Q p l e s m args below meth c pc ls st μ := by
  intro H locs la hP hS hL h1 h2
  unfold s_l2i at h
  split at h
  · exact lv_l2i X.1 X.2.1 (dk_at hc) rfl (hK _ _ _ _ h H locs la hP hS hL h1 (k_cons trivial (k_tl h2)))
  · exact h.elim
theorem ok_lcmp (X : Cx lay adr cA D M p s m args c) (hK : ∀ pc ls st μ, K pc ls st μ → WW lay adr cA D M d Q p l e s m args below meth c pc ls st μ) {a : Int} {bs : List Nat} (hc : chkE M pc (15, a, bs) = true) (h : s_lcmp pc ls st μ K) : WW lay adr cA D M d Q p l e s m args below meth c pc ls st μ := by
  intro H locs la hP hS hL h1 h2
  unfold s_lcmp at h
  split at h
  · exact W.lcmp X.1 X.2.1 (dk_at hc) (hK _ _ _ _ h H locs la hP hS hL h1 (k_cons trivial (k_tl (k_tl h2))))
  · exact h.elim
theorem cat1 {v : TV} (h : isL v = false) : (cv adr v).category = 1 := by
  rcases v with x | x | x
  · rfl
  · simp [isL] at h
  · rfl
theorem ok_dup (X : Cx lay adr cA D M p s m args c) (hK : ∀ pc ls st μ, K pc ls st μ → WW lay adr cA D M d Q p l e s m args below meth c pc ls st μ) {a : Int} {bs : List Nat} (hc : chkE M pc (16, a, bs) = true) (h : s_dup pc ls st μ K) : WW lay adr cA D M d Q p l e s m args below meth c pc ls st μ := by
  intro H locs la hP hS hL h1 h2
  unfold s_dup at h
  split at h
  · split at h
    · exact h.elim
    · next hv => exact lv_dup X.1 X.2.1 (dk_at hc) (cat1 hv) (hK _ _ _ _ h H locs la hP hS hL h1 (k_cons (k_hd h2) h2))
  · exact h.elim
theorem ok_dup2 (X : Cx lay adr cA D M p s m args c) (hK : ∀ pc ls st μ, K pc ls st μ → WW lay adr cA D M d Q p l e s m args below meth c pc ls st μ) {a : Int} {bs : List Nat} (hc : chkE M pc (17, a, bs) = true) (h : s_dup2 pc ls st μ K) : WW lay adr cA D M d Q p l e s m args below meth c pc ls st μ := by
  intro H locs la hP hS hL h1 h2
  unfold s_dup2 at h
  split at h
  · split at h
    · exact h.elim
    · next hv =>
      simp only [Bool.or_eq_false_iff] at hv
      exact lv_dup2_11 X.1 X.2.1 (dk_at hc) (cat1 hv.1) (cat1 hv.2) (hK _ _ _ _ h H locs la hP hS hL h1 (k_cons (k_hd h2) (k_cons (k_hd (k_tl h2)) h2)))
  · exact h.elim
theorem ok_pop (X : Cx lay adr cA D M p s m args c) (hK : ∀ pc ls st μ, K pc ls st μ → WW lay adr cA D M d Q p l e s m args below meth c pc ls st μ) {a : Int} {bs : List Nat} (hc : chkE M pc (18, a, bs) = true) (h : s_pop pc ls st μ K) : WW lay adr cA D M d Q p l e s m args below meth c pc ls st μ := by
  intro H locs la hP hS hL h1 h2
  unfold s_pop at h
  split at h
  · split at h
    · exact h.elim
    · next hv => exact lv_pop X.1 X.2.1 (dk_at hc) (cat1 hv) (hK _ _ _ _ h H locs la hP hS hL h1 (k_tl h2))
  · exact h.elim
theorem tgt_ok (pc t : Nat) : (pc : Int) + ((t : Int) - pc) = (t : Int) := by omega
theorem ok_goto (X : Cx lay adr cA D M p s m args c) (hK : ∀ pc ls st μ, K pc ls st μ → WW lay adr cA D M d Q p l e s m args below meth c pc ls st μ) {a : Int} {t : Nat} (hc : chkE M pc (19, a, [t]) = true) (h : K t ls st μ) : WW lay adr cA D M d Q p l e s m args below meth c pc ls st μ := by
  intro H locs la hP hS hL h1 h2
  exact lv_goto X.1 X.2.1 (dk_at hc) (tgt_ok pc t) (hK _ _ _ _ h H locs la hP hS hL h1 h2)
theorem ok_if (X : Cx lay adr cA D M p s m args c) (hK : ∀ pc ls st μ, K pc ls st μ → WW lay adr cA D M d Q p l e s m args below meth c pc ls st μ) {a : Int} {cc t : Nat} (hc : chkE M pc (20, a, [cc, t]) = true) (h : s_if cc t pc ls st μ K) : WW lay adr cA D M d Q p l e s m args below meth c pc ls st μ := by
  intro H locs la hP hS hL h1 h2
  unfold s_if at h
  split at h
  · next x st =>
    have hd := dk_at hc
    have k1 := fun h => hK t ls st μ h H locs la hP hS hL h1 (k_tl h2)
    have k2 := fun h => hK (pc + 3) ls st μ h H locs la hP hS hL h1 (k_tl h2)
    rcases cc with _ | _ | _ | _ | _ | _ | cc
    · exact lv_if_eq X.1 X.2.1 hd (tgt_ok pc t) (fun q => k1 (h.1 q)) (fun q => k2 (h.2 q))
    · exact lv_if_ne X.1 X.2.1 hd (tgt_ok pc t) (fun q => k1 (h.1 q)) (fun q => k2 (h.2 q))
    · exact lv_if_lt X.1 X.2.1 hd (tgt_ok pc t) (fun q => k1 (h.1 q)) (fun q => k2 (h.2 q))
    · exact lv_if_ge X.1 X.2.1 hd (tgt_ok pc t) (fun q => k1 (h.1 q)) (fun q => k2 (h.2 q))
    · exact lv_if_gt X.1 X.2.1 hd (tgt_ok pc t) (fun q => k1 (h.1 q)) (fun q => k2 (h.2 q))
    · exact lv_if_le X.1 X.2.1 hd (tgt_ok pc t) (fun q => k1 (h.1 q)) (fun q => k2 (h.2 q))
    · exact h.elim
  · exact h.elim
theorem ok_icmp (X : Cx lay adr cA D M p s m args c) (hK : ∀ pc ls st μ, K pc ls st μ → WW lay adr cA D M d Q p l e s m args below meth c pc ls st μ) {a : Int} {cc t : Nat} (hc : chkE M pc (21, a, [cc, t]) = true) (h : s_icmp cc t pc ls st μ K) : WW lay adr cA D M d Q p l e s m args below meth c pc ls st μ := by
  intro H locs la hP hS hL h1 h2
  unfold s_icmp at h
  split at h
  · next y x st =>
    have hd := dk_at hc
    have k1 := fun h => hK t ls st μ h H locs la hP hS hL h1 (k_tl (k_tl h2))
    have k2 := fun h => hK (pc + 3) ls st μ h H locs la hP hS hL h1 (k_tl (k_tl h2))
    rcases cc with _ | _ | _ | _ | _ | _ | cc
    · exact lv_icmp_eq X.1 X.2.1 hd (tgt_ok pc t) (fun q => k1 (h.1 q)) (fun q => k2 (h.2 q))
    · exact lv_icmp_ne X.1 X.2.1 hd (tgt_ok pc t) (fun q => k1 (h.1 q)) (fun q => k2 (h.2 q))
    · exact lv_icmp_lt X.1 X.2.1 hd (tgt_ok pc t) (fun q => k1 (h.1 q)) (fun q => k2 (h.2 q))
    · exact lv_icmp_ge X.1 X.2.1 hd (tgt_ok pc t) (fun q => k1 (h.1 q)) (fun q => k2 (h.2 q))
    · exact lv_icmp_gt X.1 X.2.1 hd (tgt_ok pc t) (fun q => k1 (h.1 q)) (fun q => k2 (h.2 q))
    · exact lv_icmp_le X.1 X.2.1 hd (tgt_ok pc t) (fun q => k1 (h.1 q)) (fun q => k2 (h.2 q))
    · exact h.elim
  · exact h.elim
end SOUND
