/-! constructors: a world that grows, cell by cell -/
def AOk (U : State) : Prop := (Cond.arrayOver (.object "NestRanges$Text")).before #[] U = true ∧ (Cond.arrayOver (.array .int)).before #[] U = true
theorem AOk.moved {u U : State} (hvm : u.vm.Alike U.vm) (h : AOk u) : AOk U := ⟨va_AO.moved hvm h.1, ma_over_moved hvm h.2⟩
def BX (p : Program) (s : State) (m : MethodId) (args : Array Value) (meth : Method) (c : Code) (cc : ByteArray) (maxL : Nat) (own : String) (A : Nat → Prop) (ls : Array Slot) (h : Nat) : Prop :=
  p.tables.exec = Jvm.exec ∧ c.code = cc ∧ c.maxLocals = maxL ∧ s.vm.findClass own = some m.cls ∧ (∀ w ∈ lg, w.before args s = true) ∧ meth.name = "<init>" ∧ ls.size = maxL ∧ ls[0]? = some (.val (.ref h)) ∧ (∀ q, s.heap.size ≤ q → A q)
def BI (D : va_G) (A : Nat → Prop) (s : State) (ws : va_W) (tys : List (ClassId × FieldType)) (H : Heap) (locs : List Loc) : Prop := va_P D classes ws H ∧ va_D A ws ∧ va_K D classes tys s ∧ va_S A s.heap H locs
def GB (p : Program) (l : Launch) (e : Env) (R : Room) (s : State) (m : MethodId) (args : Array Value) (below : List Frame) (meth : Method) (c : Code) (Q : State → Prop) (D : va_G) (A : Nat → Prop) (ls : Array Slot) (pc : Nat) (st : List Value) (ws : va_W) (tys : List (ClassId × FieldType)) (cells slots : Nat) : Prop := ∀ H locs, BI D A s ws tys H locs → W p l e R s m args below meth c H locs cells slots Q (F0 m pc ls st)
theorem va_P.rgt {D : va_G} {cl : List vw_C} {a b : va_W} {H : Heap} (h : va_P D cl (a ++ b) H) : va_P D cl b H := fun k q hq => h (a.length + k) q (by rw [List.getElem?_append_right (by omega), Nat.add_sub_cancel_left]; exact hq)
theorem va_P.lft {D : va_G} {cl : List vw_C} {a b : va_W} {H : Heap} (h : va_P D cl (a ++ b) H) : va_P D cl a H := fun k q hq => h k q (by rw [List.getElem?_append_left (List.getElem?_eq_some_iff.mp hq).1]; exact hq)
theorem va_D.rgt {A : Nat → Prop} {a b : va_W} (h : va_D A (a ++ b)) : va_D A b := by
  have inr : ∀ (k : Nat) (q : Nat × va_E), b[k]? = some q → (a ++ b)[a.length + k]? = some q := fun k q hq => by rw [List.getElem?_append_right (by omega), Nat.add_sub_cancel_left]; exact hq
  refine ⟨fun i j x y hx hy hxy => ?_, fun k q hq => h.2 _ q (inr k q hq)⟩
  have := h.1 _ _ x y (inr i x hx) (inr j y hy) hxy
  omega
theorem va_D.lft {A : Nat → Prop} {a b : va_W} (h : va_D A (a ++ b)) : va_D A a := by
  have inl : ∀ (k : Nat) (q : Nat × va_E), a[k]? = some q → (a ++ b)[k]? = some q := fun k q hq => by rw [List.getElem?_append_left (List.getElem?_eq_some_iff.mp hq).1]; exact hq
  exact ⟨fun i j x y hx hy hxy => h.1 i j x y (inl i x hx) (inl j y hy) hxy, fun k q hq => h.2 _ q (inl k q hq)⟩
/-- what a constructor starts from -/
def PreC (D : va_G) (h ci : Nat) (fs : List Value) (sz : Nat) : State → Prop := fun U => U.heap.size = sz ∧ va_P D classes [(h, .inr (ci, fs))] U.heap ∧ va_K D classes [] U ∧ AOk U
/-- what it leaves: the cells of a layout, as the memory has them -/
def CW (D : va_G) (lay : List Nat) (A : Nat → Prop) (h : Nat) (Φ : Mem → Prop) (t : State) : Prop := ∃ (adr : Nat → Nat) (cA : Nat → ClassId) (μ : Mem), adr 0 = h ∧ Φ μ ∧ va_P D classes (wld lay adr cA μ) t.heap ∧ va_K D classes (tysL lay cA) t ∧ va_D A (wld lay adr cA μ)
def CnR (d mc ms : Nat) : Room := { frames := d + 1, cells := mc, slots := ms, locals := 60 * (d + 1) }
/-- a constructor's contract -/
def Cn (l : Launch) (D : va_G) (d : Nat) (y : MethodName) (cc : ByteArray) (maxL ci : Nat) (fs : List Value) (lay : List Nat) (Φ : Mem → Prop) (mc ms : Nat) : Prop := ∀ h sz, Met l y (Cond.code y cc maxL none :: lg) (CnR d mc ms) (va_Pc [.ref h] (PreC D h ci fs sz)) (va_Qv (fun _ : Unit => True) (fun _ t => CW D lay (va_A [(h, .inr (ci, fs))] sz) h Φ t) (va_A [(h, .inr (ci, fs))] sz)) mc ms (va_A [(h, .inr (ci, fs))] sz)
section BLD
variable {p : Program} {l : Launch} {e : Env} {R : Room} {s : State} {m : MethodId} {args : Array Value} {below : List Frame} {meth : Method} {c : Code} {Q : State → Prop}
variable {cc : ByteArray} {own : String} {maxL : Nat} {D : va_G} {A : Nat → Prop} {h ci pc : Nat} {ls : Array Slot} {st : List Value} {ws rest : va_W} {tys : List (ClassId × FieldType)} {cells slots : Nat} {fs : List Value}
theorem b_ld (X : BX p s m args meth c cc maxL own A ls h) (hd : decode cc pc = .ok (.aload_n 0, 1)) (k : GB p l e R s m args below meth c Q D A ls (pc + 1) (.ref h :: st) ws tys cells slots) : GB p l e R s m args below meth c Q D A ls pc st ws tys cells slots := fun H locs hB => lv_aload_n X.1 X.2.1 hd rfl X.2.2.2.2.2.2.2.1 (k H locs hB)
theorem b_ic (X : BX p s m args meth c cc maxL own A ls h) {n : Int} {v : Int32} (hd : decode cc pc = .ok (.iconst n, 1)) (hv : Int32.ofInt n = v) (k : GB p l e R s m args below meth c Q D A ls (pc + 1) (.int v :: st) ws tys cells slots) : GB p l e R s m args below meth c Q D A ls pc st ws tys cells slots := fun H locs hB => lv_iconst X.1 X.2.1 hd hv (k H locs hB)
theorem b_bi (X : BX p s m args meth c cc maxL own A ls h) {n : Int} {v : Int32} (hd : decode cc pc = .ok (.bipush n, 2)) (hv : (Int8.ofInt n).toInt32 = v) (k : GB p l e R s m args below meth c Q D A ls (pc + 2) (.int v :: st) ws tys cells slots) : GB p l e R s m args below meth c Q D A ls pc st ws tys cells slots := fun H locs hB => lv_bipush X.1 X.2.1 hd hv (k H locs hB)
theorem b_si (X : BX p s m args meth c cc maxL own A ls h) {n : Int} {v : Int32} (hd : decode cc pc = .ok (.sipush n, 3)) (hv : (Int16.ofInt n).toInt32 = v) (k : GB p l e R s m args below meth c Q D A ls (pc + 3) (.int v :: st) ws tys cells slots) : GB p l e R s m args below meth c Q D A ls pc st ws tys cells slots := fun H locs hB => lv_sipush X.1 X.2.1 hd hv (k H locs hB)
theorem b_dup (X : BX p s m args meth c cc maxL own A ls h) {a : Nat} (hd : decode cc pc = .ok (.dup, 1)) (k : GB p l e R s m args below meth c Q D A ls (pc + 1) (.ref a :: .ref a :: st) ws tys cells slots) : GB p l e R s m args below meth c Q D A ls pc (.ref a :: st) ws tys cells slots := fun H locs hB => lv_dup X.1 X.2.1 hd rfl (k H locs hB)
theorem b_obj (X : BX p s m args meth c cc maxL own A ls h) {idx a : Nat} (hd : decode cc pc = .ok (.invokespecial idx, 3)) (w1 : Cond.methodLink own idx Lib.objectInit ∈ lg) (w2 : Cond.instanceMethod Lib.objectInit ∈ lg) (w3 : Cond.code Lib.objectInit ⟨#[0xb1]⟩ 1 none ∈ lg) (hR : 1 ≤ R.frames ∧ 20 ≤ R.locals) (k : GB p l e R s m args below meth c Q D A ls (pc + 3) [] ws tys cells slots) : GB p l e R s m args below meth c Q D A ls pc [.ref a] ws tys cells slots := fun H locs hB => by
  refine W.objInit X.1 X.2.1 X.2.2.2.1 (X.2.2.2.2.1 _ w1) (X.2.2.2.2.1 _ w2) (X.2.2.2.2.1 _ w3) rfl (by rw [X.2.2.1]; exact X.2.2.2.2.2.2.1) rfl hd hR.1 (by have := hR.2; show 2 * 0 + 0 + 12 ≤ R.locals; omega) ?_
  exact W.eq (g2 := F0 m (pc + 3) ls []) rfl (k H locs hB)
theorem b_newI (X : BX p s m args meth c cc maxL own A ls h) {n : Nat} (hd : decode cc pc = .ok (.newarray .int, 2)) (w1 : Cond.arrayClass .int ∈ lg) (hn : n < 100000) (hc : cells + 1 ≤ R.cells) (hs : slots + n ≤ R.slots) (k : ∀ q cA, GB p l e R s m args below meth c Q D A ls (pc + 2) (.ref q :: st) (ws ++ [(q, .inl (cA, n, .inl (fun _ => 0)))]) (tys ++ [(cA, .int)]) (cells + 1) (slots + n)) : GB p l e R s m args below meth c Q D A ls pc (.int (nI n) :: st) ws tys cells slots := fun H locs hB => by
  obtain ⟨hP, hD, hK, hS⟩ := hB
  exact va_newa (atype := .int) X.1 X.2.1 (X.2.2.2.2.1 _ w1) rfl hK hP hD hS X.2.2.2.2.2.2.2.2 (N' := n) (a0 := (n, .inl (fun _ => 0))) (fun cA => rfl) (nx_neg (by omega)) (nx_cl (by omega)) (by show n * 4 ≤ _; omega) hc hs hd (fun q cA H1 hK hP hD hS => k q cA H1 locs ⟨hP, hD, hK, hS⟩)
theorem b_newJ (X : BX p s m args meth c cc maxL own A ls h) {n : Nat} (hd : decode cc pc = .ok (.newarray .long, 2)) (w1 : Cond.arrayClass .long ∈ lg) (hn : n < 100000) (hc : cells + 1 ≤ R.cells) (hs : slots + n ≤ R.slots) (k : ∀ q cA, GB p l e R s m args below meth c Q D A ls (pc + 2) (.ref q :: st) (ws ++ [(q, .inl (cA, n, .inr (.inl (fun _ => 0))))]) (tys ++ [(cA, .long)]) (cells + 1) (slots + n)) : GB p l e R s m args below meth c Q D A ls pc (.int (nI n) :: st) ws tys cells slots := fun H locs hB => by
  obtain ⟨hP, hD, hK, hS⟩ := hB
  exact va_newa (atype := .long) X.1 X.2.1 (X.2.2.2.2.1 _ w1) rfl hK hP hD hS X.2.2.2.2.2.2.2.2 (N' := n) (a0 := (n, .inr (.inl (fun _ => 0)))) (fun cA => rfl) (nx_neg (by omega)) (nx_cl (by omega)) (by show n * 8 ≤ _; omega) hc hs hd (fun q cA H1 hK hP hD hS => k q cA H1 locs ⟨hP, hD, hK, hS⟩)
theorem b_putF (X : BX p s m args meth c cc maxL own A ls h) {q0 : vw_C} {idx k q : Nat} {ty : FieldType} (hq : classes[ci]? = some q0) (hk : k < q0.2.2) (hd : decode cc pc = .ok (.putfield idx, 3)) (w1 : Cond.fieldLink own idx (q0.2.1 k).1 (q0.2.1 k).2.1 (q0.2.1 k).2.2.1 ∈ lg) (hfin : (q0.2.1 k).2.2.2 = true) (hdc : (q0.2.1 k).1 = own) (hty : parseFieldDescriptor (q0.2.1 k).2.2.1 = some ty) (hn : narrow ty (.ref q) = .ref q) (hft : fits ty (.ref q) = true) (hl : k < fs.length) (kk : GB p l e R s m args below meth c Q D A ls (pc + 3) [] ((h, .inr (ci, fs.set k (.ref q))) :: rest) tys cells slots) : GB p l e R s m args below meth c Q D A ls pc [.ref q, .ref h] ((h, .inr (ci, fs)) :: rest) tys cells slots := fun H locs hB => by
  obtain ⟨hP, hD, hK, hS⟩ := hB
  obtain ⟨c1, ⟨ty0, c2⟩, c3, c4, c5⟩ := clsOK ci q0 hq
  exact va_putF X.1 X.2.1 X.2.2.2.2.1 c1 ty0 c2 c3 X.2.2.2.1 hK hP hD hS 0 rfl hq k hk (X.2.2.2.2.1 _ w1) (fun _ h9 => h9) hfin X.2.2.2.2.2.1 hdc hty hn hft hl hd (fun H1 locs1 hP hD hS => kk H1 locs1 ⟨hP, hD, hK, hS⟩)
theorem b_putI (X : BX p s m args meth c cc maxL own A ls h) {q0 : vw_C} {idx k : Nat} {v : Int32} {ty : FieldType} (hq : classes[ci]? = some q0) (hk : k < q0.2.2) (hd : decode cc pc = .ok (.putfield idx, 3)) (w1 : Cond.fieldLink own idx (q0.2.1 k).1 (q0.2.1 k).2.1 (q0.2.1 k).2.2.1 ∈ lg) (hfin : (q0.2.1 k).2.2.2 = false) (hty : parseFieldDescriptor (q0.2.1 k).2.2.1 = some ty) (hn : narrow ty (.int v) = .int v) (hft : fits ty (.int v) = true) (hl : k < fs.length) (kk : GB p l e R s m args below meth c Q D A ls (pc + 3) [] ((h, .inr (ci, fs.set k (.int v))) :: rest) tys cells slots) : GB p l e R s m args below meth c Q D A ls pc [.int v, .ref h] ((h, .inr (ci, fs)) :: rest) tys cells slots := fun H locs hB => by
  obtain ⟨hP, hD, hK, hS⟩ := hB
  obtain ⟨c1, ⟨ty0, c2⟩, c3, c4, c5⟩ := clsOK ci q0 hq
  exact va_put X.1 X.2.1 X.2.2.2.2.1 c1 ty0 c2 c3 X.2.2.2.1 hK hP hD hS 0 rfl hq k hk (X.2.2.2.2.1 _ w1) (fun _ h9 => h9) hfin hty hn hft hl hd (fun H1 locs1 hP hD hS => kk H1 locs1 ⟨hP, hD, hK, hS⟩)
theorem b_multi (X : BX p s m args meth c cc maxL own A ls h) {n k idx : Nat} (hd : decode cc pc = .ok (.multianewarray idx 2, 4)) (hAO : AOk s) (w1 : Cond.classLink own idx ("[" ++ (FieldType.array .int).toString) ∈ lg) (w2 : Cond.arrayClass .int ∈ lg) (hn : n < 1000) (hk : k < 1000) (hc : cells + (1 + n) ≤ R.cells) (hs : slots + (n + n * k) ≤ R.slots) (kk : ∀ q cA cy, s.vm.findClass (FieldType.array .int).toString = some cy → GB p l e R s m args below meth c Q D A ls (pc + 4) (.ref q :: st) ((ws ++ [(q, .inl (cA, n, .inr (.inr (.inr (.inr (fun i => if i < n then some (q + 1 + i) else none))))))]) ++ ((List.range n).map (fun i => q + 1 + i)).map (fun a => (a, .inl (cy, k, .inl (fun _ => 0))))) (tys ++ [(cA, .array .int)]) (cells + 1 + n) (slots + n + n * k)) : GB p l e R s m args below meth c Q D A ls pc (.int (nI k) :: .int (nI n) :: st) ws tys cells slots := fun H locs hB => by
  obtain ⟨hP, hD, hK, hS⟩ := hB
  exact mn_new X.1 X.2.1 X.2.2.2.1 (X.2.2.2.2.1 _ w1) hAO.2 (X.2.2.2.2.1 _ w2) hK hP hD hS X.2.2.2.2.2.2.2.2 (nx_neg (by omega)) (nx_neg (by omega)) (nx_cl (by omega)) (nx_cl (by omega)) (by omega) (by show k * 4 ≤ _; omega) (by omega) hc hs hd (fun q cA cy H1 hcy hK hP hD hS => kk q cA cy hcy H1 locs ⟨hP, hD, hK, hS⟩)
/-- a new object of class ci', made by its constructor -/
theorem b_new (X : BX p s m args meth c cc maxL own A ls h) {q0 : vw_C} {ci' idx idx2 d mL mc ms : Nat} {ty : Nat → FieldType} {y : MethodName} {cy : ByteArray} {fs' : List Value} {lay : List Nat} {Φ : Mem → Prop} (hq : classes[ci']? = some q0) (hd1 : decode cc pc = .ok (.new idx, 3)) (hd2 : decode cc (pc + 3) = .ok (.dup, 1)) (hd3 : decode cc (pc + 4) = .ok (.invokespecial idx2, 3)) (hty : ∀ k, k < q0.2.2 → parseFieldDescriptor (q0.2.1 k).2.2.1 = some (ty k)) (hfs : ∀ j, j < q0.2.2 → defaultValue (ty j) = vp_V fs' j) (w1 : Cond.classLink own idx q0.1 ∈ lg) (w2 : Cond.instantiable q0.1 q0.2.2 ∈ lg) (w3 : Cond.initialized q0.1 ∈ lg) (w4 : Cond.methodLink own idx2 y ∈ lg) (w5 : Cond.instanceMethod y ∈ lg) (w6 : Cond.code y cy mL none ∈ lg) (hy : y.name = "<init>") (hyc : y.cls = q0.1) (hyd : y.cls ≠ "java/lang/invoke/MethodHandle" ∧ y.cls ≠ "java/lang/invoke/VarHandle" ∧ (parseMethodDescriptor y.desc).map (fun d => d.parameters.length) = some 0) (hmL : mL ≤ 40) (hC : Cn l D d y cy mL ci' fs' lay Φ mc ms) (hAO : AOk s) (hR : d + 2 ≤ R.frames ∧ 60 * (d + 2) ≤ R.locals) (hc : cells + 1 + mc ≤ R.cells) (hs : slots + q0.2.2 + ms ≤ R.slots) (hst : (st.map fun v => v.category).sum ≤ 7) (kk : ∀ (adr : Nat → Nat) (cA : Nat → ClassId) (μ : Mem), Φ μ → GB p l e R s m args below meth c Q D A ls (pc + 7) (.ref (adr 0) :: st) (ws ++ wld lay adr cA μ) (tys ++ tysL lay cA) (cells + 1 + mc) (slots + q0.2.2 + ms)) : GB p l e R s m args below meth c Q D A ls pc st ws tys cells slots := fun H locs hB => by
  obtain ⟨hP, hD, hK, hS⟩ := hB
  obtain ⟨c1, _, c3, c4, c5⟩ := clsOK ci' q0 hq
  refine va_new (ci := ci') (fs := fs') X.1 X.2.1 X.2.2.2.2.1 c1 ty hty X.2.2.2.1 (X.2.2.2.2.1 _ w1) (X.2.2.2.2.1 _ w2) (X.2.2.2.2.1 _ w3) hK hP hD hS X.2.2.2.2.2.2.2.2 hq hfs (by omega) (by omega) hd1 (fun q H1 hP hD hS => ?_)
  refine lv_dup X.1 X.2.1 hd2 rfl ?_
  have hF : ∀ x, va_A [(q, .inr (ci', fs'))] H1.size x → A x := fun x hx => by
    rcases hx with ⟨k, e, hx⟩ | hx
    · have : k = 0 := by have := (List.getElem?_eq_some_iff.mp hx).1; simpa using this
      subst this
      have hx : (q, Sum.inr (ci', fs')) = (x, e) := Option.some.inj hx
      have := hD.2 ws.length (q, .inr (ci', fs')) (by rw [List.getElem?_append_right (Nat.le_refl _), Nat.sub_self]; rfl)
      have e1 : q = x := congrArg Prod.fst hx
      rw [← e1]
      exact this
    · exact X.2.2.2.2.2.2.2.2 x (Nat.le_trans hS.1 hx)
  have hG : GoodIn lg (Cond.code y cy mL none :: lg) := fun w hw => by
    have : w ∈ lg := by
      rcases List.mem_cons.mp hw with e | e
      · rw [e]; exact w6
      · exact e
    exact ⟨this, good_of_word (List.mem_filter.mp this).2⟩
  refine va_callv (va_runI (As := []) (rest := .ref q :: st) ⟨X.1, X.2.1, X.2.2.1, X.2.2.2.1, X.2.2.2.2.1⟩ (hC q H1.size) (cwI 0 X.2.2.2.2.1 hG rfl rfl rfl (by rw [hyc]; exact X.2.2.2.2.1 _ w3) (X.2.2.2.2.1 _ w4) (X.2.2.2.2.1 _ w5) hy hyd ⟨by show d + 1 + 1 ≤ R.frames; omega, by show 8 + (mL + 11) + 60 * (d + 1) ≤ R.locals; omega⟩) ⟨fun a U g mk q => by obtain ⟨q0, q1, qP, qK, qA⟩ := q; exact ⟨q0, q1, qP, va_K.moved (u := U) (U := U.calling g mk a) (Vm.Alike.refl U.vm) qK, AOk.moved (u := U) (U := U.calling g mk a) (Vm.Alike.refl U.vm) qA⟩, fun U hU hW => ⟨rfl, by rw [hU], by rw [hU]; exact hP.rgt, va_K.moved hW.alike (hK.sub [] rfl), hAO.moved hW.alike⟩⟩ rfl rfl X.2.2.2.2.2.2.1 rfl (lv_room (by show (1 + (st.map fun v => v.category).sum) ≤ 8; omega)) hd3 ⟨hc, hs⟩) hS (fun x _ hx => hF x hx) hF (fun u t H2 locs ht hvm hw hB hz1 hk1 hS => ?_)
  obtain ⟨adr, cA, μ, a0, aΦ, hP1, hK1, hD1⟩ := hB
  rw [ht] at hP1
  obtain ⟨hP, hD⟩ := jn hP hD hk1 hF hP1 hD1
  have := kk adr cA μ aΦ H2 locs ⟨hP, hD, hK.app (va_K.moved hvm.symm hK1), hS⟩
  rw [a0] at this
  exact this
end BLD
