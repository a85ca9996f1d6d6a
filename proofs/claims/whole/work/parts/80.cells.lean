/-! new int[n][k]: multianewarray of two dimensions, out of the model's own definition of the instruction; nothing of Shelf42 -/
/-- T with one more cell o behind its heap, i cells z behind that, and w slots more in its book -/
def ma_S (T : State) (o z : Cell) (i w : Nat) : State := { T with heap := T.heap.push o ++ Array.replicate i z, slotsUsed := T.slotsUsed + w }
/-- the outer array at address h, once its first i rows are hung in -/
def ma_o (cA : ClassId) (N h i : Nat) : Cell := vp_cell cA (N, .inr (.inr (.inr (.inr (fun j => if j < i then some (h + 1 + j) else none)))))
def ma_z (cy : ClassId) (K : Nat) : Cell := vp_cell cy (K, .inl (fun _ => 0))
theorem ma_o_size (cA : ClassId) (N h i : Nat) : (ma_o cA N h i).slots.size = N := arrV_size _ _ _
theorem ma_z_size (cy : ClassId) (K : Nat) : (ma_z cy K).slots.size = K := arrV_size _ _ _
theorem ma_z_new (cy : ClassId) (K : Nat) : ({ cls := cy, slots := Array.replicate K (.int 0), vm := .none } : Cell) = ma_z cy K := arrV_new cy K (.int 0)
theorem ma_o_new (cA : ClassId) (N h : Nat) : ({ cls := cA, slots := Array.replicate N .null, vm := .none } : Cell) = ma_o cA N h 0 := by
  rw [arrV_new]
  unfold ma_o
  rw [vp_cell_q]
  refine congrArg (arrV cA N) (funext fun j => ?_)
  rw [if_neg (Nat.not_lt_zero j)]
  rfl
theorem ma_o_hang (cA : ClassId) (N h i : Nat) : (ma_o cA N h i).setSlot i (.ref (h + 1 + i)) = ma_o cA N h (i + 1) := by
  unfold ma_o
  rw [vp_cell_q, vp_cell_q, arrV_store]
  refine congrArg (arrV cA N) (funext fun j => ?_)
  show (if j = i then Value.ref (h + 1 + i) else va_rf (if j < i then some (h + 1 + j) else none)) = va_rf (if j < i + 1 then some (h + 1 + j) else none)
  rcases Nat.lt_trichotomy j i with g | g | g
  · rw [if_neg (Nat.ne_of_lt g), if_pos g, if_pos (Nat.lt_succ_of_lt g)]
  · rw [if_pos g, if_pos (Nat.lt_succ_of_le (Nat.le_of_eq g)), g]
    rfl
  · rw [if_neg (Nat.ne_of_gt g), if_neg (Nat.not_lt_of_lt g), if_neg (by omega)]
theorem ma_size (T : State) (o z : Cell) (i w : Nat) : (ma_S T o z i w).heap.size = T.heap.size + 1 + i := by
  show (T.heap.push o ++ Array.replicate i z).size = _
  rw [Array.size_append, Array.size_push, Array.size_replicate]
theorem ma_old {T : State} {a : Nat} (o z : Cell) (i w : Nat) (h : a < T.heap.size) : (ma_S T o z i w).heap[a]? = T.heap[a]? := by
  show (T.heap.push o ++ Array.replicate i z)[a]? = _
  rw [Array.getElem?_append_left (by rw [Array.size_push]; omega), Array.getElem?_push, if_neg (by omega)]
theorem ma_top (T : State) (o z : Cell) (i w : Nat) : (ma_S T o z i w).heap[T.heap.size]? = some o := by
  show (T.heap.push o ++ Array.replicate i z)[T.heap.size]? = _
  rw [Array.getElem?_append_left (by rw [Array.size_push]; omega), Array.getElem?_push, if_pos rfl]
theorem ma_row (T : State) (o z : Cell) {i j : Nat} (w : Nat) (h : j < i) : (ma_S T o z i w).heap[T.heap.size + 1 + j]? = some z := by
  show (T.heap.push o ++ Array.replicate i z)[T.heap.size + 1 + j]? = _
  rw [Array.getElem?_append_right (by rw [Array.size_push]; omega), Array.size_push, Array.getElem?_replicate, if_pos (by omega)]
/-- one turn of the instruction's loop: a row is made, and the outer array is written -/
theorem ma_turn (T : State) (o o' z : Cell) (i w : Nat) : ((ma_S T o z i w).pushCell z).setCell T.heap.size o' = ma_S T o' z (i + 1) (w + z.slots.size) := by
  have e : ((T.heap.push o ++ Array.replicate i z).push z).setIfInBounds T.heap.size o' = T.heap.push o' ++ Array.replicate (i + 1) z := by
    apply Array.ext'
    simp [List.replicate_succ']
  show ({ T with heap := ((T.heap.push o ++ Array.replicate i z).push z).setIfInBounds T.heap.size o', slotsUsed := T.slotsUsed + w + z.slots.size } : State) = { T with heap := T.heap.push o' ++ Array.replicate (i + 1) z, slotsUsed := T.slotsUsed + (w + z.slots.size) }
  rw [e, Nat.add_assoc]
theorem ma_first (T : State) (o z : Cell) : T.pushCell o = ma_S T o z 0 o.slots.size := by
  have e : T.heap.push o = T.heap.push o ++ Array.replicate 0 z := by simp
  show ({ T with heap := T.heap.push o, slotsUsed := T.slotsUsed + o.slots.size } : State) = { T with heap := T.heap.push o ++ Array.replicate 0 z, slotsUsed := T.slotsUsed + o.slots.size }
  rw [← e]
section MAS
variable {p : Program} {l : Launch} {e : Env} {R : Room} {s : State} {m : MethodId} {args : Array Value} {below : List Frame} {meth : Method} {c : Code} {T : State} {locs : List Loc} {cells slots : Nat}
/-- the walk stands behind every turn; the places that were written lie on a new cell, so nothing joins locs -/
theorem ma_stand (X : Stand p l e R s m args below meth c T locs cells slots) (cA cy : ClassId) (N K : Nat) : ∀ i : Nat,
    Stand p l e R s m args below meth c (ma_S T (ma_o cA N T.heap.size i) (ma_z cy K) i (N + i * K)) locs (cells + 1 + i) (slots + (N + i * K))
  | 0 => by
    have h := X.pushed (ma_o cA N T.heap.size 0)
    rw [ma_first T _ (ma_z cy K), ma_o_size] at h
    rw [Nat.zero_mul]
    exact h
  | i + 1 => by
    have h := (ma_stand X cA cy N K i).pushed (ma_z cy K)
    have hc : ((ma_S T (ma_o cA N T.heap.size i) (ma_z cy K) i (N + i * K)).pushCell (ma_z cy K)).heap[T.heap.size]? = some (ma_o cA N T.heap.size i) := by
      have hlt : T.heap.size < (ma_S T (ma_o cA N T.heap.size i) (ma_z cy K) i (N + i * K)).heap.size := by
        rw [ma_size]
        omega
      rw [State.heap_pushCell_of_lt (h := hlt)]
      exact ma_top _ _ _ _ _
    have h2 := (h.stored hc i (.ref (T.heap.size + 1 + i))).dropFresh (fun x hx => by
      rw [List.mem_singleton.mp hx]
      exact X.heapGrown)
    rw [ma_o_hang, ma_turn, ma_z_size] at h2
    rw [Nat.succ_mul, ← Nat.add_assoc N, ← Nat.add_assoc slots]
    exact h2
end MAS
section MAW
variable {E : CtlPost} {e : Env} {d : Bool} {acts : List Action} {s : State}
theorem ma_fit {x comp : ClassId} {k : Class} {ty : FieldType} {v : Value} (hk : s.vm.classes[x]? = some k) (hkind : k.kind = .array comp ty) (hf : fits ty v = true) (i : Nat) : s.fitsSlot x .none i v = true := by
  simp [State.fitsSlot, State.slotType?, hk, hkind, hf]
/-- the model's newArray, where there is room -/
theorem ma_new {x comp : ClassId} {k : Class} {ty : FieldType} {len : Nat} {v : Value} {Q : Addr → Pre} (hk : s.vm.classes[x]? = some k) (hkind : k.kind = .array comp ty) (hf : fits ty v = true)
    (hl : len ≤ e.platform.arrayLengthLimit) (hw : len * componentBytes ty ≤ e.platform.maxHeapBytes) (h1 : s.heap.size < e.platform.maxCells) (h2 : s.slotsUsed + len ≤ e.platform.maxSlots)
    (hq : ∀ acts', Q s.heap.size d acts' (s.pushCell { cls := x, slots := Array.replicate len v, vm := .none })) : wp (Jvm.newArray x len v) Q E e d acts s := by
  have g1 : ¬ len > e.platform.arrayLengthLimit := by omega
  have g2 : ¬ len * componentBytes ty > e.platform.maxHeapBytes := by omega
  have g3 : ¬ len > e.platform.maxSlots := by omega
  simp only [Jvm.newArray, Jvm.arrayFits, wp_bind', W.ask, W.ite, W.theClass, W.alloc, W.stop, wp_pure', hk, hkind, g1, g2, g3, if_false, Option.some.injEq, exists_eq_left', Array.size_replicate]
  refine ⟨h1, h2, fun i w hi => ?_, hq _⟩
  have hv : w = v := by
    rw [Array.getElem?_replicate] at hi
    split at hi
    · exact (Option.some.inj hi).symm
    · cases hi
  rw [hv]
  exact ma_fit hk hkind hf i
/-- the model's make, at two lengths, for an array of arrays of ints -/
theorem ma_make {cA cy cc : ClassId} {kA kC : Class} {n k : Int32} {N K : Nat} {Q : Addr → Pre} (hA : s.vm.classes[cA]? = some kA) (hkA : kA.kind = .array cy (.array .int)) (hC : s.vm.classes[cy]? = some kC) (hkC : kC.kind = .array cc .int)
    (hn : ¬ n < 0) (hk : ¬ k < 0) (hN : n.toNatClampNeg = N) (hK : k.toNatClampNeg = K) (l1 : N ≤ e.platform.arrayLengthLimit) (w1 : N * 4 ≤ e.platform.maxHeapBytes) (l2 : K ≤ e.platform.arrayLengthLimit) (w2 : K * componentBytes .int ≤ e.platform.maxHeapBytes)
    (r1 : s.heap.size + (1 + N) ≤ e.platform.maxCells) (r2 : s.slotsUsed + (N + N * K) ≤ e.platform.maxSlots)
    (hq : ∀ d' acts', Q s.heap.size d' acts' (ma_S s (ma_o cA N s.heap.size N) (ma_z cy K) N (N + N * K))) : wp (multianewarray.make cA [n, k]) Q E e d acts s := by
  have hneg : List.find? (fun x => decide (x < 0)) [k] = none := by simp [hk]
  rw [multianewarray.make]
  simp only [wp_bind', W.ite, hn, if_false, wp_pure', W.theClass, hA, hkA, Option.some.injEq, exists_eq_left', hN]
  refine ma_new hA hkA rfl l1 w1 (by omega) (by omega) (fun acts1 => ?_)
  rw [ma_o_new cA N s.heap.size, ma_first s _ (ma_z cy K), ma_o_size]
  simp only [hneg, ite_self, wp_bind', wp_pure', Std.Legacy.Range.forIn_eq_forIn_range', Std.Legacy.Range.size, Nat.sub_zero, Nat.add_sub_cancel, Nat.div_one]
  refine wp_forIn_inv (fun ys t => ∃ i, ys = List.range' i ys.length ∧ i + ys.length = N ∧ t = ma_S s (ma_o cA N s.heap.size i) (ma_z cy K) i (N + i * K)) _ _ ⟨0, by simp, by simp, by rw [Nat.zero_mul]; rfl⟩ ?_ ?_
  · rintro y ys t d' acts' Q' ⟨i, hy, hlen, rfl⟩ next
    rw [List.length_cons, List.range'_succ] at hy
    obtain ⟨rfl, hys⟩ := List.cons.inj hy
    rw [List.length_cons] at hlen
    have hm : y * K + K ≤ N * K := by
      rw [← Nat.succ_mul]
      exact Nat.mul_le_mul_right K (by omega)
    simp only [wp_bind']
    rw [multianewarray.make]
    simp only [wp_bind', W.ite, hk, if_false, wp_pure', W.theClass]
    refine ⟨kC, hC, ?_⟩
    simp only [hkC, hK]
    refine ma_new (k := kC) hC hkC rfl l2 w2 (by rw [ma_size]; omega) (by show s.slotsUsed + (N + y * K) + K ≤ _; omega) (fun acts2 => ?_)
    rw [show defaultValue FieldType.int = Value.int 0 from rfl, ma_z_new, ma_size]
    simp only [wp_bind', W.writeLoc, wp_pure']
    refine ⟨ma_o cA N s.heap.size y, ?_, ?_, ?_, ?_, ?_⟩
    · have hlt : s.heap.size < (ma_S s (ma_o cA N s.heap.size y) (ma_z cy K) y (N + y * K)).heap.size := by
        rw [ma_size]
        omega
      rw [State.heap_pushCell_of_lt (h := hlt)]
      exact ma_top _ _ _ _ _
    · intro h
      cases h
    · rw [ma_o_size]
      omega
    · exact ma_fit (k := kA) hA hkA rfl y
    · rw [ma_o_hang, ma_turn, ma_z_size]
      exact next _ _ _ ⟨y + 1, hys, by omega, by rw [Nat.succ_mul, ← Nat.add_assoc N]⟩
  · rintro t d' acts' ⟨i, -, hlen, rfl⟩
    have hi : i = N := by simpa using hlen
    rw [hi]
    exact hq _ _
end MAW
/-- what the word says: the array of int arrays is there, and over which class -/
theorem ma_over {U : State} {args : Array Value} (h : (Cond.arrayOver (.array .int)).before args U = true) : ∃ (cy cA : ClassId) (kA : Class), U.vm.findClass (FieldType.array .int).toString = some cy ∧
    U.vm.findClass ("[" ++ (FieldType.array .int).toString) = some cA ∧ U.vm.classes[cA]? = some kA ∧ kA.kind = .array cy (.array .int) := by
  unfold Cond.before Cond.holds at h
  simp only [Cond.value, beq_iff_eq, Option.bind_eq_some_iff, Option.map_eq_some_iff] at h
  obtain ⟨cy, f1, cA, f2, kA, f3, f4⟩ := h
  obtain ⟨hlt, hb, -⟩ := Array.findIdx?_eq_some_iff_getElem.mp f2
  rw [(Array.getElem?_eq_some_iff.mp f3).2] at hb
  cases hkd : kA.kind with
  | array comp ty =>
    rw [hkd] at f4 hb
    obtain ⟨g1, g2⟩ := Bool.and_eq_true_iff.mp f4
    exact ⟨cy, cA, kA, f1, of_decide_eq_true g2, f3, by rw [hkd, of_decide_eq_true g1, beq_iff_eq.mp hb]⟩
  | _ =>
    rw [hkd] at f4
    cases f4
theorem ma_over_moved {u U : State} {ty : FieldType} (hvm : u.vm.Alike U.vm) (h : (Cond.arrayOver ty).before #[] u = true) : (Cond.arrayOver ty).before #[] U = true :=
  (Cond.arrayOver_setVmC (args := #[]) (s := u) hvm ty).trans h
theorem ma_rows_at {q N k : Nat} {z : va_E} {x : Nat × va_E} (h : (((List.range N).map (fun i => q + 1 + i)).map (fun a => ((a, z) : Nat × va_E)))[k]? = some x) : k < N ∧ x = (q + 1 + k, z) := by
  obtain ⟨hl, e⟩ := List.getElem?_eq_some_iff.mp h
  rw [List.length_map, List.length_map, List.length_range] at hl
  rw [List.getElem_map, List.getElem_map, List.getElem_range] at e
  exact ⟨hl, e.symm⟩
section MAN
variable {p : Program} {l : Launch} {e : Env} {R : Room} {s : State} {m : MethodId} {args : Array Value} {below : List Frame} {meth : Method} {c : Code} {H : Heap} {locs : List Loc} {cells slots : Nat} {Q : State → Prop}
variable {cc : ByteArray} {pc : Nat} {ls : Array Slot} {rest : List Value} {D : va_G} {cl : List vw_C} {A : Nat → Prop} {tys : List (ClassId × FieldType)} {ws : va_W} {H0 : Heap}
/-- one step of the machine: what is reached behind the instruction was reached from it -/
theorem ma_step {T : State} {vm₁ : Vm} {index N K : Nat} {n k : Int32} {cA cy cc' : ClassId} {kA kC : Class} (X : Stand p l e R s m args below meth c T locs cells slots) (hexec : p.tables.exec = Jvm.exec) (hb : c.code = cc) (hdg : decode cc pc = .ok (.multianewarray index 2, 4))
    (hw : s.WarmedH vm₁) (hg : (Jvm.resolveClass m.cls index).Gives e.toSetting T.vm (.ok cA) vm₁) (hA : vm₁.classes[cA]? = some kA) (hkA : kA.kind = .array cy (.array .int)) (hC : vm₁.classes[cy]? = some kC) (hkC : kC.kind = .array cc' .int)
    (hn : ¬ n < 0) (hk : ¬ k < 0) (hN : n.toNatClampNeg = N) (hK : k.toNatClampNeg = K) (hb1 : N * 4 ≤ 536870912) (hb2 : K * componentBytes .int ≤ 536870912) (hb3 : K ≤ 536870912) (hcells : cells + (1 + N) ≤ R.cells) (hslots : slots + (N + N * K) ≤ R.slots)
    {t : State} (ht : Steps p.tables e below ((ma_S (T.setVm vm₁) (ma_o cA N T.heap.size N) (ma_z cy K) N (N + N * K)).setTop (F0 m (pc + 4) ls (.ref T.heap.size :: rest))) t) : Steps p.tables e below (T.setTop (F0 m pc ls (.int k :: .int n :: rest))) t := by
  obtain ⟨r1, r2⟩ := X.roomAbove hcells hslots
  have Y : (ma_S (T.setVm vm₁) (ma_o cA N T.heap.size N) (ma_z cy K) N (N + N * K)).topJava?.isSome := (ma_stand (X.noted hw) cA cy N K N).here.top
  have hlim := Launch.admits_arrayLengthLimit X.admits
  have hmax := Launch.admits_maxHeapBytes X.admits
  have hX := X.here
  rw [← hb] at hdg
  jvm_step hX [hexec, hdg]
  simp only [multianewarray.sem, wp_bind', W.resolveClassAt_links (State.method?_setTop (F0 m pc ls (.int k :: .int n :: rest)) X.here.top) hg, W.popN]
  rw [if_neg (by omega)]
  refine ⟨F0 m pc ls (.int k :: .int n :: rest), State.topJava?_setTop' (s := T.setVm vm₁) _ X.here.top, [.int n, .int k], rest, rfl, rfl, ?_⟩
  simp only [List.mapM_cons, List.mapM_nil, wp_bind', wp_pure']
  refine ma_make (kA := kA) (kC := kC) hA hkA hC hkC hn hk hN hK (by omega) (by omega) (by omega) (by omega) r1 r2 (fun d' acts' => ?_)
  have e1 : ma_S (((T.setTop (F0 m pc ls (.int k :: .int n :: rest))).setVm vm₁).setTop (F0 m pc ls rest)) (ma_o cA N T.heap.size N) (ma_z cy K) N (N + N * K) = (ma_S (T.setVm vm₁) (ma_o cA N T.heap.size N) (ma_z cy K) N (N + N * K)).setTop (F0 m pc ls rest) :=
    congrArg (fun u => ma_S u (ma_o cA N T.heap.size N) (ma_z cy K) N (N + N * K)) (State.setTop_setTop (T.setVm vm₁) (F0 m pc ls (.int k :: .int n :: rest)) (F0 m pc ls rest))
  refine (congrArg (fun u => wp _ _ _ e d' acts' u) e1).mpr ?_
  simp only [wp_bind', W.mark, W.pushRef]
  refine ⟨F0 m pc ls rest, State.topJava?_setTop' _ Y, fun acts2 => ?_⟩
  rw [State.setTop_setTop]
  simp [jvm, Y]
  exact ht
/-- new int[n][k]: the outer array, then its rows, are new at the heap's end -/
theorem mn_new (hexec : p.tables.exec = Jvm.exec) (hb : c.code = cc) {own : String} {index : Nat} (hown : s.vm.findClass own = some m.cls) (hclink : (Cond.classLink own index ("[" ++ (FieldType.array .int).toString)).before args s = true) (hover : (Cond.arrayOver (.array .int)).before args s = true) (harr : (Cond.arrayClass .int).before args s = true)
    (hK : va_K D cl tys s) (hP : va_P D cl ws H) (hD : va_D A ws) (hS : va_S A H0 H locs) (hA : ∀ q, H0.size ≤ q → A q) {n k : Int32} {N' K' : Nat} (hn : ¬ n < 0) (hk : ¬ k < 0) (hN : n.toNatClampNeg = N') (hM : k.toNatClampNeg = K')
    (hb1 : N' * 4 ≤ 536870912) (hb2 : K' * componentBytes .int ≤ 536870912) (hb3 : K' ≤ 536870912) (hcells : cells + (1 + N') ≤ R.cells) (hslots : slots + (N' + N' * K') ≤ R.slots) (hdg : decode cc pc = .ok (.multianewarray index 2, 4))
    (kk : ∀ (q : Nat) (cA cy : ClassId) (H1 : Heap), s.vm.findClass (FieldType.array .int).toString = some cy → va_K D cl (tys ++ [(cA, .array .int)]) s →
      va_P D cl ((ws ++ [(q, .inl (cA, N', .inr (.inr (.inr (.inr (fun i => if i < N' then some (q + 1 + i) else none))))))]) ++ ((List.range N').map (fun i => q + 1 + i)).map (fun a => (a, .inl (cy, K', .inl (fun _ => 0))))) H1 → va_D A ((ws ++ [(q, .inl (cA, N', .inr (.inr (.inr (.inr (fun i => if i < N' then some (q + 1 + i) else none))))))]) ++ ((List.range N').map (fun i => q + 1 + i)).map (fun a => (a, .inl (cy, K', .inl (fun _ => 0))))) → va_S A H0 H1 locs →
      W p l e R s m args below meth c H1 locs (cells + 1 + N') (slots + N' + N' * K') Q (F0 m (pc + 4) ls (.ref q :: rest))) : W p l e R s m args below meth c H locs cells slots Q (F0 m pc ls (.int k :: .int n :: rest)) := by
  intro T hT X
  subst hT
  obtain ⟨cy, cA, kA, fy, fA, gA, hkA⟩ := ma_over hover
  obtain ⟨cy2, kC, cc2, fy2, gC, hkC⟩ := Cond.arrayClass_spec harr
  have ey : cy2 = cy := Option.some.inj (fy2.symm.trans fy)
  rw [ey] at gC
  obtain ⟨x, fx, hlink⟩ := Cond.classLink_spec hown hclink e.platform (by rw [X.admits.platform])
  have ex : x = cA := Option.some.inj (fx.symm.trans fA)
  rw [ex] at hlink
  obtain ⟨hg, hw, -⟩ := State.classEntry (e := e) X.warmed hlink
  generalize T.vm.noted m.cls index (.cls cA) = vm₁ at hg hw
  obtain ⟨kA1, gA1, eA⟩ := hw.alike.2.2 _ _ gA
  obtain ⟨kC1, gC1, eC⟩ := hw.alike.2.2 _ _ gC
  have Y := ma_stand (X.noted hw) cA cy N' K' N'
  rw [← Nat.add_assoc slots] at Y
  have go := fun t ht => ma_step (t := t) (ls := ls) (rest := rest) X hexec hb hdg hw hg gA1 (by rw [eA]; exact hkA) gC1 (by rw [eC]; exact hkC) hn hk hN hM hb1 hb2 hb3 hcells hslots ht
  have sz : (ma_S (T.setVm vm₁) (ma_o cA N' T.heap.size N') (ma_z cy K') N' (N' + N' * K')).heap.size = T.heap.size + 1 + N' := ma_size _ _ _ _ _
  have old : ∀ a, a < T.heap.size → (ma_S (T.setVm vm₁) (ma_o cA N' T.heap.size N') (ma_z cy K') N' (N' + N' * K')).heap[a]? = T.heap[a]? := fun a h => ma_old (T := T.setVm vm₁) _ _ _ _ h
  have top : (ma_S (T.setVm vm₁) (ma_o cA N' T.heap.size N') (ma_z cy K') N' (N' + N' * K')).heap[T.heap.size]? = some (ma_o cA N' T.heap.size N') := ma_top (T.setVm vm₁) _ _ _ _
  have row : ∀ j, j < N' → (ma_S (T.setVm vm₁) (ma_o cA N' T.heap.size N') (ma_z cy K') N' (N' + N' * K')).heap[T.heap.size + 1 + j]? = some (ma_z cy K') := fun j h => ma_row (T.setVm vm₁) _ _ _ h
  have hK2 : va_K D cl (tys ++ [(cA, .array .int)]) s := hK.app ⟨hK.1, fun j y hy => by
    rw [List.mem_singleton.mp (List.mem_of_getElem? hy)]
    exact ⟨fun _ _ => ⟨(fun q hq => by cases hq), kA, gA, cy, hkA⟩, fA⟩⟩
  have hP2 := ((hP.kept (fun j y hy => old y.1 (hP j y hy).lt)).app (w2 := [(T.heap.size, .inl (cA, N', .inr (.inr (.inr (.inr (fun i => if i < N' then some (T.heap.size + 1 + i) else none))))))]) (fun j y hy => by
    rw [List.mem_singleton.mp (List.mem_of_getElem? hy)]
    exact top)).app (w2 := ((List.range N').map (fun i => T.heap.size + 1 + i)).map (fun a => (a, .inl (cy, K', .inl (fun _ => 0))))) (fun j y hy => by
    obtain ⟨hj, rfl⟩ := ma_rows_at hy
    exact row j hj)
  have hD2 := (hD.push (e := .inl (cA, N', .inr (.inr (.inr (.inr (fun i => if i < N' then some (T.heap.size + 1 + i) else none)))))) hP rfl (hA _ hS.1)).app (w2 := ((List.range N').map (fun i => T.heap.size + 1 + i)).map (fun a => (a, .inl (cy, K', .inl (fun _ => 0)))))
    ⟨fun i j y z hi hj hyz => by
      obtain ⟨-, rfl⟩ := ma_rows_at hi
      obtain ⟨-, rfl⟩ := ma_rows_at hj
      exact Nat.add_left_cancel hyz, fun j y hy => by
      obtain ⟨-, rfl⟩ := ma_rows_at hy
      exact hA _ (Nat.le_trans hS.1 (Nat.le_trans (Nat.le_succ _) (Nat.le_add_right _ _)))⟩
    (fun i j y z hi hj => by
      obtain ⟨-, rfl⟩ := ma_rows_at hj
      have hle : y.1 ≤ T.heap.size := by
        rcases List.mem_append.mp (List.mem_of_getElem? hi) with h | h
        · obtain ⟨i2, h2⟩ := List.getElem?_of_mem h
          exact Nat.le_of_lt (hP i2 y h2).lt
        · rw [List.mem_singleton.mp h]
          exact Nat.le_refl _
      show y.1 ≠ T.heap.size + 1 + j
      omega)
  obtain ⟨t, h1, h2⟩ := kk T.heap.size cA cy _ fy hK2 hP2 hD2 ⟨by rw [sz]; have := hS.1; omega, fun a h1 h2 => (old a (Nat.lt_of_lt_of_le h1 hS.1)).trans (hS.2.1 a h1 h2), hS.2.2⟩ _ rfl Y
  exact ⟨t, go t h1, h2⟩
end MAN
/-! behind a call over the world's last cells: the kit's va_join, at these places -/
theorem ma_nd : ∀ l : List Nat, l.Nodup → va_nd l = true
  | [], _ => rfl
  | a :: l, h => Bool.and_eq_true_iff.mpr ⟨decide_eq_true (List.nodup_cons.mp h).1, ma_nd l (List.nodup_cons.mp h).2⟩
theorem jn {A0 : Nat → Prop} {D : va_G} {cl : List vw_C} {wr wc w1 : va_W} {H H1 : Heap} (hP : va_P D cl (wr ++ wc) H) (hD : va_D A0 (wr ++ wc)) (hk : ∀ q : Nat, q < H.size → ¬ va_A wc H.size q → H1[q]? = H[q]?) (hF : ∀ q, va_A wc H.size q → A0 q) (hP1 : va_P D cl w1 H1) (hD1 : va_D (va_A wc H.size) w1) : va_P D cl (wr ++ w1) H1 ∧ va_D A0 (wr ++ w1) := by
  refine va_join hP hD ((List.range wc.length).map (fun i => wr.length + i)) (List.range wr.length) ?_ ?_ (ma_nd _ List.nodup_range) ?_ hk hF hP1 hD1
  · refine List.ext_getElem (by simp) (fun i g1 g2 => ?_)
    rw [List.length_map] at g2
    simp [List.getElem?_append_right, g2]
  · refine List.ext_getElem (by simp) (fun i g1 g2 => ?_)
    rw [List.length_map] at g2
    simp [List.getElem?_append_left, g2]
  · intro i g1 g2
    obtain ⟨j, -, rfl⟩ := List.mem_map.mp g2
    have := List.mem_range.mp g1
    omega
