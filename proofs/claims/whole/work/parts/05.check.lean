/-! the code tables against the bytes and the tables' words -/
/-- the words that a call carries on -/
def lg : List Cond := lw_tbl.filter goodWord
def wAt (pl : Nat) (w : Cond) : Bool := decide (lw_tbl[pl]? = some w)
theorem wAt_in {pl : Nat} {w : Cond} (h : wAt pl w = true) (hg : goodWord w = true) : w ∈ lg := List.mem_filter.mpr ⟨List.mem_of_getElem? (of_decide_eq_true h), hg⟩
def dk (M pc : Nat) (i : Instr) (len : Nat) : Bool := decide (decode (mBy M) pc = .ok (i, len))
theorem dk_at {M pc : Nat} {i : Instr} {len : Nat} (h : dk M pc i len = true) : decode (mBy M) pc = .ok (i, len) := of_decide_eq_true h
def bini : Nat → Instr
  | 0 => .iadd
  | 1 => .isub
  | 2 => .imul
  | 3 => .iand
  | 4 => .ior
  | 5 => .ixor
  | 6 => .ishl
  | 7 => .ishr
  | _ => .iushr
def binl : Nat → Instr
  | 0 => .ladd
  | 1 => .lsub
  | _ => .lmul
def ccd : Nat → ClassFile.Cond
  | 0 => .eq
  | 1 => .ne
  | 2 => .lt
  | 3 => .ge
  | 4 => .gt
  | _ => .le
def fldOk (M ci k pl idx : Nat) : Bool := match classes[ci]? with
  | some q => decide (k < q.2.2) && wAt pl (.fieldLink (mNm M).cls idx (q.2.1 k).1 (q.2.1 k).2.1 (q.2.1 k).2.2.1)
  | none => false
def putOk (ci k : Nat) : Bool := match classes[ci]? with
  | some q => decide ((q.2.1 k).2.2.2 = false) && decide (parseFieldDescriptor (q.2.1 k).2.2.1 = some (if (fkt ci k).1 = 0 then .int else .boolean))
  | none => false
def rkOf : Option FieldType → Nat
  | none => 0
  | some .long => 2
  | some _ => 1
def calOk (M M' n rk idx pl p1 p4 : Nat) : Bool :=
  rk == rkOf (mRt M') && wAt pl (.methodLink (mNm M).cls idx (mNm M')) && (wAt p1 (.code (mNm M') (mBy M') (mMx M') (mRt M')) && (wAt p4 (.initialized (mNm M').cls) && (decide ((mNm M').cls ≠ "java/lang/invoke/MethodHandle" ∧ (mNm M').cls ≠ "java/lang/invoke/VarHandle" ∧ (parseMethodDescriptor (mNm M').desc).map (fun d => d.parameters.length) = some n) && Nat.ble (mMx M') 40)))
def clsNm (ci : Nat) : String := (classes.getD ci ("", cT0, 0)).1
def chkE (M pc : Nat) (e : INS) : Bool :=
  match e with
  | (0, a, [len, v, idx, pl]) => (match v with
    | 0 => dk M pc (.iconst a) 1 && len == 1
    | 1 => dk M pc (.bipush a) 2 && (len == 2 && decide ((Int8.ofInt a).toInt32 = cI a))
    | 2 => dk M pc (.sipush a) 3 && (len == 3 && decide ((Int16.ofInt a).toInt32 = cI a))
    | 3 => dk M pc (.ldc idx) 2 && (len == 2 && wAt pl (.constant (mNm M).cls idx (cI a)))
    | _ => dk M pc (.ldc_w idx) 3 && (len == 3 && wAt pl (.constant (mNm M).cls idx (cI a))))
  | (1, a, [len, v, idx, pl]) => (match v with
    | 0 => dk M pc (.lconst (Fin.ofNat 2 a.toNat)) 1 && (len == 1 && decide (Int64.ofNat ((Fin.ofNat 2 a.toNat : Fin 2) : Nat) = cL a))
    | _ => dk M pc (.ldc2_w idx) 3 && (len == 3 && wAt pl (.constantLong (mNm M).cls idx (cL a))))
  | (2, _, [k, v]) => (match v with
    | 0 => dk M pc (.iload_n (Fin.ofNat 4 k)) 1 && Nat.ble k 3
    | _ => dk M pc (.iload k) 2)
  | (3, _, [k, v]) => (match v with
    | 0 => dk M pc (.lload_n (Fin.ofNat 4 k)) 1 && Nat.ble k 3
    | _ => dk M pc (.lload k) 2)
  | (4, _, [k, v]) => (match v with
    | 0 => dk M pc (.aload_n (Fin.ofNat 4 k)) 1 && Nat.ble k 3
    | _ => dk M pc (.aload k) 2)
  | (5, _, [k, v]) => Nat.ble (k + 1) (mMx M) && (match v with
    | 0 => dk M pc (.istore_n (Fin.ofNat 4 k)) 1 && Nat.ble k 3
    | _ => dk M pc (.istore k) 2)
  | (6, _, [k, v]) => Nat.ble (k + 2) (mMx M) && (match v with
    | 0 => dk M pc (.lstore_n (Fin.ofNat 4 k)) 1 && Nat.ble k 3
    | _ => dk M pc (.lstore k) 2)
  | (7, _, [k, v]) => Nat.ble (k + 1) (mMx M) && (match v with
    | 0 => dk M pc (.astore_n (Fin.ofNat 4 k)) 1 && Nat.ble k 3
    | _ => dk M pc (.astore k) 2)
  | (8, a, [k]) => Nat.ble (k + 1) (mMx M) && dk M pc (.iinc k a) 3
  | (9, _, [b]) => dk M pc (bini b) 1
  | (10, _, [b]) => dk M pc (match b with | 0 => .idiv | _ => .irem) 1
  | (11, _, [b]) => dk M pc (binl b) 1
  | (12, _, [b]) => dk M pc (match b with | 0 => .ldiv | _ => .lrem) 1
  | (13, _, _) => dk M pc .i2l 1
  | (14, _, _) => dk M pc .l2i 1
  | (15, _, _) => dk M pc .lcmp 1
  | (16, _, _) => dk M pc .dup 1
  | (17, _, _) => dk M pc .dup2 1
  | (18, _, _) => dk M pc .pop 1
  | (19, _, [t]) => dk M pc (.goto ((t : Int) - pc)) 3
  | (20, _, [c, t]) => dk M pc (.ifCond (ccd c) ((t : Int) - pc)) 3
  | (21, _, [c, t]) => dk M pc (.if_icmp (ccd c) ((t : Int) - pc)) 3
  | (22, lo, len :: d :: ts) => dk M pc (.tableswitch ((d : Int) - pc) lo (lo + (ts.length : Int) - 1) (ts.map fun (t : Nat) => (t : Int) - (pc : Int)).toArray) len && (decide (0 ≤ lo) && decide (lo + (ts.length : Int) < 1000))
  | (23, _, [idx, ci, k, pl]) => dk M pc (.getfield idx) 3 && fldOk M ci k pl idx
  | (24, _, [idx, ci, k, pl]) => dk M pc (.putfield idx) 3 && (fldOk M ci k pl idx && putOk ci k)
  | (25, _, _) => dk M pc .iaload 1
  | (26, _, _) => dk M pc .iastore 1
  | (27, _, _) => dk M pc .laload 1
  | (28, _, _) => dk M pc .lastore 1
  | (29, _, _) => dk M pc .aaload 1
  | (30, _, _) => dk M pc .arraylength 1
  | (31, _, [z]) => dk M pc .ireturn 1 && decide (mRt M = some (match z with | 0 => .int | _ => .boolean))
  | (32, _, _) => dk M pc .lreturn 1 && decide (mRt M = some .long)
  | (33, _, _) => dk M pc .return_ 1 && decide (mRt M = none)
  | (34, _, [idx, M', n, rk, ci, pl, p1, p2, p3, p4]) => dk M pc (.invokevirtual idx) 3 && (calOk M M' n rk idx pl p1 p4 && (wAt p2 (.instanceMethod (mNm M')) && (wAt p3 (.selects (mNm M').cls (mNm M') (mNm M')) && decide (clsNm ci = (mNm M').cls ∧ ci < 7))))
  | (35, _, [idx, M', n, rk, _, pl, p1, p2, _, p4]) => dk M pc (.invokestatic idx) 3 && (calOk M M' n rk idx pl p1 p4 && wAt p2 (.static (mNm M')))
  | (36, _, [idx, b, p0, p1, p2, p3]) => dk M pc (.invokestatic idx) 3 && (wAt p2 (.initialized "java/lang/Math") && (match b with
    | 0 => wAt p0 (.methodLink (mNm M).cls idx Lib.Math.max.name) && (wAt p1 (.static Lib.Math.max.name) && wAt p3 (.code Lib.Math.max.name Lib.Math.max.code 2 (some .int)))
    | _ => wAt p0 (.methodLink (mNm M).cls idx Lib.Math.min.name) && (wAt p1 (.static Lib.Math.min.name) && wAt p3 (.code Lib.Math.min.name Lib.Math.min.code 2 (some .int)))))
  | (99, _, _) => true
  | _ => false
def okB (M : Nat) : Bool := plainName (mNm M).cls && (List.range (16 * (mTb M).length)).all (fun pc => chkE M pc (lk (mTb M) pc))
theorem lk1_nil (n : Nat) : lk1 [] n = nO := by cases n <;> rfl
theorem lk0_out : ∀ {t : List (List INS)} {n : Nat}, t.length ≤ n → lk0 t n = []
  | [], n, _ => by cases n <;> rfl
  | _ :: t, 0, h => by simp at h
  | _ :: t, n + 1, h => lk0_out (t := t) (by simpa using h)
theorem lk_out {t : List (List INS)} {pc : Nat} (h : 16 * t.length ≤ pc) : lk t pc = nO := by
  unfold lk
  rw [lk0_out (by omega), lk1_nil]
theorem okB_at {M : Nat} (h : okB M = true) (pc : Nat) : chkE M pc (lk (mTb M) pc) = true := by
  simp only [okB, Bool.and_eq_true] at h
  rcases Nat.lt_or_ge pc (16 * (mTb M).length) with q | q
  · exact List.all_eq_true.mp h.2 pc (List.mem_range.mpr q)
  · rw [lk_out q]; rfl
theorem lays_good (C : String) (T : u_T) (N : Nat) : ∀ w ∈ u_ws C T N, goodWord w = true := by
  intro w hw
  obtain ⟨k, -, rfl⟩ := List.mem_map.mp hw
  unfold u_lay
  split <;> rfl
theorem lg_in {C : String} {T : u_T} {N : Nat} (h : ∀ w ∈ u_ws C T N, w ∈ lw_tbl) : ∀ w ∈ u_ws C T N, w ∈ lg := fun w hw => List.mem_filter.mpr ⟨h w hw, lays_good C T N w hw⟩
theorem clsOK : ∀ (ci : Nat) (q : vw_C), classes[ci]? = some q → (∀ w ∈ u_ws q.1 q.2.1 q.2.2, w ∈ lg) ∧ (∃ ty0 : Nat → FieldType, ∀ k, k < q.2.2 → parseFieldDescriptor (q.2.1 k).2.2.1 = some (ty0 k)) ∧ (∀ a, a < q.2.2 → ∀ b, b < q.2.2 → a ≠ b → (q.2.1 a).2.1 ≠ (q.2.1 b).2.1) ∧ nfl ci = q.2.2 ∧ ci < 7
  | 0, q, h => by cases h; exact ⟨lg_in cW0, ⟨cY0, cY0_ok⟩, cN0, rfl, by omega⟩
  | 1, q, h => by cases h; exact ⟨lg_in cW1, ⟨cY1, cY1_ok⟩, cN1, rfl, by omega⟩
  | 2, q, h => by cases h; exact ⟨lg_in cW2, ⟨cY2, cY2_ok⟩, cN2, rfl, by omega⟩
  | 3, q, h => by cases h; exact ⟨lg_in cW3, ⟨cY3, cY3_ok⟩, cN3, rfl, by omega⟩
  | 4, q, h => by cases h; exact ⟨lg_in cW4, ⟨cY4, cY4_ok⟩, cN4, rfl, by omega⟩
  | 5, q, h => by cases h; exact ⟨lg_in cW5, ⟨cY5, cY5_ok⟩, cN5, rfl, by omega⟩
  | 6, q, h => by cases h; exact ⟨lg_in cW6, ⟨cY6, cY6_ok⟩, cN6, rfl, by omega⟩
  | n + 7, q, h => by simp [classes] at h
