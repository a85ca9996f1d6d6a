/-! A small machine over the class' own cells. A value is an int, a long, or a reference: its kind and the number of its cell. Cells are numbered as they are made; a memory gives the int (or long) at each place of each cell. References never change: an object's cells lie at fixed distances behind it. -/
abbrev TV : Type := Int32 ⊕ (Int64 ⊕ (Nat × Nat))
abbrev vi (x : Int32) : TV := .inl x
abbrev vl (x : Int64) : TV := .inr (.inl x)
abbrev rf (τ id : Nat) : TV := .inr (.inr (τ, id))
abbrev un : TV := .inr (.inr (0, 0))
abbrev Mem : Type := (Nat → Nat → Int32) × (Nat → Nat → Int64)
def upI (μ : Mem) (a k : Nat) (v : Int32) : Mem := (fun b j => if b = a ∧ j = k then v else μ.1 b j, μ.2)
def upL (μ : Mem) (a k : Nat) (v : Int64) : Mem := (μ.1, fun b j => if b = a ∧ j = k then v else μ.2 b j)
def mI (n : Nat) : Int32 := Int32.ofInt (.negSucc n)
def cI : Int → Int32
  | .ofNat n => nI n
  | .negSucc n => mI n
def cL : Int → Int64
  | .ofNat n => lN n
  | .negSucc n => Int64.ofInt (.negSucc n)
theorem cI_eq (a : Int) : Int32.ofInt a = cI a := by
  cases a with
  | ofNat n => exact (Int32.ofInt_eq_ofNat).trans rfl
  | negSucc n => rfl
def lk1 : List INS → Nat → INS
  | [], _ => nO
  | x :: _, 0 => x
  | _ :: l, n + 1 => lk1 l n
def lk0 : List (List INS) → Nat → List INS
  | [], _ => []
  | x :: _, 0 => x
  | _ :: l, n + 1 => lk0 l n
def lk (t : List (List INS)) (pc : Nat) : INS := lk1 (lk0 t (pc / 16)) (pc % 16)
def fkt (ci k : Nat) : Nat × Nat := (clsF.getD ci []).getD k (0, 0)
def mdA (M : Nat) : MDT := mdL.getD M (⟨"", "", ""⟩, ⟨#[]⟩, 0, none, [], 0)
abbrev mNm (M : Nat) : MethodName := (mdA M).1
abbrev mBy (M : Nat) : ByteArray := (mdA M).2.1
abbrev mMx (M : Nat) : Nat := (mdA M).2.2.1
abbrev mRt (M : Nat) : Option FieldType := (mdA M).2.2.2.1
abbrev mTb (M : Nat) : List (List INS) := (mdA M).2.2.2.2.1
/-- the locals with one more written: a long that reaches into the place is forgotten -/
def isL : TV → Bool
  | .inr (.inl _) => true
  | _ => false
def sto (ls : List TV) (i : Nat) (v : TV) : List TV :=
  match i with
  | 0 => ls.set 0 v
  | j + 1 => (match ls[j]? with | some w => if isL w then ls.set j un else ls | none => ls).set (j + 1) v
def ibin : Nat → Int32 → Int32 → Int32
  | 0, x, y => x + y
  | 1, x, y => x - y
  | 2, x, y => x * y
  | 3, x, y => x &&& y
  | 4, x, y => x ||| y
  | 5, x, y => x ^^^ y
  | 6, x, y => x <<< (y &&& 31)
  | 7, x, y => x >>> (y &&& 31)
  | _, x, y => (x.toUInt32 >>> (y.toUInt32 &&& Int32.toUInt32 31)).toInt32
def lbin : Nat → Int64 → Int64 → Int64
  | 0, x, y => x + y
  | 1, x, y => x - y
  | _, x, y => x * y
def tcat : TV → Nat
  | .inr (.inl _) => 2
  | _ => 1
/-- the frame's place goes on: to where, with which locals, stack, memory -/
abbrev KT : Type := Nat → List TV → List TV → Mem → Prop
/-- a call's contract, by its method's number -/
abbrev PT : Type := Option TV → Mem → Prop
abbrev CT : Type := Nat → List TV → Mem → PT → Prop
def s_load (want : TV → Bool) (pc k len : Nat) (ls st : List TV) (μ : Mem) (K : KT) : Prop :=
  match ls[k]? with
  | some v => match want v with
    | true => K (pc + len) ls (v :: st) μ
    | false => False
  | none => False
def wI : TV → Bool
  | .inl _ => true
  | _ => false
def wA : TV → Bool
  | .inr (.inr (0, _)) => false
  | .inr (.inr (_ + 1, _)) => true
  | _ => false
def s_store (want : TV → Bool) (pc k len : Nat) (ls st : List TV) (μ : Mem) (K : KT) : Prop :=
  match st with
  | v :: st => match want v with
    | true => K (pc + len) (sto ls k v) st μ
    | false => False
  | [] => False
def s_lstore (pc k len : Nat) (ls st : List TV) (μ : Mem) (K : KT) : Prop :=
  match st with
  | .inr (.inl x) :: st => K (pc + len) ((sto ls k (vl x)).set (k + 1) un) st μ
  | _ => False
def s_iinc (a : Int) (pc k : Nat) (ls st : List TV) (μ : Mem) (K : KT) : Prop :=
  match ls[k]? with
  | some (.inl x) => K (pc + 3) (sto ls k (vi (x + cI a))) st μ
  | _ => False
def s_ibin (b pc : Nat) (ls st : List TV) (μ : Mem) (K : KT) : Prop :=
  match st with
  | .inl y :: .inl x :: st => K (pc + 1) ls (vi (ibin b x y) :: st) μ
  | _ => False
def s_idr (b pc : Nat) (ls st : List TV) (μ : Mem) (K : KT) : Prop :=
  match st with
  | .inl y :: .inl x :: st => ¬ y = 0 ∧ K (pc + 1) ls (vi (match b with | 0 => x / y | _ => x - x / y * y) :: st) μ
  | _ => False
def s_lbin (b pc : Nat) (ls st : List TV) (μ : Mem) (K : KT) : Prop :=
  match st with
  | .inr (.inl y) :: .inr (.inl x) :: st => K (pc + 1) ls (vl (lbin b x y) :: st) μ
  | _ => False
def s_ldr (b pc : Nat) (ls st : List TV) (μ : Mem) (K : KT) : Prop :=
  match st with
  | .inr (.inl y) :: .inr (.inl x) :: st => ¬ y = 0 ∧ K (pc + 1) ls (vl (match b with | 0 => x / y | _ => x - x / y * y) :: st) μ
  | _ => False
def s_i2l (pc : Nat) (ls st : List TV) (μ : Mem) (K : KT) : Prop :=
  match st with
  | .inl x :: st => K (pc + 1) ls (vl x.toInt64 :: st) μ
  | _ => False
def s_l2i (pc : Nat) (ls st : List TV) (μ : Mem) (K : KT) : Prop :=
  match st with
  | .inr (.inl x) :: st => K (pc + 1) ls (vi x.toInt32 :: st) μ
  | _ => False
def s_lcmp (pc : Nat) (ls st : List TV) (μ : Mem) (K : KT) : Prop :=
  match st with
  | .inr (.inl y) :: .inr (.inl x) :: st => K (pc + 1) ls (vi (lg_cmp x y) :: st) μ
  | _ => False
def s_dup (pc : Nat) (ls st : List TV) (μ : Mem) (K : KT) : Prop :=
  match st with
  | v :: st => match isL v with
    | true => False
    | false => K (pc + 1) ls (v :: v :: st) μ
  | _ => False
def s_dup2 (pc : Nat) (ls st : List TV) (μ : Mem) (K : KT) : Prop :=
  match st with
  | v :: w :: st => match isL v || isL w with
    | true => False
    | false => K (pc + 1) ls (v :: w :: v :: w :: st) μ
  | _ => False
def s_pop (pc : Nat) (ls st : List TV) (μ : Mem) (K : KT) : Prop :=
  match st with
  | v :: st => match isL v with
    | true => False
    | false => K (pc + 1) ls st μ
  | _ => False
def s_br (c : Nat) (x y : Int32) (kt kf : Prop) : Prop :=
  match c with
  | 0 => (x = y → kt) ∧ (¬ x = y → kf)
  | 1 => (¬ x = y → kt) ∧ (x = y → kf)
  | 2 => (x < y → kt) ∧ (¬ x < y → kf)
  | 3 => (y ≤ x → kt) ∧ (¬ y ≤ x → kf)
  | 4 => (y < x → kt) ∧ (¬ y < x → kf)
  | 5 => (x ≤ y → kt) ∧ (¬ x ≤ y → kf)
  | _ => False
def s_if (c tgt pc : Nat) (ls st : List TV) (μ : Mem) (K : KT) : Prop :=
  match st with
  | .inl x :: st => s_br c x 0 (K tgt ls st μ) (K (pc + 3) ls st μ)
  | _ => False
def s_icmp (c tgt pc : Nat) (ls st : List TV) (μ : Mem) (K : KT) : Prop :=
  match st with
  | .inl y :: .inl x :: st => s_br c x y (K tgt ls st μ) (K (pc + 3) ls st μ)
  | _ => False
def s_sw (x : Int32) (dflt : Prop) (K : Nat → Prop) : Int → List Nat → Prop
  | _, [] => dflt
  | lo, t :: ts => (x = cI lo → K t) ∧ (¬ x = cI lo → s_sw x dflt K (lo + 1) ts)
def s_switch (lo : Int) (dflt : Nat) (ts : List Nat) (ls st : List TV) (μ : Mem) (K : KT) : Prop :=
  match st with
  | .inl x :: st => s_sw x (K dflt ls st μ) (fun t => K t ls st μ) lo ts
  | _ => False
def s_get (ci k pc : Nat) (ls st : List TV) (μ : Mem) (K : KT) : Prop :=
  match st with
  | .inr (.inr (τ, id)) :: st => match τ == ci + 10, fkt ci k with
    | true, (0, _) => K (pc + 3) ls (vi (μ.1 id k) :: st) μ
    | true, (1, _) => K (pc + 3) ls (vi (μ.1 id k) :: st) μ
    | true, (t + 2, off) => K (pc + 3) ls (rf (t + 2) (id + off) :: st) μ
    | false, _ => False
  | _ => False
def s_put (ci k pc : Nat) (ls st : List TV) (μ : Mem) (K : KT) : Prop :=
  match st with
  | .inl v :: .inr (.inr (τ, id)) :: st => match τ == ci + 10, fkt ci k with
    | true, (0, _) => K (pc + 3) ls st (upI μ id k v)
    | true, (1, _) => (v = 0 ∨ v = 1) ∧ K (pc + 3) ls st (upI μ id k v)
    | _, _ => False
  | _ => False
def isIA (τ : Nat) : Bool := Nat.ble 10000 τ && Nat.ble τ 19999
def isLA (τ : Nat) : Bool := Nat.ble 20000 τ
def s_iald (pc : Nat) (ls st : List TV) (μ : Mem) (K : KT) : Prop :=
  match st with
  | .inl i :: .inr (.inr (τ, id)) :: st => match isIA τ with
    | true => vp_in i (τ - 10000) ∧ K (pc + 1) ls (vi (μ.1 id i.toNatClampNeg) :: st) μ
    | false => False
  | _ => False
def s_iast (pc : Nat) (ls st : List TV) (μ : Mem) (K : KT) : Prop :=
  match st with
  | .inl v :: .inl i :: .inr (.inr (τ, id)) :: st => match isIA τ with
    | true => vp_in i (τ - 10000) ∧ K (pc + 1) ls st (upI μ id i.toNatClampNeg v)
    | false => False
  | _ => False
def s_lald (pc : Nat) (ls st : List TV) (μ : Mem) (K : KT) : Prop :=
  match st with
  | .inl i :: .inr (.inr (τ, id)) :: st => match isLA τ with
    | true => vp_in i (τ - 20000) ∧ K (pc + 1) ls (vl (μ.2 id i.toNatClampNeg) :: st) μ
    | false => False
  | _ => False
def s_last (pc : Nat) (ls st : List TV) (μ : Mem) (K : KT) : Prop :=
  match st with
  | .inr (.inl v) :: .inl i :: .inr (.inr (τ, id)) :: st => match isLA τ with
    | true => vp_in i (τ - 20000) ∧ K (pc + 1) ls st (upL μ id i.toNatClampNeg v)
    | false => False
  | _ => False
/-- arrays of references: how many, the kind of each, how far apart -/
def rarr (τ : Nat) : Option (Nat × Nat × Nat) := match τ with
  | 30 => some (12, 13, 5)
  | 31 => some (15, 10120, 1)
  | 32 => some (2, 10120, 1)
  | _ => none
def s_aald (pc : Nat) (ls st : List TV) (μ : Mem) (K : KT) : Prop :=
  match st with
  | .inl i :: .inr (.inr (τ, id)) :: st => match rarr τ with
    | some (n, t, g) => vp_in i n ∧ K (pc + 1) ls (rf t (id + 1 + g * i.toNatClampNeg) :: st) μ
    | none => False
  | _ => False
def s_alen (pc : Nat) (ls st : List TV) (μ : Mem) (K : KT) : Prop :=
  match st with
  | .inr (.inr (τ, _)) :: st => match isIA τ with
    | true => K (pc + 1) ls (vi (nI (τ - 10000)) :: st) μ
    | false => False
  | _ => False
def s_iret (z : Nat) (st : List TV) (μ : Mem) (P : PT) : Prop :=
  match st with
  | [.inl v] => match z with
    | 0 => P (some (vi v)) μ
    | _ => (v = 0 ∨ v = 1) ∧ P (some (vi v)) μ
  | _ => False
def s_lret (st : List TV) (μ : Mem) (P : PT) : Prop :=
  match st with
  | [.inr (.inl v)] => P (some (vl v)) μ
  | _ => False
def s_ret (st : List TV) (μ : Mem) (P : PT) : Prop :=
  match st with
  | [] => P none μ
  | _ => False
def s_call (C : CT) (M n rk pc : Nat) (ls st : List TV) (μ : Mem) (K : KT) : Prop :=
  match Nat.ble n st.length && Nat.ble ((st.drop n).map tcat).sum 8 with
  | false => False
  | true => match rk with
    | 0 => ∃ P : PT, C M (st.take n).reverse μ P ∧ ∀ μ1 : Mem, P none μ1 → K (pc + 3) ls (st.drop n) μ1
    | 1 => ∃ P : PT, C M (st.take n).reverse μ P ∧ ∀ (x : Int32) (μ1 : Mem), P (some (vi x)) μ1 → K (pc + 3) ls (vi x :: st.drop n) μ1
    | _ => ∃ P : PT, C M (st.take n).reverse μ P ∧ ∀ (x : Int64) (μ1 : Mem), P (some (vl x)) μ1 → K (pc + 3) ls (vl x :: st.drop n) μ1
def s_callV (C : CT) (M n rk ci pc : Nat) (ls st : List TV) (μ : Mem) (K : KT) : Prop :=
  match st[n]? with
  | some (.inr (.inr (τ, _))) => match τ == ci + 10 with
    | true => s_call C M (n + 1) rk pc ls st μ K
    | false => False
  | _ => False
def s_math (b pc : Nat) (ls st : List TV) (μ : Mem) (K : KT) : Prop :=
  match st with
  | .inl y :: .inl x :: st => match Nat.ble ((st.map tcat).sum) 8 with
    | true => K (pc + 3) ls (vi (match b with | 0 => if x < y then y else x | _ => if y < x then y else x) :: st) μ
    | false => False
  | _ => False
def ln12 (v : Nat) : Nat := match v with | 0 => 1 | _ => 2
/-- one instruction -/
def stpE (C : CT) (e : INS) (P : PT) (pc : Nat) (ls st : List TV) (μ : Mem) (K : KT) : Prop :=
  match e with
  | (0, a, [len, _, _, _]) => K (pc + len) ls (vi (cI a) :: st) μ
  | (1, a, [len, _, _, _]) => K (pc + len) ls (vl (cL a) :: st) μ
  | (2, _, [k, v]) => s_load wI pc k (ln12 v) ls st μ K
  | (3, _, [k, v]) => s_load isL pc k (ln12 v) ls st μ K
  | (4, _, [k, v]) => s_load wA pc k (ln12 v) ls st μ K
  | (5, _, [k, v]) => s_store wI pc k (ln12 v) ls st μ K
  | (6, _, [k, v]) => s_lstore pc k (ln12 v) ls st μ K
  | (7, _, [k, v]) => s_store wA pc k (ln12 v) ls st μ K
  | (8, a, [k]) => s_iinc a pc k ls st μ K
  | (9, _, [b]) => s_ibin b pc ls st μ K
  | (10, _, [b]) => s_idr b pc ls st μ K
  | (11, _, [b]) => s_lbin b pc ls st μ K
  | (12, _, [b]) => s_ldr b pc ls st μ K
  | (13, _, _) => s_i2l pc ls st μ K
  | (14, _, _) => s_l2i pc ls st μ K
  | (15, _, _) => s_lcmp pc ls st μ K
  | (16, _, _) => s_dup pc ls st μ K
  | (17, _, _) => s_dup2 pc ls st μ K
  | (18, _, _) => s_pop pc ls st μ K
  | (19, _, [t]) => K t ls st μ
  | (20, _, [c, t]) => s_if c t pc ls st μ K
  | (21, _, [c, t]) => s_icmp c t pc ls st μ K
  | (22, lo, _ :: d :: ts) => s_switch lo d ts ls st μ K
  | (23, _, [_, ci, k, _]) => s_get ci k pc ls st μ K
  | (24, _, [_, ci, k, _]) => s_put ci k pc ls st μ K
  | (25, _, _) => s_iald pc ls st μ K
  | (26, _, _) => s_iast pc ls st μ K
  | (27, _, _) => s_lald pc ls st μ K
  | (28, _, _) => s_last pc ls st μ K
  | (29, _, _) => s_aald pc ls st μ K
  | (30, _, _) => s_alen pc ls st μ K
  | (31, _, [z]) => s_iret z st μ P
  | (32, _, _) => s_lret st μ P
  | (33, _, _) => s_ret st μ P
  | (34, _, [_, M, n, rk, ci, _, _, _, _, _]) => s_callV C M n rk ci pc ls st μ K
  | (35, _, [_, M, n, rk, _, _, _, _, _, _]) => s_call C M n rk pc ls st μ K
  | (36, _, _ :: b :: _) => s_math b pc ls st μ K
  | _ => False
