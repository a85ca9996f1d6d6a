/-! the row that comes next: all rows of a set, rising, are its stacks with all ranks alike -/
def kk (x : List Nat) : Nat → Nat
  | 0 => 0
  | i + 1 => if x.getD i 0 ≤ x.getD (i + 1) 0 then i + 1 else kk x i
def jj (x : List Nat) (k : Nat) : Nat → Nat
  | 0 => 0
  | i + 1 => if x.getD k 0 ≤ x.getD (i + 1) 0 then i + 1 else jj x k i
def swp (x : List Nat) (i j : Nat) : List Nat := (x.set i (x.getD j 0)).set j (x.getD i 0)
def rvF : Nat → Nat → Nat → List Nat → List Nat
  | 0, _, _, x => x
  | f + 1, a, b, x => if b ≤ a then x else rvF f (a + 1) (b - 1) (swp x a b)
def nextP (x : List Nat) : Option (List Nat) := if kk x (x.length - 1) = 0 then none else some (rvF 5 (kk x (x.length - 1)) (x.length - 1) (swp x (kk x (x.length - 1) - 1) (jj x (kk x (x.length - 1) - 1) (x.length - 1))))
def chn : List (List Nat) → Bool
  | [] => true
  | x :: l => match l with
    | [] => decide (nextP x = none)
    | y :: _ => decide (nextP x = some y) && chn l
def rk00 : Nat → Nat := fun _ => 0
def chP (c : Nat) : Prop := popN c ≤ 5 → (stk rk00 c).head? = some (bts c) ∧ chn (stk rk00 c) = true
theorem ch_0 : ∀ i, i < 8 → (popN (0 + i) ≤ 5 → (stk rk00 (0 + i)).head? = some (bts (0 + i)) ∧ chn (stk rk00 (0 + i)) = true) := by decide +kernel
theorem ch_1 : ∀ i, i < 8 → (popN (8 + i) ≤ 5 → (stk rk00 (8 + i)).head? = some (bts (8 + i)) ∧ chn (stk rk00 (8 + i)) = true) := by decide +kernel
theorem ch_2 : ∀ i, i < 8 → (popN (16 + i) ≤ 5 → (stk rk00 (16 + i)).head? = some (bts (16 + i)) ∧ chn (stk rk00 (16 + i)) = true) := by decide +kernel
theorem ch_3 : ∀ i, i < 8 → (popN (24 + i) ≤ 5 → (stk rk00 (24 + i)).head? = some (bts (24 + i)) ∧ chn (stk rk00 (24 + i)) = true) := by decide +kernel
theorem ch_4 : ∀ i, i < 8 → (popN (32 + i) ≤ 5 → (stk rk00 (32 + i)).head? = some (bts (32 + i)) ∧ chn (stk rk00 (32 + i)) = true) := by decide +kernel
theorem ch_5 : ∀ i, i < 8 → (popN (40 + i) ≤ 5 → (stk rk00 (40 + i)).head? = some (bts (40 + i)) ∧ chn (stk rk00 (40 + i)) = true) := by decide +kernel
theorem ch_6 : ∀ i, i < 8 → (popN (48 + i) ≤ 5 → (stk rk00 (48 + i)).head? = some (bts (48 + i)) ∧ chn (stk rk00 (48 + i)) = true) := by decide +kernel
theorem ch_7 : ∀ i, i < 8 → (popN (56 + i) ≤ 5 → (stk rk00 (56 + i)).head? = some (bts (56 + i)) ∧ chn (stk rk00 (56 + i)) = true) := by decide +kernel
theorem ch_8 : ∀ i, i < 8 → (popN (64 + i) ≤ 5 → (stk rk00 (64 + i)).head? = some (bts (64 + i)) ∧ chn (stk rk00 (64 + i)) = true) := by decide +kernel
theorem ch_9 : ∀ i, i < 8 → (popN (72 + i) ≤ 5 → (stk rk00 (72 + i)).head? = some (bts (72 + i)) ∧ chn (stk rk00 (72 + i)) = true) := by decide +kernel
theorem ch_10 : ∀ i, i < 8 → (popN (80 + i) ≤ 5 → (stk rk00 (80 + i)).head? = some (bts (80 + i)) ∧ chn (stk rk00 (80 + i)) = true) := by decide +kernel
theorem ch_11 : ∀ i, i < 8 → (popN (88 + i) ≤ 5 → (stk rk00 (88 + i)).head? = some (bts (88 + i)) ∧ chn (stk rk00 (88 + i)) = true) := by decide +kernel
theorem ch_12 : ∀ i, i < 8 → (popN (96 + i) ≤ 5 → (stk rk00 (96 + i)).head? = some (bts (96 + i)) ∧ chn (stk rk00 (96 + i)) = true) := by decide +kernel
theorem ch_13 : ∀ i, i < 8 → (popN (104 + i) ≤ 5 → (stk rk00 (104 + i)).head? = some (bts (104 + i)) ∧ chn (stk rk00 (104 + i)) = true) := by decide +kernel
theorem ch_14 : ∀ i, i < 8 → (popN (112 + i) ≤ 5 → (stk rk00 (112 + i)).head? = some (bts (112 + i)) ∧ chn (stk rk00 (112 + i)) = true) := by decide +kernel
theorem ch_15 : ∀ i, i < 8 → (popN (120 + i) ≤ 5 → (stk rk00 (120 + i)).head? = some (bts (120 + i)) ∧ chn (stk rk00 (120 + i)) = true) := by decide +kernel
theorem ch_16 : ∀ i, i < 8 → (popN (128 + i) ≤ 5 → (stk rk00 (128 + i)).head? = some (bts (128 + i)) ∧ chn (stk rk00 (128 + i)) = true) := by decide +kernel
theorem ch_17 : ∀ i, i < 8 → (popN (136 + i) ≤ 5 → (stk rk00 (136 + i)).head? = some (bts (136 + i)) ∧ chn (stk rk00 (136 + i)) = true) := by decide +kernel
theorem ch_18 : ∀ i, i < 8 → (popN (144 + i) ≤ 5 → (stk rk00 (144 + i)).head? = some (bts (144 + i)) ∧ chn (stk rk00 (144 + i)) = true) := by decide +kernel
theorem ch_19 : ∀ i, i < 8 → (popN (152 + i) ≤ 5 → (stk rk00 (152 + i)).head? = some (bts (152 + i)) ∧ chn (stk rk00 (152 + i)) = true) := by decide +kernel
theorem ch_20 : ∀ i, i < 8 → (popN (160 + i) ≤ 5 → (stk rk00 (160 + i)).head? = some (bts (160 + i)) ∧ chn (stk rk00 (160 + i)) = true) := by decide +kernel
theorem ch_21 : ∀ i, i < 8 → (popN (168 + i) ≤ 5 → (stk rk00 (168 + i)).head? = some (bts (168 + i)) ∧ chn (stk rk00 (168 + i)) = true) := by decide +kernel
theorem ch_22 : ∀ i, i < 8 → (popN (176 + i) ≤ 5 → (stk rk00 (176 + i)).head? = some (bts (176 + i)) ∧ chn (stk rk00 (176 + i)) = true) := by decide +kernel
theorem ch_23 : ∀ i, i < 8 → (popN (184 + i) ≤ 5 → (stk rk00 (184 + i)).head? = some (bts (184 + i)) ∧ chn (stk rk00 (184 + i)) = true) := by decide +kernel
theorem ch_24 : ∀ i, i < 8 → (popN (192 + i) ≤ 5 → (stk rk00 (192 + i)).head? = some (bts (192 + i)) ∧ chn (stk rk00 (192 + i)) = true) := by decide +kernel
theorem ch_25 : ∀ i, i < 8 → (popN (200 + i) ≤ 5 → (stk rk00 (200 + i)).head? = some (bts (200 + i)) ∧ chn (stk rk00 (200 + i)) = true) := by decide +kernel
theorem ch_26 : ∀ i, i < 8 → (popN (208 + i) ≤ 5 → (stk rk00 (208 + i)).head? = some (bts (208 + i)) ∧ chn (stk rk00 (208 + i)) = true) := by decide +kernel
theorem ch_27 : ∀ i, i < 8 → (popN (216 + i) ≤ 5 → (stk rk00 (216 + i)).head? = some (bts (216 + i)) ∧ chn (stk rk00 (216 + i)) = true) := by decide +kernel
theorem ch_28 : ∀ i, i < 8 → (popN (224 + i) ≤ 5 → (stk rk00 (224 + i)).head? = some (bts (224 + i)) ∧ chn (stk rk00 (224 + i)) = true) := by decide +kernel
theorem ch_29 : ∀ i, i < 8 → (popN (232 + i) ≤ 5 → (stk rk00 (232 + i)).head? = some (bts (232 + i)) ∧ chn (stk rk00 (232 + i)) = true) := by decide +kernel
theorem ch_30 : ∀ i, i < 8 → (popN (240 + i) ≤ 5 → (stk rk00 (240 + i)).head? = some (bts (240 + i)) ∧ chn (stk rk00 (240 + i)) = true) := by decide +kernel
theorem ch_31 : ∀ i, i < 8 → (popN (248 + i) ≤ 5 → (stk rk00 (248 + i)).head? = some (bts (248 + i)) ∧ chn (stk rk00 (248 + i)) = true) := by decide +kernel
