/-! Stack: a row of ranges as one number -/
def enc : List Nat → Nat
  | [] => 0
  | r :: l => (r + 1) + 16 * enc l
/-- the k-th of a stack, and 1; 0: it has fewer -/
def dig (l : List Nat) (k : Nat) : Nat := match l[k]? with
  | some r => r + 1
  | none => 0
def oks (l : List Nat) : Prop := l.length ≤ 5 ∧ ∀ r ∈ l, r < 8
theorem dig_le {l : List Nat} (h : ∀ r ∈ l, r < 8) (k : Nat) : dig l k ≤ 8 := by
  unfold dig
  split
  · next r hr => exact h r (List.mem_of_getElem? hr)
  · omega
theorem enc_dig : ∀ (l : List Nat) (k : Nat), (∀ r ∈ l, r < 8) → enc l / 16 ^ k % 16 = dig l k
  | [], k, _ => by simp [enc, dig]
  | r :: l, 0, h => by
    have := h r List.mem_cons_self
    simp only [enc, dig, Nat.pow_zero, Nat.div_one, List.getElem?_cons_zero]
    omega
  | r :: l, k + 1, h => by
    have hr := h r List.mem_cons_self
    have ih := enc_dig l k (fun x hx => h x (List.mem_cons_of_mem _ hx))
    rw [Nat.pow_succ, Nat.mul_comm, ← Nat.div_div_eq_div_mul]
    have e : enc (r :: l) / 16 = enc l := by simp only [enc]; omega
    rw [e, ih]
    simp [dig]
theorem enc_lt : ∀ (l : List Nat), (∀ r ∈ l, r < 8) → enc l < 16 ^ l.length
  | [], _ => by simp [enc]
  | r :: l, h => by
    have hr := h r List.mem_cons_self
    have ih := enc_lt l (fun x hx => h x (List.mem_cons_of_mem _ hx))
    simp only [enc, List.length_cons, Nat.pow_succ]
    omega
theorem enc_small {l : List Nat} (h : oks l) : enc l < 1048576 := Nat.lt_of_lt_of_le (enc_lt l h.2) (by
  have := Nat.pow_le_pow_right (show 0 < 16 by omega) h.1
  exact this)
theorem enc_app : ∀ (l : List Nat) (r : Nat), enc (l ++ [r]) = enc l + (r + 1) * 16 ^ l.length
  | [], r => by simp [enc]
  | x :: l, r => by
    simp only [List.cons_append, enc, enc_app l r, List.length_cons, Nat.pow_succ, Nat.mul_add]
    rw [show (r + 1) * (16 ^ l.length * 16) = 16 * ((r + 1) * 16 ^ l.length) by rw [← Nat.mul_assoc, Nat.mul_comm]]
    omega
/-- what 'at' answers -/
def atI (l : List Nat) (k : Nat) : Int32 := match l[k]? with
  | some r => nI r
  | none => mI 0
theorem dig_atI (l : List Nat) (k : Nat) : nI (dig l k) - nI 1 = atI l k := by
  unfold dig atI
  split
  · exact nx_sub (by omega)
  · decide
theorem shr4 : ∀ k, k < 5 → ((nI (4 * k) &&& 31).toBitVec.smod 32).toNat = 4 * k := by decide
theorem at_val {l : List Nat} (h : oks l) {k : Nat} (hk : k < 5) : ((nI (enc l) >>> ((nI 4 * nI k) &&& 31)) &&& nI 15) - nI 1 = atI l k := by
  have hs := enc_small h
  rw [pk_mul, pk_shrN (by omega) _ (4 * k) (shr4 k hk), nx_and]
  have e : enc l / 2 ^ (4 * k) &&& 15 = dig l k := by
    rw [show (15 : Nat) = 2 ^ 4 - 1 by decide, Nat.and_two_pow_sub_one_eq_mod, Nat.pow_mul, show (2 : Nat) ^ 4 = 16 by decide]
    exact enc_dig l k h.2
  rw [e, dig_atI]
theorem at_ok {lay : List Nat} (hwf : wfB lay = true) (d : Nat) {l : List Nat} (h : oks l) {k : Nat} (hk : k < 2147483648) (μ : Mem) : Rn lay d mSt_at [vi (nI (enc l)), vi (nI k)] μ (Pv (atI l k) μ) := by
  refine Rn_intro ok_St_at hwf rfl (fun G hC => g_St_at_0 hC ?_)
  rw [nx_0, nx_lt (by omega) (by omega), nx_lt (by omega) (by omega)]
  refine ⟨fun z => absurd z (by omega), fun _ => ⟨fun z => pv_e (at_val h z), fun z => pv_e ?_⟩⟩
  unfold atI
  rw [List.getElem?_eq_none (by have := h.1; omega)]
theorem shl4 : ∀ k, k < 5 → ∀ r, r < 8 → (nI (r + 1)) <<< ((nI 4 * nI k) &&& 31) = nI ((r + 1) * 16 ^ k) := by decide
theorem with_ok {lay : List Nat} (hwf : wfB lay = true) (d : Nat) {l : List Nat} (h : oks l) (hl : l.length < 5) {r : Nat} (hr : r < 8) (μ : Mem) : Rn lay d mSt_with [vi (nI (enc l)), vi (nI l.length), vi (nI r)] μ (Pv (nI (enc (l ++ [r]))) μ) := by
  refine Rn_intro ok_St_with hwf rfl (fun G hC => g_St_with_0 hC ?_)
  rw [nx_0, nx_lt (by omega) (by omega), nx_lt (by omega) (by omega), nI_add, shl4 _ hl r hr, nx_or]
  refine ⟨fun z => absurd z (by omega), fun _ => ⟨fun _ => pv_e ?_, fun z => absurd hl z⟩⟩
  congr 1
  rw [enc_app, Nat.or_comm, show (16 : Nat) ^ l.length = 2 ^ (4 * l.length) by rw [Nat.pow_mul], Nat.mul_comm (r + 1)]
  have hlt : enc l < 2 ^ (4 * l.length) := by
    rw [Nat.pow_mul]
    exact enc_lt l h.2
  rw [← Nat.two_pow_add_eq_or_of_lt hlt (r + 1), Nat.add_comm]
def alk : List Nat → List Nat → Nat
  | x :: l, y :: m => if x = y then alk l m + 1 else 0
  | _, _ => 0
theorem alk_le : ∀ (l m : List Nat), alk l m ≤ l.length ∧ alk l m ≤ m.length
  | [], m => by simp [alk]
  | x :: l, [] => by simp [alk]
  | x :: l, y :: m => by
    have := alk_le l m
    simp only [alk, List.length_cons]
    split <;> omega
theorem alk_drop : ∀ (k : Nat) (l m : List Nat), (∀ i, i < k → ∃ x, l[i]? = some x ∧ m[i]? = some x) → alk l m = k + alk (l.drop k) (m.drop k)
  | 0, l, m, _ => by simp
  | k + 1, l, m, h => by
    obtain ⟨x, h1, h2⟩ := h 0 (by omega)
    cases l with
    | nil => simp at h1
    | cons a l =>
      cases m with
      | nil => simp at h2
      | cons b m =>
        simp at h1 h2
        subst h1
        subst h2
        have := alk_drop k l m (fun i hi => by
          have := h (i + 1) (by omega)
          simpa using this)
        simp only [alk, if_true, List.drop_succ_cons]
        omega
theorem alike_ok {lay : List Nat} (hwf : wfB lay = true) (d : Nat) {l m : List Nat} (h : oks l) (h2 : oks m) (μ : Mem) : Rn lay (d + 1) mSt_alike [vi (nI (enc l)), vi (nI (enc m))] μ (Pv (nI (alk l m)) μ) := by
  refine Rn_intro ok_St_alike hwf rfl (fun G hC => g_St_alike_0 hC ?_)
  have loop : ∀ n k, k + n = 5 → (∀ i, i < k → ∃ x, l[i]? = some x ∧ m[i]? = some x) → G 2 [vi (nI (enc l)), vi (nI (enc m)), vi (nI k), un] [] μ := by
    intro n
    induction n with
    | zero =>
      intro k hk hp
      refine g_St_alike_2 hC ?_
      rw [nx_le (by omega) (by omega)]
      refine ⟨fun _ => pv_e ?_, fun z => absurd (by omega) z⟩
      have e := alk_drop k l m hp
      have := (alk_le l m).1
      have := h.1
      congr 1
      omega
    | succ n ih =>
      intro k hk hp
      have e := alk_drop k l m hp
      refine g_St_alike_2 hC ?_
      rw [nx_le (by omega) (by omega)]
      refine ⟨fun z => absurd z (by omega), fun _ => ?_⟩
      refine useV (at_ok hwf d h (by omega) μ) ?_
      unfold atI
      cases hl : l[k]? with
      | none =>
        refine ⟨fun _ => pv_e ?_, fun z => absurd rfl z⟩
        rw [List.drop_eq_nil_of_le (by simpa using hl)] at e
        simp only [alk] at e
        rw [e]
        rfl
      | some x =>
        have hx : x < 8 := h.2 x (List.mem_of_getElem? hl)
        refine ⟨fun z => absurd z.symm (mI_ne (by omega) (by omega)), fun _ => ?_⟩
        refine useV (at_ok hwf d h2 (by omega) μ) ?_
        unfold atI
        cases hm : m[k]? with
        | none =>
          refine ⟨fun z => absurd z.symm (mI_ne (by omega) (by omega)), fun _ => pv_e ?_⟩
          rw [List.drop_eq_nil_of_le (show m.length ≤ k by simpa using hm)] at e
          have : alk (l.drop k) [] = 0 := by cases l.drop k <;> rfl
          rw [e, this]
          rfl
        | some y =>
          have hy : y < 8 := h2.2 y (List.mem_of_getElem? hm)
          rw [nx_eq (by omega) (by omega), nI_add]
          refine ⟨fun z => ih (k + 1) (by omega) (fun i hi => ?_), fun z => pv_e ?_⟩
          · rcases Nat.lt_or_ge i k with q | q
            · exact hp i q
            · rw [show i = k by omega]
              exact ⟨x, hl, by rw [hm, z]⟩
          · have hl2 : l.drop k = x :: l.drop (k + 1) := by
              rw [List.drop_eq_getElem_cons (by exact (List.getElem?_eq_some_iff.mp hl).1), (List.getElem?_eq_some_iff.mp hl).2]
            have hm2 : m.drop k = y :: m.drop (k + 1) := by
              rw [List.drop_eq_getElem_cons (by exact (List.getElem?_eq_some_iff.mp hm).1), (List.getElem?_eq_some_iff.mp hm).2]
            rw [hl2, hm2] at e
            simp only [alk, if_neg z] at e
            rw [e]
            rfl
  exact loop 5 0 (by omega) (fun i hi => by omega)
