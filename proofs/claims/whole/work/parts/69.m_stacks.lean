/-! the reference: the next row, the stacks of all sections -/
def RwM (μ : Mem) (m : Nat) (x : List Nat) : Prop := ∀ i, i < x.length → μ.1 (m + 14) i = nI (x.getD i 0)
theorem swp_len (x : List Nat) (i j : Nat) : (swp x i j).length = x.length := by
  unfold swp
  rw [List.length_set, List.length_set]
theorem swp_at {x : List Nat} {i j q : Nat} (hi : i < x.length) (hj : j < x.length) : (swp x i j).getD q 0 = if q = j then x.getD i 0 else if q = i then x.getD j 0 else x.getD q 0 := by
  unfold swp
  rw [List.getD_eq_getElem?_getD, List.getElem?_set]
  by_cases e : j = q
  · rw [if_pos e, if_pos (by rw [List.length_set]; omega), if_pos e.symm]
    rfl
  · rw [if_neg e, if_neg (Ne.symm e), List.getElem?_set]
    by_cases e2 : i = q
    · rw [if_pos e2, if_pos hi, if_pos e2.symm]
      rfl
    · rw [if_neg e2, if_neg (Ne.symm e2), ← List.getD_eq_getElem?_getD]
theorem rw_swp {μ : Mem} {m : Nat} {x : List Nat} (h : RwM μ m x) {i j : Nat} (hi : i < x.length) (hj : j < x.length) : RwM (upI (upI μ (m + 14) i (nI (x.getD j 0))) (m + 14) j (nI (x.getD i 0))) m (swp x i j) := by
  intro q hq
  rw [swp_len] at hq
  rw [swp_at hi hj]
  by_cases e : q = j
  · rw [if_pos e, e, up_at]
  · rw [if_neg e, up_n2 e]
    by_cases e2 : q = i
    · rw [if_pos e2, e2, up_at]
    · rw [if_neg e2, up_n2 e2]
      exact h q hq
theorem gd8 {x : List Nat} (hx : ∀ r ∈ x, r < 8) (i : Nat) : x.getD i 0 < 8 := by
  rw [List.getD_eq_getElem?_getD]
  cases h : x[i]? with
  | none => simp
  | some r => exact hx r (List.mem_of_getElem? h)
theorem gd8_swp {x : List Nat} (hx : ∀ i, x.getD i 0 < 8) {i j : Nat} (hi : i < x.length) (hj : j < x.length) (q : Nat) : (swp x i j).getD q 0 < 8 := by
  rw [swp_at hi hj]
  split
  · exact hx i
  · split
    · exact hx j
    · exact hx q
theorem two_pre (n : Nat) : nI (n + 1) - nI 2 = sI n := by
  cases n with
  | zero => decide
  | succ k =>
    show nI (k + 1 + 1) - nI 2 = nI k
    rw [nx_sub (by omega)]
    rfl
theorem mNextRow_ok {lay : List Nat} (hwf : wfB lay = true) (d : Nat) {μ : Mem} {m : Nat} {x : List Nat} (hR : RwM μ m x) (hl : x.length ≤ 5) (hx : ∀ i, x.getD i 0 < 8) : Rn lay d mM_nextRow [rf 16 m, vi (nI x.length)] μ (Pq fun v μ1 => FM m [m + 14] [] μ μ1 ∧ match nextP x with
    | none => v = nI 0
    | some y => v = nI 1 ∧ RwM μ1 m y) := by
  refine Rn_intro ok_M_nextRow hwf rfl (fun G hC => g_M_nextRow_0 hC ?_)
  rcases Nat.eq_zero_or_pos x.length with h0 | h0
  · have e : nextP x = none := by
      unfold nextP
      rw [h0]
      rfl
    rw [e] at hC
    rw [h0]
    refine g_M_nextRow_4 hC ⟨fun _ => ?_, fun z => absurd (by decide) z⟩
    refine g_M_nextRow_31 hC ⟨fun z => absurd z (by decide), fun _ => ⟨_, rfl, FM.rf _ _ _ _, rfl⟩⟩
  · obtain ⟨n, hn⟩ : ∃ n, x.length = n + 1 := ⟨x.length - 1, by omega⟩
    have e1 : x.length - 1 = n := by omega
    -- the tail is turned round
    have l100 : ∀ f a b (y : List Nat) (μ' : Mem), b ≤ a + f → b < x.length → y.length = x.length → (∀ i, y.getD i 0 < 8) → RwM μ' m y → FM m [m + 14] [] μ μ' → nextP x = some (rvF f a b y) → a < 10 → G 100 [rf 16 m, un, un, un, un, vi (nI b), vi (nI a), un] [] μ' := by
      intro f
      induction f with
      | zero =>
        intro a b y μ' hb hbl hyl hy hr hf hne ha
        refine g_M_nextRow_100 hC ?_
        rw [nx_le (by omega) (by omega)]
        refine ⟨fun _ => ⟨_, rfl, hf, ?_⟩, fun z => absurd (by omega) z⟩
        rw [hne]
        exact ⟨rfl, hr⟩
      | succ f ih =>
        intro a b y μ' hb hbl hyl hy hr hf hne ha
        have e : rvF (f + 1) a b y = if b ≤ a then y else rvF f (a + 1) (b - 1) (swp y a b) := rfl
        rw [e] at hne
        refine g_M_nextRow_100 hC ?_
        rw [nx_le (by omega) (by omega)]
        refine ⟨fun z => ⟨_, rfl, hf, ?_⟩, fun z => ?_⟩
        · rw [if_pos z] at hne
          rw [hne]
          exact ⟨rfl, hr⟩
        · rw [if_neg z] at hne
          obtain ⟨b', hb'⟩ : ∃ b', b = b' + 1 := ⟨b - 1, by omega⟩
          have va : vp_in (nI a) 5 := vin (by omega) (by omega)
          have vb : vp_in (nI b) 5 := vin (by omega) (by omega)
          rw [nx_cl (by omega), nx_cl (by omega), hr a (by omega), hr b (by omega), nI_add]
          refine ⟨va, vb, va, vb, ?_⟩
          have e3 : nI b + mI 0 = nI (b - 1) := by
            rw [hb', nx_dec, Nat.add_sub_cancel]
          rw [e3]
          exact ih (a + 1) (b - 1) _ _ (by omega) (by omega) (by rw [swp_len]; exact hyl) (gd8_swp hy (by omega) (by omega)) (rw_swp hr (by omega) (by omega)) ((hf.up (by simp) (by omega)).up (by simp) (by omega)) hne (by omega)
    have l41 : ∀ k, k < n → kk x n = k + 1 → ∀ c, k ≤ c → c ≤ n → jj x k c = jj x k n → G 41 [rf 16 m, vi (nI x.length), vi (nI k), vi (nI c), un, un, un, un] [] μ := by
      intro k hk hkk c
      have done : ∀ c, k ≤ c → c ≤ n → jj x k n = c → x.getD k 0 ≤ x.getD c 0 → G 41 [rf 16 m, vi (nI x.length), vi (nI k), vi (nI c), un, un, un, un] [] μ := by
        intro c hkc hcn hj hle
        have vk : vp_in (nI k) 5 := vin (by omega) (by omega)
        have vc : vp_in (nI c) 5 := vin (by omega) (by omega)
        have b1 := hx k
        have b2 := hx c
        refine g_M_nextRow_41 hC ?_
        rw [nx_cl (by omega), nx_cl (by omega), hR k (by omega), hR c (by omega), nx_le (by omega) (by omega), nI_add, nx_sub (by omega)]
        refine ⟨vc, vk, fun _ => ⟨vk, vc, vk, vc, ?_⟩, fun z => absurd hle z⟩
        refine l100 5 (k + 1) (x.length - 1) (swp x k c) _ (by omega) (by omega) (swp_len _ _ _) (gd8_swp hx (by omega) (by omega)) (rw_swp hR (by omega) (by omega)) (((FM.rf _ _ _ _).up (by simp) (by omega)).up (by simp) (by omega)) ?_ (by omega)
        unfold nextP
        rw [e1, hkk, if_neg (by omega), Nat.add_sub_cancel, hj]
      induction c with
      | zero =>
        intro hkc hcn hj
        have : k = 0 := by omega
        subst this
        exact done 0 (Nat.le_refl _) (by omega) hj.symm (Nat.le_refl _)
      | succ c ih =>
        intro hkc hcn hj
        have e : jj x k (c + 1) = if x.getD k 0 ≤ x.getD (c + 1) 0 then c + 1 else jj x k c := rfl
        rw [e] at hj
        by_cases hle : x.getD k 0 ≤ x.getD (c + 1) 0
        · rw [if_pos hle] at hj
          exact done (c + 1) hkc hcn hj.symm hle
        · rw [if_neg hle] at hj
          have hne : k ≠ c + 1 := fun w => hle (by rw [w]; exact Nat.le_refl _)
          have vk : vp_in (nI k) 5 := vin (by omega) (by omega)
          have vc : vp_in (nI (c + 1)) 5 := vin (by omega) (by omega)
          have b1 := hx k
          have b2 := hx (c + 1)
          refine g_M_nextRow_41 hC ?_
          rw [nx_cl (by omega), nx_cl (by omega), hR k (by omega), hR (c + 1) (by omega), nx_le (by omega) (by omega), nx_dec]
          exact ⟨vc, vk, fun z => absurd z hle, fun _ => ih (by omega) (by omega) hj⟩
    have l4 : ∀ c, c ≤ n → kk x c = kk x n → G 4 [rf 16 m, vi (nI x.length), vi (sI c), un, un, un, un, un] [] μ := by
      intro c
      induction c with
      | zero =>
        intro hc hk
        have e : nextP x = none := by
          unfold nextP
          rw [e1, ← hk]
          rfl
        rw [e] at hC
        refine g_M_nextRow_4 hC ⟨fun _ => ?_, fun z => absurd sI_0 z⟩
        exact g_M_nextRow_31 hC ⟨fun z => absurd z (by decide), fun _ => ⟨_, rfl, FM.rf _ _ _ _, rfl⟩⟩
      | succ c ih =>
        intro hc hk
        have e : kk x (c + 1) = if x.getD c 0 ≤ x.getD (c + 1) 0 then c + 1 else kk x c := rfl
        rw [e] at hk
        have b1 := hx c
        have b2 := hx (c + 1)
        refine g_M_nextRow_4 hC ⟨fun z => absurd z (sI_s c (by omega)), fun _ => ?_⟩
        simp (disch := omega) only [show sI (c + 1) = nI c from rfl, nI_add, nx_cl, hR c (by omega), hR (c + 1) (by omega), nx_le, sI_next]
        refine ⟨vin (by omega) (by omega), vin (by omega) (by omega), fun z => ?_, fun z => ?_⟩
        · rw [if_pos z] at hk
          refine g_M_nextRow_31 hC ⟨fun _ => ?_, fun w => ?_⟩
          · rw [nx_sub (by omega), e1]
            exact l41 c (by omega) hk.symm n (by omega) (Nat.le_refl _) rfl
          · rw [nx_0, nx_le (by omega) (by omega)] at w
            omega
        · rw [if_neg z] at hk
          exact ih (by omega) hk
    have := l4 n (Nat.le_refl _) rfl
    rw [← two_pre, ← hn] at this
    exact this
theorem rkT_at {T : TS} {r : Nat} (hr : r < T.1.length) : rkT T false r = T.2.2.getD (kd T.1 r) 0 := by
  unfold rkT
  rw [if_neg (by simp), if_pos hr]
theorem mMay_ok {lay : List Nat} (hwf : wfB lay = true) (d : Nat) {μ : Mem} {m : Nat} {T : TS} (hT : MTe μ m T) (hw : WT T) {x : List Nat} (hR : RwM μ m x) (hl : x.length ≤ 5) (hx : ∀ i, i < x.length → x.getD i 0 < T.1.length) (fr : Bool) : Rn lay d mM_mayStack [rf 16 m, vi (nI x.length), vi (nI (if fr = true then 1 else 0))] μ (Pv (bI (msU (rkT T fr) x x.length = true)) μ) := by
  have hn := hw.1.1
  refine Rn_intro ok_M_mayStack hwf rfl (fun G hC => g_M_mayStack_0 hC ?_)
  have loop : ∀ k i, i + k = (if x.length = 0 then 1 else x.length) → 1 ≤ i → (i ≤ x.length ∨ x.length = 0) → G 5 [rf 16 m, vi (nI x.length), vi (nI (if fr = true then 1 else 0)), vi (bI (msU (rkT T fr) x i = true)), vi (nI i)] [] μ := by
    intro k
    induction k with
    | zero =>
      intro i hi h1 h2
      refine g_M_mayStack_5 hC ?_
      rw [nx_le (by omega) (by split at hi <;> omega)]
      refine ⟨fun _ => ⟨bI_01 _, pv_e ?_⟩, fun z => absurd (by split at hi <;> omega) z⟩
      by_cases h0 : x.length = 0
      · rw [if_pos h0] at hi
        have : i = 1 := by omega
        rw [h0, this]
        rfl
      · rw [if_neg h0] at hi
        rw [show i = x.length by omega]
    | succ k ih =>
      intro i hi h1 h2
      have h0 : ¬ x.length = 0 := fun z => by rw [if_pos z] at hi; omega
      rw [if_neg h0] at hi ih
      have ih := ih (i + 1) (by omega) (by omega) (Or.inl (by omega))
      have e : msU (rkT T fr) x (i + 1) = (msU (rkT T fr) x i && decide (i = 0 ∨ rkT T fr (x.getD (i - 1) 0) ≤ rkT T fr (x.getD i 0))) := rfl
      rw [e] at ih
      refine g_M_mayStack_5 hC ?_
      rw [nx_le (by omega) (by omega), bI_eq0, nI_add]
      refine ⟨fun z => absurd z (by omega), fun _ => ⟨fun z => ?_, fun z => ?_⟩⟩
      · have z2 : msU (rkT T fr) x i = false := by simpa using z
        rw [z2, Bool.false_and, bI_f (by simp)] at ih
        exact ih
      · have z := Classical.not_not.mp z
        rw [z, Bool.true_and] at ih
        cases fr with
        | true =>
          refine ⟨fun _ => ?_, fun w => absurd w (by decide)⟩
          rw [bI_t (decide_eq_true (show i = 0 ∨ rkT T true (x.getD (i - 1) 0) ≤ rkT T true (x.getD i 0) from Or.inr (Nat.le_refl 0)))] at ih
          exact ih
        | false =>
          refine ⟨fun w => absurd (by decide) w, fun _ => ?_⟩
          have x1 := hx (i - 1) (by omega)
          have x2 := hx i (by omega)
          rw [rkT_at x1, rkT_at x2] at ih
          obtain ⟨k1, _⟩ := hw.1.at x1
          obtain ⟨k2, _⟩ := hw.1.at x2
          have r1 := hw.rk (kd T.1 (x.getD (i - 1) 0))
          have r2 := hw.rk (kd T.1 (x.getD i 0))
          rw [nx_sub (by omega), nx_cl (by omega), nx_cl (by omega), hR (i - 1) (by omega), hR i (by omega), nx_cl (by omega), nx_cl (by omega), (hT.2.2.1 _ x1).1, (hT.2.2.1 _ x2).1, nx_cl (by omega), nx_cl (by omega), hT.2.2.2 _ k1, hT.2.2.2 _ k2, nx_lt (by omega) (by omega)]
          refine ⟨vin (by omega) (by omega), vin (by omega) (by omega), vin (by omega) (by omega), vin (by omega) (by omega), vin (by omega) (by omega), vin (by omega) (by omega), fun w => ?_, fun w => ?_⟩
          · rw [bI_f (fun y => by have := (of_decide_eq_true y).resolve_left (by omega); omega)] at ih
            exact ih
          · rw [bI_t (decide_eq_true (Or.inr (by omega)))] at ih
            exact ih
  have := loop ((if x.length = 0 then 1 else x.length) - 1) 1 (by split <;> omega) (by omega) (by omega)
  have e : msU (rkT T fr) x 1 = true := rfl
  rw [e, bI_t rfl] at this
  exact this
/-- a stack as the reference has it: a number to the base of eight -/
def cd8 (x : List Nat) : Nat := x.foldl (fun a r => 8 * a + r) 0
def cdU (x : List Nat) : Nat → Nat
  | 0 => 0
  | i + 1 => 8 * cdU x i + x.getD i 0
theorem cdU_f (x : List Nat) : ∀ i, i ≤ x.length → cdU x i = cd8 (x.take i)
  | 0, _ => rfl
  | i + 1, h => by
    have e : x.take (i + 1) = x.take i ++ [x.getD i 0] := by
      rw [List.take_add_one, gd_in (by omega)]
      rfl
    rw [e]
    unfold cd8
    rw [List.foldl_append]
    show 8 * cdU x i + x.getD i 0 = 8 * _ + x.getD i 0
    rw [cdU_f x i (by omega)]
    rfl
theorem cdU_lt {x : List Nat} (hx : ∀ i, x.getD i 0 < 8) : ∀ i, cdU x i < 8 ^ i
  | 0 => by simp [cdU]
  | i + 1 => by
    have := cdU_lt hx i
    have := hx i
    show 8 * cdU x i + x.getD i 0 < 8 ^ (i + 1)
    rw [Nat.pow_succ]
    omega
def SkM (μ : Mem) (m s : Nat) (xs : List (List Nat)) : Prop := μ.1 (m + 9) s = nI xs.length ∧ ∀ i, i < xs.length → μ.1 (m + 10) (120 * s + i) = nI (cd8 (xs.getD i []))
/-- the ranges of c below i, rising -/
def btU (c i : Nat) : List Nat := (List.range i).filter (fun j => c.testBit j)
theorem btU_s (c i : Nat) : btU c (i + 1) = if c.testBit i = true then btU c i ++ [i] else btU c i := by
  unfold btU
  rw [List.range_succ, List.filter_append, List.filter_cons]
  by_cases h : c.testBit i = true
  · rw [if_pos h, if_pos h]
    rfl
  · rw [if_neg h, if_neg h]
    exact List.append_nil _
theorem btU_all {c n : Nat} (hn : n ≤ 8) (h : ∀ j, j < 8 → c.testBit j = true → j < n) : btU c n = bts c := by
  unfold btU bts
  obtain ⟨l, hl⟩ := range_le hn
  have hl2 : ∀ j ∈ l, c.testBit j = false := by
    intro j hj
    have hm : j ∈ List.range 8 := by rw [hl]; exact List.mem_append_right _ hj
    have h8 := List.mem_range.mp hm
    cases hb : c.testBit j with
    | false => rfl
    | true =>
      have hjn := h j h8 hb
      have hnd : (List.range 8).Nodup := List.nodup_range
      rw [hl] at hnd
      have := (List.nodup_append.mp hnd).2.2 j (List.mem_range.mpr hjn) j hj
      exact absurd rfl this
  rw [hl, List.filter_append]
  have : l.filter (fun j => c.testBit j) = [] := by
    rw [List.filter_eq_nil_iff]
    intro a ha
    rw [hl2 a ha]
    simp
  rw [this, List.append_nil]
theorem btU_len (c i : Nat) : (btU c i).length = popU c i := (popU_f c i).symm
