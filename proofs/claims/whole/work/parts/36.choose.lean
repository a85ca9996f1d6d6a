/-! Weights.choose, splitsOfFirst -/
def fstI (p : Nat → Bool) : Nat → Nat → Nat
  | 0, i => i
  | n + 1, i => if p i = true then i else fstI p n (i + 1)
theorem fstI_at {p : Nat → Bool} : ∀ (n i : Nat), (∃ j, i ≤ j ∧ j < i + n ∧ p j = true) → i ≤ fstI p n i ∧ fstI p n i < i + n ∧ p (fstI p n i) = true
  | 0, i, ⟨j, h1, h2, _⟩ => by omega
  | n + 1, i, ⟨j, h1, h2, h3⟩ => by
    unfold fstI
    split
    · next q => exact ⟨Nat.le_refl _, by omega, q⟩
    · next q =>
      have hj : j ≠ i := fun e => q (by rw [← e]; exact h3)
      obtain ⟨a, b, c⟩ := fstI_at (p := p) n (i + 1) ⟨j, by omega, by omega, h3⟩
      exact ⟨by omega, by omega, c⟩
theorem fstI_lt {p : Nat → Bool} : ∀ (n i j : Nat), i ≤ j → j < fstI p n i → ¬ p j = true
  | 0, i, j, h1, h2 => by simp [fstI] at h2; omega
  | n + 1, i, j, h1, h2 => by
    unfold fstI at h2
    split at h2
    · omega
    · next q =>
      by_cases e : j = i
      · rw [e]; exact q
      · exact fstI_lt n (i + 1) j (by omega) h2
def bef (pre : Option (Nat × List Nat)) (c : Nat) (x : List Nat) : Nat := match pre with
  | none => 0
  | some (c0, y) => popN (c0 &&& c) - alk y x
theorem bef_le (pre : Option (Nat × List Nat)) (c : Nat) (x : List Nat) : bef pre c x ≤ 8 := by
  rcases pre with _ | ⟨c0, y⟩
  · show 0 ≤ 8
    omega
  · have := popN_and c0 c
    show popN (c0 &&& c) - alk y x ≤ 8
    omega
def chI (rk : Nat → Nat) (c : Nat) (r : List Nat) (pre : Option (Nat × List Nat)) (left : Nat) : Nat := fstI (fun i => decide (bef pre c ((stk rk c).getD i []) + dpc rk (c :: r) i = left)) (stk rk c).length 0
def chs (rk : Nat → Nat) : List Nat → Option (Nat × List Nat) → Nat → List (List Nat)
  | [], _, _ => []
  | c :: r, pre, left => (stk rk c).getD (chI rk c r pre left) [] :: chs rk r (some (c, (stk rk c).getD (chI rk c r pre left) [])) (dpc rk (c :: r) (chI rk c r pre left))
theorem chs_len (rk : Nat → Nat) : ∀ (cv : List Nat) (pre : Option (Nat × List Nat)) (left : Nat), (chs rk cv pre left).length = cv.length
  | [], _, _ => rfl
  | c :: r, pre, left => by simp only [chs, List.length_cons, chs_len rk r]
/-- a stack of this section goes on with as few splits -/
def feas (rk : Nat → Nat) (cv : List Nat) (pre : Option (Nat × List Nat)) (left : Nat) : Prop := match cv with
  | [] => True
  | c :: r => ∃ i, i < (stk rk c).length ∧ bef pre c ((stk rk c).getD i []) + dpc rk (c :: r) i = left
def preOk (pre : Option (Nat × List Nat)) : Prop := match pre with
  | none => True
  | some (c0, y) => c0 < 256 ∧ popN c0 ≤ 5 ∧ isSt c0 y
theorem feas_step {rk : Nat → Nat} (hrk : ∀ r, r < 8 → rk r < 4) {c : Nat} {r : List Nat} (hok : okC (c :: r)) (hlen : r.length ≤ 100) {i : Nat} (hi : i < (stk rk c).length) : feas rk r (some (c, (stk rk c).getD i [])) (dpc rk (c :: r) i) := by
  cases r with
  | nil => trivial
  | cons c' r =>
    obtain ⟨c1, c2⟩ := hok.tl c' List.mem_cons_self
    obtain ⟨b1, b2⟩ := hok c List.mem_cons_self
    have hp := stk_pos hrk c1 c2
    have hm := chU_mn (cf := spF rk c c' i (dpc rk (c' :: r))) (a := 0) (stk rk c').length hp (fun j _ _ => by
      have h8 := dpc_le hrk (c' :: r) hok.tl j
      have h10 := popN_and c c'
      unfold spF
      simp only [List.length_cons] at *
      omega)
    obtain ⟨⟨j, -, j2, j3⟩, -⟩ := hm
    refine ⟨j, by omega, ?_⟩
    have hal : alk ((stk rk c).getD i []) ((stk rk c').getD j []) ≤ popN (c &&& c') := st_share (stk_st b1 (stk_get hi)) (stk_st c1 (stk_get (by omega))) (fun q hq => alk_dig q _ _ hq)
    have e : dpc rk (c :: c' :: r) i = spF rk c c' i (dpc rk (c' :: r)) j := j3.symm
    rw [e]
    unfold spF bef
    dsimp only
    omega
theorem feas_first {rk : Nat → Nat} (hrk : ∀ r, r < 8 → rk r < 4) {cv : List Nat} (hok : okC cv) (hlen : cv.length ≤ 100) : feas rk cv none (few rk cv) := by
  cases cv with
  | nil => trivial
  | cons c r =>
    obtain ⟨b1, b2⟩ := hok c List.mem_cons_self
    have hm := chU_mn (cf := dpc rk (c :: r)) (a := 0) (stk rk c).length (stk_pos hrk b1 b2) (fun j _ _ => by
      have h8 := dpc_le hrk (c :: r) hok j
      omega)
    obtain ⟨⟨j, -, j2, j3⟩, -⟩ := hm
    refine ⟨j, by omega, ?_⟩
    show 0 + dpc rk (c :: r) j = few rk (c :: r)
    rw [Nat.zero_add, j3]
    rfl
theorem chI_at {rk : Nat → Nat} {c : Nat} {r : List Nat} {pre : Option (Nat × List Nat)} {left : Nat} (h : feas rk (c :: r) pre left) : chI rk c r pre left < (stk rk c).length ∧ bef pre c ((stk rk c).getD (chI rk c r pre left) []) + dpc rk (c :: r) (chI rk c r pre left) = left := by
  obtain ⟨i, h1, h2⟩ := h
  obtain ⟨a, b, e⟩ := fstI_at (p := fun i => decide (bef pre c ((stk rk c).getD i []) + dpc rk (c :: r) i = left)) (stk rk c).length 0 ⟨i, Nat.zero_le _, by omega, decide_eq_true h2⟩
  exact ⟨by unfold chI; omega, of_decide_eq_true e⟩
/-- each of the chosen stacks is one of its section's -/
theorem chs_in {rk : Nat → Nat} (hrk : ∀ r, r < 8 → rk r < 4) : ∀ (cv : List Nat) (pre : Option (Nat × List Nat)) (left : Nat), okC cv → cv.length ≤ 100 → feas rk cv pre left → ∀ s, s < cv.length → (chs rk cv pre left).getD s [] ∈ stk rk (cv.getD s 0)
  | [], _, _, _, _, _, s, hs => by simp at hs
  | c :: r, pre, left, hok, hl, hf, s, hs => by
    obtain ⟨h1, h2⟩ := chI_at hf
    cases s with
    | zero => exact stk_get h1
    | succ s =>
      have hl2 : r.length ≤ 100 := by simp at hl; omega
      have := chs_in hrk r _ _ hok.tl hl2 (feas_step hrk hok hl2 h1) s (by simpa using hs)
      simpa [chs] using this
theorem choose_ok {lay : List Nat} (hwf : wfB lay = true) (d : Nat) {μ : Mem} {w se ch : Nat} {rk : Nat → Nat} {cs cv : List Nat} (hrk : ∀ r, r < 8 → rk r < 4) (hwe : WeAt μ w rk cv 0) (h6 : μ.1 w 6 = nI (few rk cv)) (hS : SeAt μ se cs cv) (hl : cv.length ≤ 15) (hok : okC cv) (hd1 : ch < w ∨ w + 38 ≤ ch) (hd2 : ch < se ∨ se + 4 ≤ ch) : Rn lay (d + 2) mWe_choose [rf 14 w, rf 12 se, rf 10015 ch] μ (Pn fun μ1 => (∀ s, s < cv.length → μ1.1 ch s = nI (enc ((chs rk cv none (few rk cv)).getD s []))) ∧ Fr [ch] μ μ1) := by
  refine Rn_intro ok_We_choose hwf rfl (fun G hC => g_We_choose_0 hC ?_)
  have hmin : (if nI 15 < nI cv.length then nI 15 else nI cv.length) = nI cv.length := by
    rw [if_neg (by rw [nx_lt (by omega) (by omega)]; omega)]
  rw [hS.2.1, hmin, h6]
  have loop : ∀ n s (μ' : Mem) (pre : Option (Nat × List Nat)) (left : Nat), s + n = cv.length → Fr [ch] μ μ' → (∀ q, q < s → μ'.1 ch q = nI (enc ((chs rk cv none (few rk cv)).getD q []))) → (∀ q, s + q < cv.length → (chs rk cv none (few rk cv)).getD (s + q) [] = (chs rk (cv.drop s) pre left).getD q []) → feas rk (cv.drop s) pre left → left < 1000000 → (s = 0 → pre = none) → (0 < s → ∃ y, pre = some (cv.getD (s - 1) 0, y) ∧ isSt (cv.getD (s - 1) 0) y ∧ y = (chs rk cv none (few rk cv)).getD (s - 1) []) → G 19 [rf 14 w, rf 12 se, rf 10015 ch, vi (nI left), vi (nI cv.length), vi (nI s), un, un] [] μ' := by
    intro n
    induction n with
    | zero =>
      intro s μ' pre left hn hf hdone hrest hfe hlt hp0 hp1
      refine g_We_choose_19 hC ?_
      rw [nx_le (by omega) (by omega)]
      exact ⟨fun _ => ⟨rfl, fun q hq => hdone q (by omega), hf⟩, fun z => absurd (by omega) z⟩
    | succ n ih =>
      intro s μ' pre left hn hf hdone hrest hfe hlt hp0 hp1
      have hsl : s < cv.length := by omega
      obtain ⟨b1, b2⟩ := hok.at hsl
      have hlen := stk_len (rk := rk) b1 b2
      have edrop := drop_cons hsl
      rw [edrop] at hfe
      obtain ⟨hx1, hx2⟩ := chI_at hfe
      obtain ⟨hrow, hcos⟩ := hwe s (by omega) hsl
      have eW : ∀ q, w ≤ q → q < w + 38 → μ'.1 q = μ.1 q := fun q q1 q2 => hf.1 q (by simp; omega)
      have eS : ∀ q, se ≤ q → q < se + 4 → μ'.1 q = μ.1 q := fun q q1 q2 => hf.1 q (by simp; omega)
      have hcnt : μ'.1 (w + 36) s = nI (stk rk (cv.getD s 0)).length := by rw [eW _ (by omega) (by omega)]; exact hrow.1
      have hdl : ∀ i, dpc rk (cv.drop s) i < 1000000 := fun i => by
        have := dpc_le hrk (cv.drop s) (hok.drop _) i
        have := List.length_drop (l := cv) (i := s)
        omega
      have hbef : ∀ i, bef pre (cv.getD s 0) ((stk rk (cv.getD s 0)).getD i []) ≤ 8 := fun i => bef_le _ _ _
      have to79 : ∀ i, i < (stk rk (cv.getD s 0)).length → G 79 [rf 14 w, rf 12 se, rf 10015 ch, vi (nI left), vi (nI cv.length), vi (nI s), vi (nI i), un] [vi (nI (bef pre (cv.getD s 0) ((stk rk (cv.getD s 0)).getD i [])))] μ' → G 29 [rf 14 w, rf 12 se, rf 10015 ch, vi (nI left), vi (nI cv.length), vi (nI s), vi (nI i), un] [] μ' := by
        intro i hil hg
        have hst : μ'.1 (w + 1 + 1 + 1 * s) i = nI (enc ((stk rk (cv.getD s 0)).getD i [])) := by rw [eW _ (by omega) (by omega)]; exact hrow.2 i hil
        refine g_We_choose_29 hC ?_
        rw [nx_0]
        simp (disch := omega) only [nx_cl, nx_in', hcnt, nx_le, nx_eq, hst]
        refine ⟨by omega, fun z => absurd z (by omega), fun _ => ⟨fun z => ?_, fun z => ?_⟩⟩
        · obtain ⟨y, hy1, hy2, hy3⟩ := hp1 (by omega)
          have hsh : μ'.1 (se + 3) (s - 1) = nI (popN (cv.getD (s - 1) 0 &&& cv.getD s 0)) := by
            rw [eS _ (by omega) (by omega)]
            have := hS.2.2.2 (s - 1) (by omega)
            rw [show s - 1 + 1 = s by omega] at this
            exact this
          have hch : μ'.1 ch (s - 1) = nI (enc y) := by rw [hdone (s - 1) (by omega), hy3]
          obtain ⟨d1, d2⟩ := hok.at (show s - 1 < cv.length by omega)
          have hsx := stk_st b1 (stk_get hil)
          have hal : alk y ((stk rk (cv.getD s 0)).getD i []) ≤ popN (cv.getD (s - 1) 0 &&& cv.getD s 0) := st_share hy2 hsx (fun q hq => alk_dig q _ _ hq)
          rw [nx_sub (by omega)]
          simp (disch := omega) only [nx_cl, nx_in', hsh, hch]
          refine ⟨by omega, by omega, by omega, by omega, ?_⟩
          refine useV (alike_ok hwf d (hy2.ok d2) (hsx.ok b2) μ') ?_
          rw [nx_sub hal]
          rw [hy1] at hg
          exact hg
        · rw [hp0 z] at hg
          exact hg
      -- the next section, once the stack is found
      have nxt : G 79 [rf 14 w, rf 12 se, rf 10015 ch, vi (nI left), vi (nI cv.length), vi (nI s), vi (nI (chI rk (cv.getD s 0) (cv.drop (s + 1)) pre left)), un] [vi (nI (bef pre (cv.getD s 0) ((stk rk (cv.getD s 0)).getD (chI rk (cv.getD s 0) (cv.drop (s + 1)) pre left) [])))] μ' := by
        generalize hi0 : chI rk (cv.getD s 0) (cv.drop (s + 1)) pre left = i0 at hx1 hx2
        have hco : μ'.1 (w + 17 + 1 + 1 * s) i0 = nI (dpc rk (cv.drop s) i0) := by rw [eW _ (by omega) (by omega)]; exact hcos i0 hx1
        have hst : μ'.1 (w + 1 + 1 + 1 * s) i0 = nI (enc ((stk rk (cv.getD s 0)).getD i0 [])) := by rw [eW _ (by omega) (by omega)]; exact hrow.2 i0 hx1
        rw [← edrop] at hx2
        refine g_We_choose_79 hC ?_
        have hd := hdl i0
        simp (disch := omega) only [nx_cl, nx_in', up_n1, hco, hst, nI_add, nx_eq]
        refine ⟨by omega, by omega, fun z => absurd hx2 z, fun _ => ⟨by omega, by omega, by omega, by omega, by omega, ?_⟩⟩
        have eh : (chs rk cv none (few rk cv)).getD s [] = (stk rk (cv.getD s 0)).getD i0 [] := by
          have := hrest 0 (by omega)
          rw [Nat.add_zero, edrop] at this
          rw [this]
          simp only [chs, hi0]
          rfl
        refine ih (s + 1) _ (some (cv.getD s 0, (stk rk (cv.getD s 0)).getD i0 [])) (dpc rk (cv.drop s) i0) (by omega) (hf.up (by simp)) (fun q hq => ?_) (fun q hq => ?_) ?_ hd (fun q => by omega) (fun _ => ⟨_, by rw [Nat.add_sub_cancel], by rw [Nat.add_sub_cancel]; exact stk_st b1 (stk_get hx1), by rw [Nat.add_sub_cancel]; exact eh.symm⟩)
        · by_cases e : q = s
          · subst e
            rw [up_at, eh]
          · rw [up_n2 e]; exact hdone q (by omega)
        · have := hrest (q + 1) (by omega)
          rw [show s + 1 + q = s + (q + 1) by omega, this, edrop]
          simp only [chs, hi0, List.getD_cons_succ]
        · have hok2 : okC (cv.getD s 0 :: cv.drop (s + 1)) := by rw [← edrop]; exact hok.drop s
          have := feas_step hrk hok2 (by simp; omega) hx1
          rw [edrop]
          exact this
      have l29 : ∀ m i, i + m = chI rk (cv.getD s 0) (cv.drop (s + 1)) pre left → G 29 [rf 14 w, rf 12 se, rf 10015 ch, vi (nI left), vi (nI cv.length), vi (nI s), vi (nI i), un] [] μ' := by
        intro m
        induction m with
        | zero =>
          intro i hi
          rw [Nat.add_zero] at hi
          subst hi
          exact to79 _ hx1 nxt
        | succ m ihm =>
          intro i hi
          have hil : i < (stk rk (cv.getD s 0)).length := by omega
          refine to79 i hil ?_
          have hne : ¬ bef pre (cv.getD s 0) ((stk rk (cv.getD s 0)).getD i []) + dpc rk (cv.drop s) i = left := fun e => by
            refine fstI_lt _ 0 i (Nat.zero_le _) (show i < chI rk (cv.getD s 0) (cv.drop (s + 1)) pre left by omega) (decide_eq_true ?_)
            rw [← edrop]
            exact e
          have hco : μ'.1 (w + 17 + 1 + 1 * s) i = nI (dpc rk (cv.drop s) i) := by rw [eW _ (by omega) (by omega)]; exact hcos i hil
          have hd := hdl i
          have hbl := hbef i
          refine g_We_choose_79 hC ?_
          simp (disch := omega) only [nx_cl, nx_in', hco, nI_add, nx_eq]
          exact ⟨by omega, by omega, fun _ => ihm (i + 1) (by omega), fun z => absurd z hne⟩
      refine g_We_choose_19 hC ?_
      rw [nx_le (by omega) (by omega)]
      exact ⟨fun z => absurd z (by omega), fun _ => l29 _ 0 (Nat.zero_add _)⟩
  have hfl : few rk cv < 1000000 := by
    have hfe := feas_first hrk hok (by omega)
    cases cv with
    | nil => simp [few]
    | cons c r =>
      obtain ⟨i, -, h2⟩ := hfe
      have := dpc_le hrk (c :: r) hok i
      have h3 : bef none c ((stk rk c).getD i []) = 0 := rfl
      simp only [List.length_cons] at *
      omega
  exact loop cv.length 0 μ none (few rk cv) (by omega) (Fr.rf _ _) (fun q hq => by omega) (fun q hq => by rw [Nat.zero_add, List.drop_zero]) (by rw [List.drop_zero]; exact feas_first hrk hok (by omega)) hfl (fun _ => rfl) (fun q => by omega)
def plU (rk : Nat → Nat) (cv : List Nat) : Nat → Nat
  | 0 => 0
  | s + 1 => plU rk cv s + (popN (cv.getD s 0 &&& cv.getD (s + 1) 0) - alk ((stk rk (cv.getD s 0)).getD 0 []) ((stk rk (cv.getD (s + 1) 0)).getD 0 []))
theorem plU_le (rk : Nat → Nat) (cv : List Nat) : ∀ s, plU rk cv s ≤ 8 * s
  | 0 => Nat.le_refl _
  | s + 1 => by
    have := plU_le rk cv s
    have := popN_and (cv.getD s 0) (cv.getD (s + 1) 0)
    unfold plU
    omega
theorem splitsOfFirst_ok {lay : List Nat} (hwf : wfB lay = true) (d : Nat) {μ : Mem} {w se : Nat} {rk : Nat → Nat} {cs cv : List Nat} (hrk : ∀ r, r < 8 → rk r < 4) (hwe : WeAt μ w rk cv 0) (hS : SeAt μ se cs cv) (hl : cv.length ≤ 15) (hok : okC cv) : Rn lay (d + 2) mWe_splitsOfFirst [rf 14 w, rf 12 se] μ (Pv (nI (plU rk cv (cv.length - 1))) μ) := by
  refine Rn_intro ok_We_splitsOfFirst hwf rfl (fun G hC => g_We_splitsOfFirst_0 hC ?_)
  have loop : ∀ n s, s + n = cv.length - 1 → G 4 [rf 14 w, rf 12 se, vi (nI (plU rk cv s)), vi (nI s)] [] μ := by
    intro n
    induction n with
    | zero =>
      intro s hn
      refine g_We_splitsOfFirst_4 hC ?_
      rw [hS.2.1, nI_add, nx_le (by omega) (by omega)]
      exact ⟨fun _ => pv_e (by rw [show cv.length - 1 = s by omega]), fun z => absurd (by omega) z⟩
    | succ n ih =>
      intro s hn
      have ih := ih (s + 1) (by omega)
      obtain ⟨b1, b2⟩ := hok.at (show s < cv.length by omega)
      obtain ⟨c1, c2⟩ := hok.at (show s + 1 < cv.length by omega)
      have hp := stk_pos hrk b1 b2
      have hp' := stk_pos hrk c1 c2
      obtain ⟨hrow, -⟩ := hwe s (by omega) (by omega)
      obtain ⟨hrow', -⟩ := hwe (s + 1) (by omega) (by omega)
      have hsx := stk_st b1 (stk_get hp)
      have hsy := stk_st c1 (stk_get hp')
      have hal : alk ((stk rk (cv.getD s 0)).getD 0 []) ((stk rk (cv.getD (s + 1) 0)).getD 0 []) ≤ popN (cv.getD s 0 &&& cv.getD (s + 1) 0) := st_share hsx hsy (fun q hq => alk_dig q _ _ hq)
      have hpl := plU_le rk cv s
      refine g_We_splitsOfFirst_4 hC ?_
      rw [nI_add]
      simp (disch := omega) only [hS.2.1, nx_le, nx_cl, nx_in', hrow.2 0 hp, hrow'.2 0 hp', hS.2.2.2 s (by omega)]
      refine ⟨fun z => absurd z (by omega), fun _ => ⟨fun z => absurd z (by omega), fun _ => ⟨by omega, by omega, by omega, by omega, by omega, ?_⟩⟩⟩
      refine useV (alike_ok hwf d (hsx.ok b2) (hsy.ok c2) μ) ?_
      rw [nx_sub hal, nI_add]
      exact ih
  exact loop (cv.length - 1) 0 (by omega)
