/-! Weights.offerAlike -/
abbrev sx (xs : List (List Nat)) (i k : Nat) : Nat := dig (xs.getD i []) k
theorem eol_at {xs : List (List Nat)} {k g hi : Nat} : ∀ n e, e + n = hi → e ≤ eol xs k g hi n e ∧ eol xs k g hi n e ≤ hi ∧ (∀ q, e ≤ q → q < eol xs k g hi n e → sx xs q k = g) ∧ (eol xs k g hi n e < hi → sx xs (eol xs k g hi n e) k ≠ g)
  | 0, e, h => ⟨Nat.le_refl _, by simp [eol]; omega, fun q h1 h2 => by simp [eol] at h2; omega, fun h2 => by simp [eol] at h2; omega⟩
  | n + 1, e, h => by
    have ih := eol_at (xs := xs) (k := k) (g := g) (hi := hi) n (e + 1) (by omega)
    rw [show eol xs k g hi (n + 1) e = if e < hi ∧ dig (xs.getD e []) k = g then eol xs k g hi n (e + 1) else e from rfl]
    split
    · next hc =>
      obtain ⟨i1, i2, i3, i4⟩ := ih
      refine ⟨by omega, i2, fun q h1 h2 => ?_, i4⟩
      by_cases e2 : q = e
      · rw [e2]; exact hc.2
      · exact i3 q (by omega) h2
    · next hc => exact ⟨Nat.le_refl _, by omega, fun q h1 h2 => by omega, fun h2 h3 => hc ⟨h2, h3⟩⟩
def lexlt (l m : List Nat) : Prop := ∃ k, (∀ q, q < k → dig l q = dig m q) ∧ dig l k < dig m k
def Lx (xs : List (List Nat)) : Prop := ∀ i j, i < j → j < xs.length → lexlt (xs.getD i []) (xs.getD j [])
theorem Lx.mono {xs : List (List Nat)} (h : Lx xs) {lo hi k : Nat} (hc : ∀ i j, lo ≤ i → i < hi → lo ≤ j → j < hi → ∀ q, q < k → sx xs i q = sx xs j q) (hh : hi ≤ xs.length) {i j : Nat} (h1 : lo ≤ i) (h2 : i ≤ j) (h3 : j < hi) : sx xs i k ≤ sx xs j k := by
  rcases Nat.lt_or_ge i j with q | q
  · obtain ⟨m, m1, m2⟩ := h i j q (by omega)
    rcases Nat.lt_or_ge m k with z | z
    · have := hc i j h1 (by omega) (by omega) h3 m z
      unfold sx at this
      omega
    · rcases Nat.lt_or_ge k m with z2 | z2
      · exact Nat.le_of_eq (m1 k z2)
      · rw [show k = m by omega]
        exact Nat.le_of_lt m2
  · rw [show i = j by omega]
    exact Nat.le_refl _
theorem atI_ti {l : List Nat} {k : Nat} (hl : ∀ r ∈ l, r < 8) : (atI l k).toInt = (dig l k : Int) - 1 := by
  unfold atI dig
  cases h1 : l[k]? with
  | none => decide
  | some x =>
    have := hl x (List.mem_of_getElem? h1)
    dsimp only
    rw [nI_ti (by omega)]
    omega
/-- what the offers at depth dp and deeper make of a stack's cost and manners: f levels are left, the next section's stacks a to b begin alike with it for dp ranges -/
def OffR (ys : List (List Nat)) (cf mf : Nat → Nat) (sh : Nat) (x : List Nat) : Nat → Nat → Nat → Nat → Nat × Nat → Nat × Nat → Prop
  | 0, _, _, _, st, st' => st' = st
  | f + 1, dp, a, b, st, st' =>
    ((dig x dp = 0 ∨ ∀ j, a ≤ j → j < b → sx ys j dp ≠ dig x dp) ∧ st' = offP st (chU cf a (b - a) + sh - dp) (mnU cf mf a (chU cf a (b - a)) (b - a))) ∨
    (dig x dp ≠ 0 ∧ ∃ a' b', a ≤ a' ∧ a' < b' ∧ b' ≤ b ∧ (∀ j, a ≤ j → j < b → (sx ys j dp = dig x dp ↔ a' ≤ j ∧ j < b')) ∧ OffR ys cf mf sh x f (dp + 1) a' b' (offP st (chU cf a (b - a) + sh - dp) (mnU cf mf a (chU cf a (b - a)) (b - a))) st')
def bdP (p : Nat × Nat) : Prop := p.1 < 2147483648 ∧ p.2 ≤ 1000000000
theorem offP_bd {st : Nat × Nat} {v n : Nat} (h : bdP st) (hv : v < 2147483648) (hn : n ≤ 1000000000) : bdP (offP st v n) := by
  unfold offP
  split
  · exact ⟨hv, hn⟩
  · split
    · refine ⟨h.1, ?_⟩
      dsimp only
      split <;> omega
    · exact h
theorem FrC.row {w s : Nat} {μ μ1 : Mem} (hf : FrC w s μ μ1) {s' : Nat} (hs : s < 15) (hs' : s' < 15) {xs : List (List Nat)} (h : RowAt μ w s' xs) : RowAt μ1 w s' xs := by
  obtain ⟨h1, h2⟩ := h
  rw [← hf.1 (w + 36) (by omega) (by omega)] at h1
  refine ⟨h1, fun i hi => ?_⟩
  rw [hf.1 (w + 1 + 1 + 1 * s') (by omega) (by omega)]
  exact h2 i hi
def OffQ (xs ys : List (List Nat)) (cf mf : Nat → Nat) (sh w s f dp lo hi a b : Nat) (pf : Nat → Nat × Nat) (μ : Mem) : Mem → Prop := fun μ1 => ∃ pf' : Nat → Nat × Nat, PrAt μ1 w s xs.length pf' ∧ (∀ i, i < xs.length → bdP (pf' i)) ∧ (∀ i, lo ≤ i → i < hi → OffR ys cf mf sh (xs.getD i []) f dp a b (pf i) (pf' i)) ∧ (∀ i, ¬ (lo ≤ i ∧ i < hi) → pf' i = pf i) ∧ FrC w s μ μ1
/-- what is fixed over a section's offers -/
def OffW (xs ys : List (List Nat)) (cf mf : Nat → Nat) (sh w s : Nat) (μ : Mem) : Prop := RowAt μ w s xs ∧ RowAt μ w (s + 1) ys ∧ CoAt μ w (s + 1) ys.length cf ∧ MaAt μ w (s + 1) ys.length mf ∧ μ.1 w 5 = nI sh
theorem OffW.fr {xs ys : List (List Nat)} {cf mf : Nat → Nat} {sh w s : Nat} {μ μ1 : Mem} (h : OffW xs ys cf mf sh w s μ) (hf : FrC w s μ μ1) (hs : s + 1 < 15) : OffW xs ys cf mf sh w s μ1 := by
  obtain ⟨h1, h2, h3, h4, h5⟩ := h
  refine ⟨hf.row (by omega) (by omega) h1, hf.row (by omega) (by omega) h2, fun i hi => ?_, fun i hi => ?_, ?_⟩
  · rw [hf.1 _ (by omega) (by omega)]; exact h3 i hi
  · rw [hf.1 _ (by omega) (by omega)]; exact h4 i hi
  · rw [hf.1 _ (by omega) (by omega)]; exact h5
theorem off_body {lay : List Nat} (hwf : wfB lay = true) (d : Nat) {w s sh : Nat} {xs ys : List (List Nat)} {cf mf : Nat → Nat} (hs : s + 1 < 15) (hxl : xs.length ≤ 120) (hyl : ys.length ≤ 120) (hxo : ∀ x ∈ xs, oks x) (hyo : ∀ x ∈ ys, oks x) (hLx : Lx xs) (hLy : Lx ys) (hcb : ∀ i, i < ys.length → cf i < 2147483648) (hmb : ∀ i, i < ys.length → mf i ≤ 1000000000) (hsh8 : sh ≤ 8)
    (hsh : ∀ i j k, i < xs.length → j < ys.length → (∀ q, q < k → sx xs i q = sx ys j q ∧ sx xs i q ≠ 0) → k ≤ sh)
    (f dp : Nat) (hdf : dp + (f + 1) = 6)
    (hrec : dp < 5 → ∀ (lo hi a b : Nat) (μ : Mem) (pf : Nat → Nat × Nat), lo < hi → hi ≤ xs.length → a < b → b ≤ ys.length → (∀ i j, lo ≤ i → i < hi → a ≤ j → j < b → ∀ q, q < dp + 1 → sx xs i q = sx ys j q ∧ sx xs i q ≠ 0) → OffW xs ys cf mf sh w s μ → PrAt μ w s xs.length pf → (∀ i, i < xs.length → bdP (pf i)) →
      Rn lay (d + f + 1) mWe_offerAlike [rf 14 w, vi (nI s), vi (nI (dp + 1)), vi (nI lo), vi (nI hi), vi (nI a), vi (nI b)] μ (Pn (OffQ xs ys cf mf sh w s f (dp + 1) lo hi a b pf μ)))
    (lo hi a b : Nat) (μ : Mem) (pf : Nat → Nat × Nat) (hlh : lo < hi) (hhx : hi ≤ xs.length) (hab : a < b) (hby : b ≤ ys.length) (hcx : ∀ i j, lo ≤ i → i < hi → a ≤ j → j < b → ∀ q, q < dp → sx xs i q = sx ys j q ∧ sx xs i q ≠ 0) (hW : OffW xs ys cf mf sh w s μ) (hpr : PrAt μ w s xs.length pf) (hbd : ∀ i, i < xs.length → bdP (pf i)) :
    Rn lay (d + f + 2) mWe_offerAlike [rf 14 w, vi (nI s), vi (nI dp), vi (nI lo), vi (nI hi), vi (nI a), vi (nI b)] μ (Pn (OffQ xs ys cf mf sh w s (f + 1) dp lo hi a b pf μ)) := by
  have hX : ∀ i, i < xs.length → oks (xs.getD i []) := fun i hi => by
    rw [List.getD, List.getElem?_eq_getElem hi]
    exact hxo _ (List.getElem_mem hi)
  have hY : ∀ i, i < ys.length → oks (ys.getD i []) := fun i hi => by
    rw [List.getD, List.getElem?_eq_getElem hi]
    exact hyo _ (List.getElem_mem hi)
  have hcpx : ∀ i j, lo ≤ i → i < hi → lo ≤ j → j < hi → ∀ q, q < dp → sx xs i q = sx xs j q := fun i j h1 h2 h3 h4 q hq => (hcx i a h1 h2 (Nat.le_refl _) hab q hq).1.trans (hcx j a h3 h4 (Nat.le_refl _) hab q hq).1.symm
  have hcpy : ∀ i j, a ≤ i → i < b → a ≤ j → j < b → ∀ q, q < dp → sx ys i q = sx ys j q := fun i j h1 h2 h3 h4 q hq => (hcx lo i (Nat.le_refl _) hlh h1 h2 q hq).1.symm.trans (hcx lo j (Nat.le_refl _) hlh h3 h4 q hq).1
  have mX : ∀ {i j : Nat}, lo ≤ i → i ≤ j → j < hi → sx xs i dp ≤ sx xs j dp := fun h1 h2 h3 => hLx.mono hcpx hhx h1 h2 h3
  have mY : ∀ {i j : Nat}, a ≤ i → i ≤ j → j < b → sx ys i dp ≤ sx ys j dp := fun h1 h2 h3 => hLy.mono hcpy hby h1 h2 h3
  have hdsh : dp ≤ sh := hsh lo a dp (by omega) (by omega) (fun q hq => hcx lo a (Nat.le_refl _) hlh (Nat.le_refl _) hab q hq)
  obtain ⟨-, hRy, hco, hma, h5⟩ := id hW
  have hch := chU_le cf a (b - a)
  have hmn := mnU_le cf mf a (chU cf a (b - a)) (b - a)
  refine Rn_intro ok_We_offerAlike hwf rfl (fun G hC => g_We_offerAlike_0 hC ?_)
  rw [nx_0, nI_add, nx_lt (by omega) (by omega), nx_lt (by omega) (by omega), nx_lt (by omega) (by omega)]
  refine ⟨fun z => absurd z (by omega), fun _ => ⟨fun z => absurd z (by omega), fun _ => ⟨fun _ => ?_, fun z => absurd hs z⟩⟩⟩
  refine useV (cheapest_ok hwf _ hs hyl hco hcb (Nat.le_of_lt hab) hby) ?_
  refine useV (mannersOf_ok hwf _ hs hyl hco hcb hma hmb (Nat.le_of_lt hab) hby (by omega)) ?_
  generalize hcost : chU cf a (b - a) = cost at hch hmn ⊢
  generalize hmany : mnU cf mf a cost (b - a) = many at hmn ⊢
  have hOff1 : ∀ (x : List Nat) (st : Nat × Nat), (dig x dp = 0 ∨ ∀ j, a ≤ j → j < b → sx ys j dp ≠ dig x dp) → OffR ys cf mf sh x (f + 1) dp a b st (offP st (cost + sh - dp) many) := fun x st h => by
    refine Or.inl ⟨h, ?_⟩
    rw [hcost, hmany]
  -- the merge
  have l90 : ∀ n i j st (μ' : Mem) (pfc : Nat → Nat × Nat), (hi - i) + (b - j) ≤ n → lo ≤ i → i ≤ hi → a ≤ j → j ≤ b → st ≤ (i - lo) + (j - a) → FrC w s μ μ' → PrAt μ' w s xs.length pfc → (∀ q, q < xs.length → bdP (pfc q)) → (∀ q, lo ≤ q → q < i → OffR ys cf mf sh (xs.getD q []) (f + 1) dp a b (pf q) (pfc q)) → (∀ q, i ≤ q → q < hi → pfc q = offP (pf q) (cost + sh - dp) many) → (∀ q, ¬ (lo ≤ q ∧ q < hi) → pfc q = pf q) → (∀ y q, a ≤ y → y < j → i ≤ q → q < hi → sx ys y dp < sx xs q dp) → G 90 [rf 14 w, vi (nI s), vi (nI dp), un, vi (nI hi), un, vi (nI b), un, un, vi (nI i), vi (nI j), vi (nI st), un, un, un, un] [] μ' := by
    intro n
    induction n with
    | zero =>
      intro i j st μ' pfc hn h1 h2 h3 h4 hst hf hp hb hdone hrest hout hlow
      refine g_We_offerAlike_90 hC ?_
      have fin : (Pn (OffQ xs ys cf mf sh w s (f + 1) dp lo hi a b pf μ)) none μ' := ⟨rfl, pfc, hp, hb, fun q q1 q2 => hdone q q1 (by omega), hout, hf⟩
      rw [nx_le (by omega) (by omega), nx_le (by omega) (by omega)]
      exact ⟨fun _ => fin, fun _ => ⟨fun _ => fin, fun z => absurd (by omega) z⟩⟩
    | succ n ihn =>
      intro i j st μ' pfc hn h1 h2 h3 h4 hst hf hp hb hdone hrest hout hlow
      have fin : (i = hi ∨ j = b) → (Pn (OffQ xs ys cf mf sh w s (f + 1) dp lo hi a b pf μ)) none μ' := fun hij => by
        refine ⟨rfl, pfc, hp, hb, fun q q1 q2 => ?_, hout, hf⟩
        rcases Nat.lt_or_ge q i with z | z
        · exact hdone q q1 z
        · rcases hij with e | e
          · omega
          · rw [hrest q z q2]
            exact hOff1 _ _ (Or.inr (fun y y1 y2 y3 => by
              have := hlow y q y1 (by omega) z q2
              unfold sx at this y3
              omega))
      refine g_We_offerAlike_90 hC ?_
      rw [nx_le (by omega) (by omega), nx_le (by omega) (by omega), nx_le (by omega) (by omega)]
      refine ⟨fun z => fin (by omega), fun _ => ⟨fun z => fin (by omega), fun z1 => ⟨fun z => fin (by omega), fun z2 => ?_⟩⟩⟩
      have hi1 : i < hi := by omega
      have hj1 : j < b := by omega
      obtain ⟨hRx', hRy', -⟩ := id (hW.fr hf hs)
      simp (disch := omega) only [nx_cl, nx_in', hRx'.2 i (by omega)]
      refine ⟨by omega, by omega, ?_⟩
      refine useV (at_ok hwf _ (hX i (by omega)) (by omega) μ') ?_
      rw [nI_add]
      simp (disch := omega) only [nx_cl, nx_in', hRy'.2 j (by omega)]
      refine ⟨by omega, by omega, ?_⟩
      refine useV (at_ok hwf _ (hY j (by omega)) (by omega) μ') ?_
      have hEL := endOfLike_ok hwf (d + f) (μ := μ') (w := w) (s := s) (i := i) (hi := hi) (k := dp) (by omega) hxl hRx' hxo hi1 hhx (by omega)
      refine useV hEL ?_
      have hEL2 := endOfLike_ok hwf (d + f) (μ := μ') (w := w) (s := s + 1) (i := j) (hi := b) (k := dp) (by omega) hyl hRy' hyo hj1 hby (by omega)
      refine useV hEL2 ?_
      obtain ⟨x1, x2, x3, x4⟩ := eol_at (xs := xs) (k := dp) (g := sx xs i dp) (hi := hi) (hi - (i + 1)) (i + 1) (by omega)
      obtain ⟨y1, y2, y3, y4⟩ := eol_at (xs := ys) (k := dp) (g := sx ys j dp) (hi := b) (b - (j + 1)) (j + 1) (by omega)
      generalize hiE : eol xs dp (dig (xs.getD i []) dp) hi (hi - (i + 1)) (i + 1) = iE at x1 x2 x3 x4 ⊢
      generalize hjE : eol ys dp (dig (ys.getD j []) dp) b (b - (j + 1)) (j + 1) = jE at y1 y2 y3 y4 ⊢
      have gx : ∀ q, i ≤ q → q < iE → sx xs q dp = sx xs i dp := fun q q1 q2 => by
        rcases Nat.lt_or_ge i q with z | z
        · exact x3 q z q2
        · rw [show q = i by omega]
      have gx2 : ∀ q, iE ≤ q → q < hi → sx xs i dp < sx xs q dp := fun q q1 q2 => by
        have e1 := x4 (by omega)
        have e2 := mX (i := i) (j := iE) h1 (by omega) (by omega)
        have e3 := mX (i := iE) (j := q) (by omega) q1 q2
        omega
      have gy : ∀ q, j ≤ q → q < jE → sx ys q dp = sx ys j dp := fun q q1 q2 => by
        rcases Nat.lt_or_ge j q with z | z
        · exact y3 q z q2
        · rw [show q = j by omega]
      have gy2 : ∀ q, jE ≤ q → q < b → sx ys j dp < sx ys q dp := fun q q1 q2 => by
        have e1 := y4 (by omega)
        have e2 := mY (i := j) (j := jE) h3 (by omega) (by omega)
        have e3 := mY (i := jE) (j := q) (by omega) q1 q2
        omega
      -- the turn of the heads
      have turn : ∀ (μ2 : Mem) (pf2 : Nat → Nat × Nat), FrC w s μ μ2 → PrAt μ2 w s xs.length pf2 → (∀ q, q < xs.length → bdP (pf2 q)) → (∀ q, lo ≤ q → q < i → pf2 q = pfc q) → (∀ q, iE ≤ q → pf2 q = pfc q) → (∀ q, ¬ (lo ≤ q ∧ q < hi) → pf2 q = pf q) → (sx ys j dp < sx xs i dp → ∀ q, i ≤ q → q < iE → pf2 q = pfc q) → (¬ sx ys j dp < sx xs i dp → ∀ q, i ≤ q → q < iE → OffR ys cf mf sh (xs.getD q []) (f + 1) dp a b (pf q) (pf2 q)) → G 199 [rf 14 w, vi (nI s), vi (nI dp), un, vi (nI hi), un, vi (nI b), un, un, vi (nI i), vi (nI j), vi (nI st), vi (atI (xs.getD i []) dp), vi (atI (ys.getD j []) dp), vi (nI iE), vi (nI jE)] [] μ2 := by
        intro μ2 pf2 hf2 hp2 hb2 hlo2 hhi2 hout2 hk2 hd2
        refine g_We_offerAlike_199 hC ?_
        rw [i_lt, i_lt, atI_ti (hX i (by omega)).2, atI_ti (hY j (by omega)).2, nI_add]
        refine ⟨fun u1 => ⟨fun u2 => by omega, fun u2 => ?_⟩, fun u1 => ⟨fun u2 => ?_, fun u2 => ?_⟩⟩
        · have hlt : sx ys j dp < sx xs i dp := by unfold sx; omega
          refine ihn i jE (st + 1) μ2 pf2 (by omega) h1 h2 (by omega) y2 (by omega) hf2 hp2 hb2 (fun q q1 q2 => by rw [hlo2 q q1 q2]; exact hdone q q1 q2) (fun q q1 q2 => ?_) hout2 (fun y q yy1 yy2 q1 q2 => ?_)
          · rcases Nat.lt_or_ge q iE with z | z
            · rw [hk2 hlt q q1 z]; exact hrest q q1 q2
            · rw [hhi2 q z]; exact hrest q q1 q2
          · rcases Nat.lt_or_ge y j with z | z
            · exact hlow y q yy1 z q1 q2
            · have e1 := gy y z yy2
              have e2 := mX (i := i) (j := q) h1 q1 q2
              omega
        · have hnl : ¬ sx ys j dp < sx xs i dp := by unfold sx; omega
          refine ihn iE j (st + 1) μ2 pf2 (by omega) (by omega) x2 h3 h4 (by omega) hf2 hp2 hb2 (fun q q1 q2 => ?_) (fun q q1 q2 => by rw [hhi2 q q1]; exact hrest q (by omega) q2) hout2 (fun y q yy1 yy2 q1 q2 => hlow y q yy1 yy2 (by omega) q2)
          rcases Nat.lt_or_ge q i with z | z
          · rw [hlo2 q q1 z]; exact hdone q q1 z
          · exact hd2 hnl q z q2
        · have hnl : ¬ sx ys j dp < sx xs i dp := by unfold sx; omega
          have heq : sx ys j dp = sx xs i dp := by unfold sx; omega
          refine ihn iE jE (st + 1) μ2 pf2 (by omega) (by omega) x2 (by omega) y2 (by omega) hf2 hp2 hb2 (fun q q1 q2 => ?_) (fun q q1 q2 => by rw [hhi2 q q1]; exact hrest q (by omega) q2) hout2 (fun y q yy1 yy2 q1 q2 => ?_)
          · rcases Nat.lt_or_ge q i with z | z
            · rw [hlo2 q q1 z]; exact hdone q q1 z
            · exact hd2 hnl q z q2
          · have e1 := gx2 q q1 q2
            rcases Nat.lt_or_ge y j with z | z
            · have := hlow y i yy1 z (Nat.le_refl _) hi1
              omega
            · have := gy y z yy2
              omega
      -- no going deeper
      have plain : (sx ys j dp ≠ sx xs i dp ∨ sx xs i dp = 0) → G 199 [rf 14 w, vi (nI s), vi (nI dp), un, vi (nI hi), un, vi (nI b), un, un, vi (nI i), vi (nI j), vi (nI st), vi (atI (xs.getD i []) dp), vi (atI (ys.getD j []) dp), vi (nI iE), vi (nI jE)] [] μ' := fun hne => by
        refine turn μ' pfc hf hp hb (fun _ _ _ => rfl) (fun _ _ => rfl) hout (fun _ _ _ _ => rfl) (fun hnl q q1 q2 => ?_)
        rw [hrest q q1 (by omega)]
        refine hOff1 _ _ ?_
        have e1 := gx q q1 q2
        rcases hne with hne | hne
        · refine Or.inr (fun y yy1 yy2 yy3 => ?_)
          have e3 : sx ys y dp = sx xs i dp := by unfold sx at *; omega
          rcases Nat.lt_or_ge y j with z | z
          · have := hlow y i yy1 z (Nat.le_refl _) hi1
            omega
          · have := mY (i := j) (j := y) h3 z yy2
            omega
        · refine Or.inl ?_
          unfold sx at *
          omega
      rw [atI_eq (hX i (by omega)).2 (hY j (by omega)).2]
      refine ⟨fun u => plain (Or.inl (fun e => u e.symm)), fun u => ⟨fun u2 => plain (Or.inr ?_), fun u2 => ?_⟩⟩
      · have := atI_ti (k := dp) (hX i (by omega)).2
        rw [u2] at this
        have e0 : (mI 0).toInt = -1 := by decide
        unfold sx
        omega
      · have hd0 : sx xs i dp ≠ 0 := fun e => u2 (by
          unfold sx dig at e
          unfold atI
          split at e
          · omega
          · next hq => rfl)
        have hdp5 : dp < 5 := by
          rcases Nat.lt_or_ge dp 5 with q | q
          · exact q
          · exfalso
            apply hd0
            unfold sx dig
            rw [List.getElem?_eq_none (by have := (hX i (by omega)).1; omega)]
        have heq : sx ys j dp = sx xs i dp := u.symm
        have hr := hrec hdp5 i iE j jE μ' pfc (by omega) (by omega) (by omega) (by omega) (fun q y q1 q2 yy1 yy2 k hk => by
          rcases Nat.lt_or_ge k dp with z | z
          · exact hcx q y (by omega) (by omega) (by omega) (by omega) k z
          · rw [show k = dp by omega, gx q q1 q2, gy y yy1 yy2]
            exact ⟨heq.symm, hd0⟩) (hW.fr hf hs) hp hb
        rw [← nI_add] at hr
        refine useN hr (fun μ2 hq => ?_)
        obtain ⟨pf2, r1, r2, r3, r4, r5⟩ := hq
        refine turn μ2 pf2 (hf.tr r5) r1 r2 (fun q q1 q2 => r4 q (by omega)) (fun q q1 => r4 q (by omega)) (fun q hq => by rw [r4 q (by omega)]; exact hout q hq) (fun hlt => by omega) (fun _ q q1 q2 => ?_)
        have := r3 q q1 q2
        rw [hrest q q1 (by omega)] at this
        have e1 := gx q q1 q2
        refine Or.inr ⟨by unfold sx at *; omega, j, jE, h3, by omega, y2, fun y yy1 yy2 => ⟨fun e => ?_, fun e => ?_⟩, ?_⟩
        · have e3 : sx ys y dp = sx xs i dp := by unfold sx at *; omega
          refine ⟨?_, ?_⟩
          · rcases Nat.lt_or_ge y j with z | z
            · have := hlow y i yy1 z (Nat.le_refl _) hi1
              omega
            · exact z
          · rcases Nat.lt_or_ge y jE with z | z
            · exact z
            · have := gy2 y z yy2
              omega
        · have := gy y e.1 e.2
          unfold sx at *
          omega
        · rw [hcost, hmany]
          exact this
  -- the offers at this depth
  have l49 : ∀ n i (μ' : Mem) (pfc : Nat → Nat × Nat), i + n = hi → lo ≤ i → FrC w s μ μ' → PrAt μ' w s xs.length pfc → (∀ q, q < xs.length → bdP (pfc q)) → (∀ q, lo ≤ q → q < i → pfc q = offP (pf q) (cost + sh - dp) many) → (∀ q, ¬ (lo ≤ q ∧ q < i) → pfc q = pf q) → G 49 [rf 14 w, vi (nI s), vi (nI dp), vi (nI lo), vi (nI hi), vi (nI a), vi (nI b), vi (nI cost), vi (nI many), vi (nI i), un, un, un, un, un, un] [] μ' := by
    intro n
    induction n with
    | zero =>
      intro i μ' pfc hn h1 hf hp hb hdn hot
      refine g_We_offerAlike_49 hC ?_
      rw [nx_le (by omega) (by omega)]
      refine ⟨fun _ => ?_, fun z => absurd (by omega) z⟩
      exact l90 _ lo a 0 μ' pfc (Nat.le_refl _) (Nat.le_refl _) (by omega) (Nat.le_refl _) (by omega) (by omega) hf hp hb (fun q q1 q2 => by omega) (fun q q1 q2 => hdn q q1 (by omega)) (fun q hq => hot q (by omega)) (fun y q y1 y2 => by omega)
    | succ n ihn =>
      intro i μ' pfc hn h1 hf hp hb hdn hot
      have h5' : μ'.1 w 5 = nI sh := (hW.fr hf hs).2.2.2.2
      obtain ⟨c1, c2⟩ := hb i (by omega)
      refine g_We_offerAlike_49 hC ?_
      rw [nx_le (by omega) (by omega), h5', nI_add, nx_sub (by omega), nI_add]
      refine ⟨fun z => absurd z (by omega), fun _ => ?_⟩
      refine useN (offer_ok hwf _ (by omega) hxl hp (by omega) c1 c2 (by omega) hmn) (fun μ1 hq => ?_)
      obtain ⟨q1, q2⟩ := hq
      have epi : pfc i = pf i := hot i (by omega)
      refine ihn (i + 1) μ1 _ (by omega) (by omega) (hf.tr q2) q1 (fun q hq => ?_) (fun q r1 r2 => ?_) (fun q hq => ?_)
      · split
        · exact offP_bd (hb i (by omega)) (by omega) hmn
        · exact hb q hq
      · split
        · next e => rw [e, epi]
        · exact hdn q r1 (by omega)
      · rw [if_neg (by omega)]
        exact hot q (by omega)
  exact l49 (hi - lo) lo μ pf (by omega) (Nat.le_refl _) (FrC.rf _ _ _) hpr hbd (fun q q1 q2 => by omega) (fun q hq => rfl)
theorem offerAlike_ok {lay : List Nat} (hwf : wfB lay = true) (d : Nat) {w s sh : Nat} {xs ys : List (List Nat)} {cf mf : Nat → Nat} (hs : s + 1 < 15) (hxl : xs.length ≤ 120) (hyl : ys.length ≤ 120) (hxo : ∀ x ∈ xs, oks x) (hyo : ∀ x ∈ ys, oks x) (hLx : Lx xs) (hLy : Lx ys) (hcb : ∀ i, i < ys.length → cf i < 2147483648) (hmb : ∀ i, i < ys.length → mf i ≤ 1000000000) (hsh8 : sh ≤ 8)
    (hsh : ∀ i j k, i < xs.length → j < ys.length → (∀ q, q < k → sx xs i q = sx ys j q ∧ sx xs i q ≠ 0) → k ≤ sh) :
    ∀ (f dp lo hi a b : Nat) (μ : Mem) (pf : Nat → Nat × Nat), dp + (f + 1) = 6 → lo < hi → hi ≤ xs.length → a < b → b ≤ ys.length → (∀ i j, lo ≤ i → i < hi → a ≤ j → j < b → ∀ q, q < dp → sx xs i q = sx ys j q ∧ sx xs i q ≠ 0) → OffW xs ys cf mf sh w s μ → PrAt μ w s xs.length pf → (∀ i, i < xs.length → bdP (pf i)) →
      Rn lay (d + f + 2) mWe_offerAlike [rf 14 w, vi (nI s), vi (nI dp), vi (nI lo), vi (nI hi), vi (nI a), vi (nI b)] μ (Pn (OffQ xs ys cf mf sh w s (f + 1) dp lo hi a b pf μ)) := by
  intro f
  induction f with
  | zero =>
    intro dp lo hi a b μ pf hdf h1 h2 h3 h4 h5 h6 h7 h8
    exact off_body hwf d hs hxl hyl hxo hyo hLx hLy hcb hmb hsh8 hsh 0 dp hdf (fun q => by omega) lo hi a b μ pf h1 h2 h3 h4 h5 h6 h7 h8
  | succ f ih =>
    intro dp lo hi a b μ pf hdf h1 h2 h3 h4 h5 h6 h7 h8
    exact off_body hwf d hs hxl hyl hxo hyo hLx hLy hcb hmb hsh8 hsh (f + 1) dp hdf (fun _ lo hi a b μ pf => ih (dp + 1) lo hi a b μ pf (by omega)) lo hi a b μ pf h1 h2 h3 h4 h5 h6 h7 h8
