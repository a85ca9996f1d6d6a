/-! what all offers together come to: the least cost, and all manners that have it -/
def cap (x : Nat) : Nat := if x < 1000000000 then x else 1000000000
theorem cap_le (x : Nat) : cap x ≤ 1000000000 := by unfold cap; split <;> omega
theorem cap_cap (a b : Nat) : cap (cap a + cap b) = cap (a + b) := by
  unfold cap
  repeat' split
  all_goals omega
theorem cap_l (a b : Nat) : cap (cap a + b) = cap (a + b) := by
  unfold cap
  repeat' split
  all_goals omega
theorem cap_r (a b : Nat) : cap (a + cap b) = cap (a + b) := by
  unfold cap
  repeat' split
  all_goals omega
def smN (p : Nat → Bool) (mf : Nat → Nat) : Nat → Nat
  | 0 => 0
  | n + 1 => smN p mf n + (if p n = true then mf n else 0)
theorem smN_cong {p q : Nat → Bool} {mf : Nat → Nat} : ∀ {n : Nat}, (∀ j, j < n → p j = q j) → smN p mf n = smN q mf n
  | 0, _ => rfl
  | n + 1, h => by
    unfold smN
    rw [smN_cong (fun j hj => h j (by omega)), h n (by omega)]
theorem smN_or {p q r : Nat → Bool} {mf : Nat → Nat} : ∀ {n : Nat}, (∀ j, j < n → (p j = true ↔ (q j = true ∨ r j = true)) ∧ ¬ (q j = true ∧ r j = true)) → smN p mf n = smN q mf n + smN r mf n
  | 0, _ => rfl
  | n + 1, h => by
    have ih := smN_or (p := p) (q := q) (r := r) (mf := mf) (n := n) (fun j hj => h j (by omega))
    obtain ⟨h1, h2⟩ := h n (by omega)
    unfold smN
    rw [ih]
    by_cases a : q n = true
    · have b : ¬ r n = true := fun z => h2 ⟨a, z⟩
      rw [if_pos a, if_neg b, if_pos (h1.mpr (Or.inl a))]
      omega
    · by_cases b : r n = true
      · rw [if_neg a, if_pos b, if_pos (h1.mpr (Or.inr b))]
        omega
      · rw [if_neg a, if_neg b, if_neg (fun z => (h1.mp z).elim a b)]
        omega
theorem smN_none {p : Nat → Bool} {mf : Nat → Nat} : ∀ {n : Nat}, (∀ j, j < n → p j = false) → smN p mf n = 0
  | 0, _ => rfl
  | n + 1, h => by
    unfold smN
    rw [smN_none (fun j hj => h j (by omega)), h n (by omega)]
    rfl
/-- within a to b, with value v -/
def inV (F : Nat → Nat) (a b v : Nat) : Nat → Bool := fun j => decide (a ≤ j ∧ j < b ∧ F j = v)
theorem inV_t {F : Nat → Nat} {a b v j : Nat} : inV F a b v j = true ↔ a ≤ j ∧ j < b ∧ F j = v := by unfold inV; rw [decide_eq_true_eq]
theorem mnU_sm (cf mf : Nat → Nat) (a c : Nat) {L : Nat} : ∀ n, a + n ≤ L → mnU cf mf a c n = cap (smN (inV cf a (a + n) c) mf L)
  | 0, h => by
    rw [smN_none (fun j _ => by unfold inV; rw [decide_eq_false_iff_not]; omega)]
    rfl
  | n + 1, h => by
    have ih := mnU_sm cf mf a c (L := L) n (by omega)
    unfold mnU
    by_cases e : cf (a + n) = c
    · rw [if_pos e, ih]
      have hs : smN (inV cf a (a + (n + 1)) c) mf L = smN (inV cf a (a + n) c) mf L + smN (fun j => decide (j = a + n)) mf L := smN_or (fun j hj => by
        rw [inV_t, inV_t, decide_eq_true_eq]
        constructor
        · constructor
          · intro q
            by_cases z : j = a + n
            · exact Or.inr z
            · exact Or.inl ⟨q.1, by omega, q.2.2⟩
          · rintro (q | q)
            · exact ⟨q.1, by omega, q.2.2⟩
            · rw [q]; exact ⟨by omega, by omega, e⟩
        · omega)
      have h1 : ∀ m, m ≤ a + n → smN (fun j => decide (j = a + n)) mf m = 0 := fun m hm => smN_none (fun j hj => by rw [decide_eq_false_iff_not]; omega)
      have h2 : ∀ m, a + n < m → smN (fun j => decide (j = a + n)) mf m = mf (a + n) := by
        intro m
        induction m with
        | zero => intro q; omega
        | succ m ihm =>
          intro q
          unfold smN
          by_cases z : m = a + n
          · rw [z, h1 _ (Nat.le_refl _)]
            simp
          · rw [ihm (by omega), if_neg (by rw [decide_eq_true_eq]; exact z)]
            omega
      rw [hs, h2 L (by omega), ← cap_l]
      rfl
    · rw [if_neg e, ih]
      congr 1
      exact smN_cong (fun j hj => by
        unfold inV
        rw [decide_eq_decide]
        constructor
        · intro q; exact ⟨q.1, by omega, q.2.2⟩
        · intro q
          refine ⟨q.1, ?_, q.2.2⟩
          rcases Nat.lt_or_ge j (a + n) with z | z
          · exact z
          · exact absurd (by rw [show a + n = j by omega]; exact q.2.2) e)
/-- v is the least of F over a to b -/
def isMn (F : Nat → Nat) (a b v : Nat) : Prop := (∃ j, a ≤ j ∧ j < b ∧ F j = v) ∧ ∀ j, a ≤ j → j < b → v ≤ F j
theorem isMn.one {F : Nat → Nat} {a b v v' : Nat} (h : isMn F a b v) (h' : isMn F a b v') : v = v' := by
  obtain ⟨⟨j, j1, j2, j3⟩, hl⟩ := h
  obtain ⟨⟨i, i1, i2, i3⟩, hl'⟩ := h'
  have := hl i i1 i2
  have := hl' j j1 j2
  omega
theorem chU_mn {cf : Nat → Nat} {a : Nat} : ∀ n, 0 < n → (∀ j, a ≤ j → j < a + n → cf j < 1000000) → isMn cf a (a + n) (chU cf a n)
  | 0, h, _ => by omega
  | 1, _, h => by
    have := h a (Nat.le_refl _) (by omega)
    rw [show chU cf a 1 = cf a from if_pos this]
    exact ⟨⟨a, by omega, by omega, rfl⟩, fun j h1 h2 => by rw [show j = a by omega]; exact Nat.le_refl _⟩
  | n + 2, _, h => by
    obtain ⟨⟨j, j1, j2, j3⟩, hl⟩ := chU_mn (n + 1) (by omega) (fun j h1 h2 => h j h1 (by omega))
    rw [show chU cf a (n + 2) = if cf (a + (n + 1)) < chU cf a (n + 1) then cf (a + (n + 1)) else chU cf a (n + 1) from rfl]
    split
    · next q =>
      refine ⟨⟨a + (n + 1), by omega, by omega, rfl⟩, fun i h1 h2 => ?_⟩
      rcases Nat.lt_or_ge i (a + (n + 1)) with z | z
      · have := hl i h1 z
        omega
      · rw [show i = a + (n + 1) by omega]
        exact Nat.le_refl _
    · next q =>
      refine ⟨⟨j, j1, by omega, j3⟩, fun i h1 h2 => ?_⟩
      rcases Nat.lt_or_ge i (a + (n + 1)) with z | z
      · exact hl i h1 z
      · rw [show i = a + (n + 1) by omega]
        omega
theorem alk_ge : ∀ {k : Nat} {x y : List Nat}, (∀ q, q < k → dig x q = dig y q ∧ dig x q ≠ 0) → k ≤ alk x y
  | 0, _, _, _ => Nat.zero_le _
  | k + 1, x, y, h => by
    obtain ⟨r, h1, h2⟩ := dig_at (h 0 (by omega)).2
    obtain ⟨r2, h3, h4⟩ := dig_at (l := y) (k := 0) (by rw [← (h 0 (by omega)).1]; exact (h 0 (by omega)).2)
    have e : r = r2 := by have := (h 0 (by omega)).1; omega
    cases x with
    | nil => simp at h1
    | cons a x =>
      cases y with
      | nil => simp at h3
      | cons b y =>
        simp at h1 h3
        subst h1; subst h3; subst e
        have := alk_ge (k := k) (x := x) (y := y) (fun q hq => by
          have := h (q + 1) (by omega)
          simpa [dig] using this)
        simp only [alk, if_true]
        omega
theorem alk_eq {k : Nat} {x y : List Nat} (h : ∀ q, q < k → dig x q = dig y q ∧ dig x q ≠ 0) (h2 : dig x k = 0 ∨ dig y k ≠ dig x k) : alk x y = k := by
  have h1 := alk_ge h
  rcases Nat.lt_or_ge k (alk x y) with q | q
  · exfalso
    have hp : ∀ (m : Nat) (l u : List Nat), m < alk l u → dig l m = dig u m ∧ dig l m ≠ 0 := by
      intro m
      induction m with
      | zero =>
        intro l u hq
        cases l with
        | nil => simp [alk] at hq
        | cons a l =>
          cases u with
          | nil => simp [alk] at hq
          | cons b u =>
            simp only [alk] at hq
            split at hq
            · next e => subst e; simp [dig]
            · omega
      | succ m ihm =>
        intro l u hq
        cases l with
        | nil => simp [alk] at hq
        | cons a l =>
          cases u with
          | nil => simp [alk] at hq
          | cons b u =>
            simp only [alk] at hq
            split at hq
            · have := ihm l u (by omega)
              simpa [dig] using this
            · omega
    have := hp k x y q
    rcases h2 with z | z
    · exact this.2 z
    · exact z this.1.symm
  · omega
theorem offP_def (st : Nat × Nat) (v n : Nat) : offP st v n = if v < st.1 then (v, n) else if v = st.1 then (st.1, cap (st.2 + n)) else st := rfl
theorem isMn_ex (F : Nat → Nat) {a : Nat} : ∀ n, ∃ V, isMn F a (a + (n + 1)) V
  | 0 => ⟨F a, ⟨a, by omega, by omega, rfl⟩, fun j h1 h2 => by rw [show j = a by omega]; exact Nat.le_refl _⟩
  | n + 1 => by
    obtain ⟨V, ⟨j, j1, j2, j3⟩, hl⟩ := isMn_ex F (a := a) n
    rcases Nat.lt_or_ge (F (a + (n + 1))) V with q | q
    · refine ⟨F (a + (n + 1)), ⟨_, by omega, by omega, rfl⟩, fun i h1 h2 => ?_⟩
      rcases Nat.lt_or_ge i (a + (n + 1)) with z | z
      · have := hl i h1 z
        omega
      · rw [show i = a + (n + 1) by omega]; exact Nat.le_refl _
    · refine ⟨V, ⟨j, j1, by omega, j3⟩, fun i h1 h2 => ?_⟩
      rcases Nat.lt_or_ge i (a + (n + 1)) with z | z
      · exact hl i h1 z
      · rw [show i = a + (n + 1) by omega]; exact q
theorem off_2 {st : Nat × Nat} {v n V N : Nat} (h : V < v) : offP (offP st v n) V N = offP st V N := by
  simp only [offP_def]
  repeat' split
  all_goals first | rfl | (exfalso; simp at *; omega)
theorem off_3 {st : Nat × Nat} {v n V N : Nat} (h : v < V) : offP (offP st v n) V N = offP st v n := by
  simp only [offP_def]
  repeat' split
  all_goals first | rfl | (exfalso; simp at *; omega)
theorem off_4 {st : Nat × Nat} {v n N : Nat} : offP (offP st v n) v N = offP st v (cap (n + N)) := by
  simp only [offP_def]
  by_cases h1 : v < st.1
  · simp [h1]
  · by_cases h2 : v = st.1
    · simp only [h1, h2, if_true, if_false, Nat.lt_irrefl]
      rw [cap_l, cap_r, Nat.add_assoc]
    · simp [h1, h2]
theorem offR_leaf {ys : List (List Nat)} {cf mf F : Nat → Nat} {sh dp a b : Nat} {st : Nat × Nat} (hcf : ∀ j, j < ys.length → cf j < 1000000) (hab : a < b) (hby : b ≤ ys.length) (hdsh : dp ≤ sh) (hF : ∀ j, a ≤ j → j < b → F j = cf j + sh - dp) {V : Nat} (hV : isMn F a b V) : offP st (chU cf a (b - a) + sh - dp) (mnU cf mf a (chU cf a (b - a)) (b - a)) = offP st V (cap (smN (inV F a b V) mf ys.length)) := by
  have hm := chU_mn (cf := cf) (a := a) (b - a) (by omega) (fun j j1 j2 => hcf j (by omega))
  rw [show a + (b - a) = b by omega] at hm
  obtain ⟨⟨j, j1, j2, j3⟩, hl⟩ := hm
  have hV2 : isMn F a b (chU cf a (b - a) + sh - dp) := ⟨⟨j, j1, j2, by rw [hF j j1 j2, j3]⟩, fun i i1 i2 => by rw [hF i i1 i2]; have := hl i i1 i2; omega⟩
  rw [hV.one hV2, mnU_sm cf mf a _ (L := ys.length) (b - a) (by omega), show a + (b - a) = b by omega]
  congr 2
  exact smN_cong (fun i hi => by
    unfold inV
    rw [decide_eq_decide]
    constructor
    · rintro ⟨i1, i2, i3⟩
      exact ⟨i1, i2, by rw [hF i i1 i2, i3]⟩
    · rintro ⟨i1, i2, i3⟩
      refine ⟨i1, i2, ?_⟩
      rw [hF i i1 i2] at i3
      omega)
theorem offR_val {ys : List (List Nat)} {cf mf F : Nat → Nat} {sh : Nat} {x : List Nat} (hcf : ∀ j, j < ys.length → cf j < 1000000) (hsh : ∀ j, j < ys.length → alk x (ys.getD j []) ≤ sh) (hF : ∀ j, F j = cf j + sh - alk x (ys.getD j [])) :
    ∀ (f dp a b : Nat) (st st' : Nat × Nat), dp + (f + 1) = 6 → x.length ≤ 5 → a < b → b ≤ ys.length → (∀ j, a ≤ j → j < b → ∀ q, q < dp → dig x q = sx ys j q ∧ dig x q ≠ 0) → OffR ys cf mf sh x (f + 1) dp a b st st' → ∀ V, isMn F a b V → st' = offP st V (cap (smN (inV F a b V) mf ys.length)) := by
  intro f
  induction f with
  | zero =>
    intro dp a b st st' hdf hx5 hab hby hpre hO V hV
    have h0 : dig x dp = 0 := by
      unfold dig
      rw [List.getElem?_eq_none (by omega)]
    have hdsh : dp ≤ sh := Nat.le_trans (alk_ge (hpre a (Nat.le_refl _) hab)) (hsh a (by omega))
    rcases hO with ⟨-, hO⟩ | ⟨hO, -⟩
    · rw [hO]
      exact offR_leaf hcf hab hby hdsh (fun j j1 j2 => by rw [hF, alk_eq (hpre j j1 j2) (Or.inl h0)]) hV
    · exact absurd h0 hO
  | succ f ih =>
    intro dp a b st st' hdf hx5 hab hby hpre hO V hV
    have hdsh : dp ≤ sh := Nat.le_trans (alk_ge (hpre a (Nat.le_refl _) hab)) (hsh a (by omega))
    rcases hO with ⟨hno, hO⟩ | ⟨hd0, a', b', g1, g2, g3, g4, hO⟩
    · rw [hO]
      exact offR_leaf hcf hab hby hdsh (fun j j1 j2 => by rw [hF, alk_eq (hpre j j1 j2) (hno.elim Or.inl (fun q => Or.inr (q j j1 j2)))]) hV
    · have hm := chU_mn (cf := cf) (a := a) (b - a) (by omega) (fun j j1 j2 => hcf j (by omega))
      rw [show a + (b - a) = b by omega] at hm
      obtain ⟨⟨j0, k1, k2, k3⟩, hl⟩ := hm
      have hin : ∀ j, a' ≤ j → j < b' → ∀ q, q < dp + 1 → dig x q = sx ys j q ∧ dig x q ≠ 0 := fun j j1 j2 q hq => by
        rcases Nat.lt_or_ge q dp with z | z
        · exact hpre j (by omega) (by omega) q z
        · rw [show q = dp by omega]
          exact ⟨((g4 j (by omega) (by omega)).mpr ⟨j1, j2⟩).symm, hd0⟩
      have hI : ∀ j, a' ≤ j → j < b' → F j + (dp + 1) ≤ cf j + sh := fun j j1 j2 => by
        have := alk_ge (hin j j1 j2)
        have := hsh j (by omega)
        rw [hF]
        omega
      have hOu : ∀ j, a ≤ j → j < b → ¬ (a' ≤ j ∧ j < b') → F j = cf j + sh - dp := fun j j1 j2 j3 => by
        rw [hF, alk_eq (hpre j j1 j2) (Or.inr (fun e => j3 ((g4 j j1 j2).mp e)))]
      obtain ⟨V', hV'⟩ := isMn_ex F (a := a') (b' - a' - 1)
      rw [show a' + (b' - a' - 1 + 1) = b' by omega] at hV'
      have hr := ih (dp + 1) a' b' _ st' (by omega) hx5 g2 (by omega) hin hO V' hV'
      rw [hr, mnU_sm cf mf a _ (L := ys.length) (b - a) (by omega), show a + (b - a) = b by omega]
      generalize hmm : chU cf a (b - a) = m at k3 hl ⊢
      obtain ⟨⟨w, w1, w2, w3⟩, wl⟩ := hV'
      obtain ⟨⟨u, u1, u2, u3⟩, ul⟩ := hV
      have hw := ul w (by omega) (by omega)
      rcases Nat.lt_or_ge V' (m + sh - dp) with q | q
      · have hVV : V = V' := by
          by_cases z : a' ≤ u ∧ u < b'
          · have := wl u z.1 z.2
            omega
          · have e1 := hOu u u1 u2 z
            have e2 := hl u u1 u2
            omega
        rw [off_2 q, hVV]
        congr 2
        exact smN_cong (fun i hi => by
          unfold inV
          rw [decide_eq_decide]
          constructor
          · rintro ⟨i1, i2, i3⟩
            exact ⟨by omega, by omega, i3⟩
          · rintro ⟨i1, i2, i3⟩
            by_cases z : a' ≤ i ∧ i < b'
            · exact ⟨z.1, z.2, i3⟩
            · have e1 := hOu i i1 i2 z
              have e2 := hl i i1 i2
              omega)
      · have hnI : ∀ j, a' ≤ j → j < b' → cf j ≠ m := fun j j1 j2 e => by
          have e1 := hI j j1 j2
          have e2 := wl j j1 j2
          omega
        have hVv : V = m + sh - dp := by
          have e0 : F j0 = m + sh - dp := by
            rw [hOu j0 k1 k2 (fun z => hnI j0 z.1 z.2 k3), k3]
          have e1 := ul j0 k1 k2
          by_cases z : a' ≤ u ∧ u < b'
          · have := wl u z.1 z.2
            omega
          · have e3 := hOu u u1 u2 z
            have e2 := hl u u1 u2
            omega
        have hout : ∀ i, (inV cf a b m i = true ↔ a ≤ i ∧ i < b ∧ ¬ (a' ≤ i ∧ i < b') ∧ F i = V) := fun i => by
          rw [inV_t]
          constructor
          · rintro ⟨i1, i2, i3⟩
            have z : ¬ (a' ≤ i ∧ i < b') := fun z => hnI i z.1 z.2 i3
            exact ⟨i1, i2, z, by rw [hOu i i1 i2 z, i3, hVv]⟩
          · rintro ⟨i1, i2, i3, i4⟩
            rw [hOu i i1 i2 i3] at i4
            have := hl i i1 i2
            exact ⟨i1, i2, by omega⟩
        rcases Nat.lt_or_ge (m + sh - dp) V' with q2 | q2
        · rw [off_3 q2, hVv]
          congr 2
          exact smN_cong (fun i hi => by
            rw [Bool.eq_iff_iff, hout i, inV_t, hVv]
            constructor
            · rintro ⟨i1, i2, i3, i4⟩
              exact ⟨i1, i2, i4⟩
            · rintro ⟨i1, i2, i3⟩
              refine ⟨i1, i2, fun z => ?_, i3⟩
              have := wl i z.1 z.2
              omega)
        · have hV3 : V' = m + sh - dp := by omega
          rw [hV3, off_4, hVv]
          congr 1
          rw [cap_cap]
          congr 1
          refine (smN_or (fun i hi => ?_)).symm
          rw [hout i, inV_t, inV_t, hVv]
          constructor
          · constructor
            · rintro ⟨i1, i2, i3⟩
              by_cases z : a' ≤ i ∧ i < b'
              · exact Or.inr ⟨z.1, z.2, i3⟩
              · exact Or.inl ⟨i1, i2, z, i3⟩
            · rintro (⟨i1, i2, i3, i4⟩ | ⟨i1, i2, i3⟩)
              · exact ⟨i1, i2, i4⟩
              · exact ⟨by omega, by omega, i3⟩
          · rintro ⟨⟨i1, i2, i3, i4⟩, ⟨i5, i6, i7⟩⟩
            exact i3 ⟨i5, i6⟩
