/-! the constructor of History -/
theorem wP_app : ∀ (a b : PL), wP (a ++ b) = wP a ++ wP b
  | [], b => rfl
  | q :: a, b => by
    show gW q.1 q.2 ++ wP (a ++ b) = gW q.1 q.2 ++ wP a ++ wP b
    rw [wP_app a b, List.append_assoc]
theorem tP_app : ∀ (a b : PL), tP (a ++ b) = tP a ++ tP b
  | [], b => rfl
  | q :: a, b => by
    show tysL q.1 (cO q.2) ++ tP (a ++ b) = tysL q.1 (cO q.2) ++ tP a ++ tP b
    rw [tP_app a b, List.append_assoc]
theorem layP_T : ∀ (ts : PL), (∀ q ∈ ts, q.1 = layT) → layP ts = (List.replicate ts.length layT).flatten
  | [], _ => rfl
  | q :: ts, h => by
    show q.1 ++ layP ts = _
    rw [h q List.mem_cons_self, layP_T ts (fun x hx => h x (List.mem_cons_of_mem _ hx)), List.length_cons, List.replicate_succ, List.flatten_cons]
theorem gl_T (z : CQ) : ∀ (ts : PL) (j : Nat), (∀ q ∈ ts, q.1 = layT) → j < ts.length → ∃ q, ts[j]? = some q ∧ gl z ts (5 * j) = q.2 0
  | [], j, _, hj => absurd hj (Nat.not_lt_zero j)
  | q :: ts, 0, h, _ => ⟨q, rfl, gl_l (by rw [h q List.mem_cons_self]; decide)⟩
  | q :: ts, j + 1, h, hj => by
    obtain ⟨r, h1, h2⟩ := gl_T z ts j (fun x hx => h x (List.mem_cons_of_mem _ hx)) (by simpa using hj)
    refine ⟨r, by rw [List.getElem?_cons_succ]; exact h1, ?_⟩
    have hl : q.1.length = 5 := by rw [h q List.mem_cons_self]; rfl
    rw [← h2, show 5 * (j + 1) = q.1.length + 5 * j by omega]
    exact gl_r
def fT (ts : PL) : Nat → Option Nat := fun j => (ts[j]?).map fun q => (q.2 0).1
theorem glued2 {τ : Nat} {ps : PL} {z : CQ} {v : va_E} (hw : ∀ q ∈ ps, wfB q.1 = true) (hc : cellE (aO (glH z ps)) (cO (glH z ps)) (mO (glH z ps)) τ 0 = v) : gW (τ :: layP ps) (glH z ps) = (z.1, v) :: wP ps := by
  have h1 : gW (τ :: layP ps) (glH z ps) = wS (τ :: layP ps) (glH z ps) 0 (1 + (layP ps).length) := by
    unfold gW wld wS
    rw [List.length_cons, Nat.add_comm]
    refine List.map_congr_left fun i _ => ?_
    rw [Nat.zero_add]
  rw [h1, wS_add, wS_ps (z := z) ps (0 + 1) hw (fun i _ => by rw [Nat.zero_add, Nat.add_comm]; rfl) (fun i _ => by rw [Nat.zero_add, Nat.add_comm]; rfl)]
  show (z.1, cellE (aO (glH z ps)) (cO (glH z ps)) (mO (glH z ps)) τ 0) :: wP ps = _
  rw [hc]
def WdH (h q : Nat) (cA : ClassId) (ts : PL) : va_W := (h, .inr (0, [.ref q, .int (nI 0), .int (nI 0)])) :: (q, .inl (cA, 12, .inr (.inr (.inr (.inr (fT ts)))))) :: wP ts
theorem hist_w (h q : Nat) (cA : ClassId) (ts : PL) (hall : ∀ q ∈ ts, q.1 = layT) (hlen : ts.length = 12) : ∃ g : Nat → CQ, aO g 0 = h ∧ ((mO g).1 0 1 = 0 ∧ (mO g).1 0 2 = 0) ∧ WdH h q cA ts = wld layH (aO g) (cO g) (mO g) ∧ ∀ x ∈ tysL layH (cO g), x ∈ (cA, .object "NestRanges$Text") :: tP ts := by
  have hl : layP ts = (List.replicate 12 layT).flatten := by rw [layP_T ts hall, hlen]
  have hw1 : ∀ q ∈ ts, wfB q.1 = true := fun q hq => by rw [hall q hq]; exact wf_layT
  have h1 := glued2 (τ := 30) (ps := ts) (z := (q, cA, fun _ => 0, fun _ => 0)) (v := .inl (cA, 12, .inr (.inr (.inr (.inr (fT ts)))))) hw1 (by
    refine congrArg (fun z => Sum.inl (cA, (12, Sum.inr (Sum.inr (Sum.inr (Sum.inr z)))))) (funext fun j => ?_)
    show (if j < 12 then some (aO (glH (q, cA, fun _ => 0, fun _ => 0) ts) (0 + 1 + 5 * j)) else none) = fT ts j
    by_cases hj : j < 12
    · obtain ⟨r, r1, r2⟩ := gl_T (q, cA, fun _ => 0, fun _ => 0) ts j hall (by omega)
      rw [if_pos hj, show 0 + 1 + 5 * j = 5 * j + 1 by omega]
      show some (gl (q, cA, fun _ => 0, fun _ => 0) ts (5 * j)).1 = _
      rw [r2]
      unfold fT
      rw [r1]
      rfl
    · rw [if_neg hj]
      unfold fT
      rw [List.getElem?_eq_none (by omega)]
      rfl)
  generalize hg1 : glH (q, cA, fun _ => 0, fun _ => 0) ts = g1 at h1
  have hw2 : wfB (30 :: layP ts) = true := by rw [hl]; decide +kernel
  have hp0 : (gl (h, cA, fun _ => 0, fun _ => 0) [(30 :: layP ts, g1)] 0).1 = q := by
    rw [gl_l (by simp), ← hg1]
    rfl
  have h2 := glued2 (τ := 10) (ps := [(30 :: layP ts, g1)]) (z := (h, cA, fun _ => 0, fun _ => 0)) (v := .inr (0, [.ref q, .int (nI 0), .int (nI 0)])) (fal hw2 fal0) (by
    show Sum.inr (0, [Value.ref (gl (h, cA, fun _ => 0, fun _ => 0) [(30 :: layP ts, g1)] 0).1, Value.int 0, Value.int 0]) = _
    rw [hp0]
    rfl)
  have hlay : 10 :: layP [(30 :: layP ts, g1)] = layH := by
    show 10 :: ((30 :: layP ts) ++ []) = layH
    rw [hl]
    rfl
  rw [hlay] at h2
  refine ⟨glH (h, cA, fun _ => 0, fun _ => 0) [(30 :: layP ts, g1)], rfl, ⟨rfl, rfl⟩, ?_, fun x hx => ?_⟩
  · refine Eq.trans ?_ h2.symm
    show _ = _ :: (gW (30 :: layP ts) g1 ++ [])
    rw [h1, List.append_nil]
    rfl
  · have h3 : x ∈ tP [(30 :: layP ts, g1)] := tys_glued (τ := 10) (z := (h, cA, fun _ => 0, fun _ => 0)) (by decide) x (by rw [hlay]; exact hx)
    have h4 : x ∈ tysL (30 :: layP ts) (cO g1) := by
      rcases List.mem_append.mp h3 with r | r
      · exact r
      · cases r
    obtain ⟨id, hid, rfl⟩ := List.mem_map.mp h4
    have h5 := Nat.le_of_ble_eq_true (List.mem_filter.mp hid).2
    cases id with
    | zero =>
      rw [← hg1]
      exact List.mem_cons_self
    | succ i =>
      rw [← hg1]
      exact List.mem_cons_of_mem _ (tys_ps (z := (q, cA, fun _ => 0, fun _ => 0)) ts i h5)
theorem fT_up (ts : PL) (q : List Nat × (Nat → CQ)) : va_up (fT ts) ts.length (some (q.2 0).1) = fT (ts ++ [q]) := funext fun j => by
  by_cases h : j = ts.length
  · subst h
    rw [va_up_self]
    unfold fT
    rw [List.getElem?_append_right (Nat.le_refl _), Nat.sub_self]
    rfl
  · rw [va_up_ne _ _ h]
    unfold fT
    rcases Nat.lt_or_ge j ts.length with r | r
    · rw [List.getElem?_append_left r]
    · rw [List.getElem?_eq_none r, List.getElem?_eq_none (by rw [List.length_append]; simp; omega)]
section BLDH
variable {p : Program} {l : Launch} {e : Env} {R : Room} {s : State} {m : MethodId} {args : Array Value} {below : List Frame} {meth : Method} {c : Code} {Q : State → Prop}
variable {cc : ByteArray} {own : String} {maxL : Nat} {D : va_G} {A : Nat → Prop} {h ci pc : Nat} {ls : Array Slot} {st : List Value} {ws rest : va_W} {tys : List (ClassId × FieldType)} {cells slots : Nat} {fs : List Value}
theorem b_newq (X : BX p s m args meth c cc maxL own A ls h) {n idx : Nat} {C : String} (hd : decode cc pc = .ok (.anewarray idx, 3)) (w1 : Cond.classLink own idx C ∈ lg) (hAO : va_AO C s) (hn : n < 100000) (hc : cells + 1 ≤ R.cells) (hs : slots + n ≤ R.slots) (k : ∀ q cA, GB p l e R s m args below meth c Q D A ls (pc + 3) (.ref q :: st) (ws ++ [(q, .inl (cA, n, .inr (.inr (.inr (.inr (fun _ => none))))))]) (tys ++ [(cA, .object C)]) (cells + 1) (slots + n)) : GB p l e R s m args below meth c Q D A ls pc (.int (nI n) :: st) ws tys cells slots := fun H locs hB => by
  obtain ⟨hP, hD, hK, hS⟩ := hB
  exact va_newq X.1 X.2.1 X.2.2.2.1 (X.2.2.2.2.1 _ w1) hAO hK hP hD hS X.2.2.2.2.2.2.2.2 (nx_neg (by omega)) (nx_cl (by omega)) (by omega) hc hs hd (fun q cA H1 hK hP hD hS => k q cA H1 locs ⟨hP, hD, hK, hS⟩)
end BLDH
set_option maxRecDepth 100000 in
set_option maxHeartbeats 4000000 in
theorem cnH (l : Launch) (D : va_G) : Cn l D 2 ⟨"NestRanges$History", "<init>", "()V"⟩ prog_2_method_1_code 2 0 [.null, .int 0, .int 0] layH (fun μ => μ.1 0 1 = 0 ∧ μ.1 0 2 = 0) 61 420 := by
  refine Cn_intro (by decide +kernel) rfl (by decide) (fun p e s m args below meth c Q A ls h X hAO hl hR => ?_)
  have X : BX p s m args meth c prog_2_method_1_code 2 "NestRanges$History" A ls h := X
  refine b_ld X (by decide +kernel : decode prog_2_method_1_code 0 = .ok (.aload_n 0, 1)) ?_
  refine b_obj X (by decide +kernel : decode prog_2_method_1_code 1 = .ok (.invokespecial 3, 3)) (wAt_in (pl := 130) (by decide +kernel) rfl) (wAt_in (pl := 80) (by decide +kernel) rfl) (wAt_in (pl := 81) (by decide +kernel) rfl) ⟨(Nat.le_of_ble_eq_true rfl), (Nat.le_of_ble_eq_true rfl)⟩ ?_
  refine b_ld X (by decide +kernel : decode prog_2_method_1_code 4 = .ok (.aload_n 0, 1)) ?_
  refine b_bi X (v := nI 12) (by decide +kernel : decode prog_2_method_1_code 5 = .ok (.bipush 12, 2)) (by decide +kernel) ?_
  refine b_newq X (n := 12) (C := "NestRanges$Text") (by decide +kernel : decode prog_2_method_1_code 7 = .ok (.anewarray 9, 3)) (wAt_in (pl := 131) (by decide +kernel) rfl) hAO.1 (by decide) (Nat.le_of_ble_eq_true rfl) (Nat.le_of_ble_eq_true rfl) (fun q cA => ?_)
  refine b_putF X (q0 := ("NestRanges$History", cT0, 3)) (ci := 0) (k := 0) (ty := cY0 0) (fs := [.null, .int 0, .int 0]) (rest := [(q, .inl (cA, 12, .inr (.inr (.inr (.inr (fun _ => none))))))]) rfl (by decide) (by decide +kernel : decode prog_2_method_1_code 10 = .ok (.putfield 11, 3)) (wAt_in (pl := 134) (by decide +kernel) rfl) rfl rfl (cY0_ok 0 (by decide)) rfl rfl (Nat.le_of_ble_eq_true rfl) ?_
  refine s_int X (q0 := ("NestRanges$History", cT0, 3)) (ci := 0) (idx := 17) (k := 1) (n := 0) (ln := 1) (ty := cY0 1) 18 rfl (by decide) (by decide +kernel : decode prog_2_method_1_code 13 = .ok (.aload_n 0, 1)) (Or.inl ⟨(by decide +kernel : decode prog_2_method_1_code 14 = .ok (.iconst 0, 1)), rfl, by decide +kernel⟩) (by decide +kernel : decode prog_2_method_1_code 15 = .ok (.putfield 17, 3)) (wAt_in (pl := 135) (by decide +kernel) rfl) rfl (cY0_ok 1 (by decide)) (by decide +kernel) (by decide +kernel) (Nat.le_of_ble_eq_true rfl) rfl (fun fs1 ef1 hl1 => ?_)
  clear hl1
  obtain rfl : fs1 = [.ref q, .int (nI 0), .int 0] := ef1
  refine s_int X (q0 := ("NestRanges$History", cT0, 3)) (ci := 0) (idx := 21) (k := 2) (n := 0) (ln := 1) (ty := cY0 2) 23 rfl (by decide) (by decide +kernel : decode prog_2_method_1_code 18 = .ok (.aload_n 0, 1)) (Or.inl ⟨(by decide +kernel : decode prog_2_method_1_code 19 = .ok (.iconst 0, 1)), rfl, by decide +kernel⟩) (by decide +kernel : decode prog_2_method_1_code 20 = .ok (.putfield 21, 3)) (wAt_in (pl := 136) (by decide +kernel) rfl) rfl (cY0_ok 2 (by decide)) (by decide +kernel) (by decide +kernel) (Nat.le_of_ble_eq_true rfl) rfl (fun fs1 ef1 hl1 => ?_)
  clear hl1
  obtain rfl : fs1 = [.ref q, .int (nI 0), .int (nI 0)] := ef1
  refine b_ic X (v := nI 0) (by decide +kernel : decode prog_2_method_1_code 23 = .ok (.iconst 0, 1)) (by decide +kernel) ?_
  have loop : ∀ (n i : Nat) (ts : PL) (ls : Array Slot), i + n = 12 → ts.length = i → (∀ q ∈ ts, q.1 = layT) → lv_has ls 2 [(1, .int (nI i)), (0, .ref h)] → GB p l e (CnR 2 61 420) s m args below meth c Q D A ls 25 [] (WdH h q cA ts) ((cA, .object "NestRanges$Text") :: tP ts) (1 + 5 * i) (12 + 34 * i) := by
    intro n
    induction n with
    | zero =>
      intro i ts ls hi hlen hall hl H locs hB
      obtain rfl : i = 12 := by omega
      obtain ⟨g, g0, g1, g2, g3⟩ := hist_w h q cA ts hall hlen
      refine lv_iload_n X.1 X.2.1 (by decide +kernel : decode prog_2_method_1_code 25 = .ok (.iload_n 1, 1)) rfl (lv_at hl 0 rfl) ?_
      refine lv_bipush X.1 X.2.1 (v := nI 12) (by decide +kernel : decode prog_2_method_1_code 26 = .ok (.bipush 12, 2)) (by decide +kernel) ?_
      refine lv_icmp_ge X.1 X.2.1 (tgt := 50) (by decide +kernel : decode prog_2_method_1_code 28 = .ok (.if_icmp .ge 22, 3)) (by decide) (fun _ => ?_) (fun q9 => absurd (show nI 12 ≤ nI 12 by decide) q9)
      exact b_eq g2 (hR ls 50 _ _ _ _ _ _ (by decide +kernel : decode prog_2_method_1_code 50 = .ok (.return_, 1)) g0 g1 g3 (Nat.le_of_ble_eq_true rfl) (Nat.le_of_ble_eq_true rfl)) H locs hB
    | succ n ih =>
      intro i ts ls hi hlen hall hl
      have X1 : BX p s m args meth c prog_2_method_1_code 2 "NestRanges$History" A ls h := ⟨X.1, X.2.1, X.2.2.1, X.2.2.2.1, X.2.2.2.2.1, X.2.2.2.2.2.1, hl.1, lv_at hl 1 rfl, X.2.2.2.2.2.2.2.2⟩
      intro H locs hB
      refine lv_iload_n X.1 X.2.1 (by decide +kernel : decode prog_2_method_1_code 25 = .ok (.iload_n 1, 1)) rfl (lv_at hl 0 rfl) ?_
      refine lv_bipush X.1 X.2.1 (v := nI 12) (by decide +kernel : decode prog_2_method_1_code 26 = .ok (.bipush 12, 2)) (by decide +kernel) ?_
      refine lv_icmp_ge X.1 X.2.1 (tgt := 50) (by decide +kernel : decode prog_2_method_1_code 28 = .ok (.if_icmp .ge 22, 3)) (by decide) (fun q9 => ?_) (fun _ => ?_)
      · rw [nx_le (by omega) (by omega)] at q9
        omega
      refine lv_aload_n X.1 X.2.1 (by decide +kernel : decode prog_2_method_1_code 31 = .ok (.aload_n 0, 1)) rfl (lv_at hl 1 rfl) ?_
      obtain ⟨c1, ⟨ty0, c2⟩, c3, c4, c5⟩ := clsOK 0 ("NestRanges$History", cT0, 3) rfl
      refine va_get (own := "NestRanges$History") X.1 X.2.1 X.2.2.2.2.1 c1 X.2.2.2.1 hB.2.2.1 hB.1 0 rfl rfl 0 (by decide) (X.2.2.2.2.1 _ (wAt_in (pl := 134) (by decide +kernel) rfl)) (fun _ h9 => h9) rfl (by decide +kernel : decode prog_2_method_1_code 32 = .ok (.getfield 11, 3)) ?_
      refine lv_iload_n X.1 X.2.1 (by decide +kernel : decode prog_2_method_1_code 35 = .ok (.iload_n 1, 1)) rfl (lv_at hl 0 rfl) ?_
      refine b_new X1 (pc := 36) (q0 := ("NestRanges$Text", cT3, 6)) (ci' := 3) (ty := cY3) (y := ⟨"NestRanges$Text", "<init>", "()V"⟩) (fs' := [.null, .null, .null, .null, .int 0, .int 0]) rfl (by decide +kernel : decode prog_2_method_1_code 36 = .ok (.new 9, 3)) (by decide +kernel : decode prog_2_method_1_code 39 = .ok (.dup, 1)) (by decide +kernel : decode prog_2_method_1_code 40 = .ok (.invokespecial 24, 3)) cY3_ok (fun j hj => by have hj : j < 6 := hj; rcases (show j = 0 ∨ j = 1 ∨ j = 2 ∨ j = 3 ∨ j = 4 ∨ j = 5 by omega) with e | e | e | e | e | e <;> subst e <;> rfl) (wAt_in (pl := 131) (by decide +kernel) rfl) (wAt_in (pl := 83) (by decide +kernel) rfl) (wAt_in (pl := 65) (by decide +kernel) rfl) (wAt_in (pl := 133) (by decide +kernel) rfl) (wAt_in (pl := 85) (by decide +kernel) rfl) (wAt_in (pl := 86) (by decide +kernel) rfl) rfl rfl ⟨by decide +kernel, by decide +kernel, by decide +kernel⟩ (by decide) (cnT l D) hAO ⟨(Nat.le_of_ble_eq_true rfl), (Nat.le_of_ble_eq_true rfl)⟩ (by show 1 + 5 * i + 1 + 4 ≤ 61; omega) (by show 12 + 34 * i + 6 + 28 ≤ 420; omega) (Nat.le_of_ble_eq_true rfl) (fun a k m hΦ => ?_) H locs hB
      intro H locs hB
      obtain ⟨hP, hD, hK, hS⟩ := hB
      have hne : (wld layT a k m)[0]? = some (a 0, .inr (3, (List.range (nfl 3)).map (fval a m 0 3))) := rfl
      refine va_astq X.1 X.2.1 hK hP hD hS 1 0 ((WdH h q cA ts).length + 0) 3 rfl rfl (by rw [List.getElem?_append_right (by omega), Nat.add_sub_cancel_left]; exact hne) (r := ("NestRanges$Text", cT3, 6)) rfl (by rw [nx_in' (by omega) (by omega)]; omega) (by decide +kernel : decode prog_2_method_1_code 43 = .ok (.aastore, 1)) (fun H1 locs1 hP hD hS => ?_)
      rw [nx_cl (by omega)] at hP hD
      have ew : ∀ v, (WdH h q cA ts ++ wld layT a k m).set 1 (q, .inl (cA, 12, .inr (.inr (.inr (.inr v))))) = (h, .inr (0, [.ref q, .int (nI 0), .int (nI 0)])) :: (q, .inl (cA, 12, .inr (.inr (.inr (.inr v))))) :: (wP ts ++ wld layT a k m) := fun v => rfl
      have ef := fT_up ts (layT, pkq a k m)
      rw [hlen] at ef
      have ef : va_up (fT ts) i (some (a 0)) = fT (ts ++ [(layT, pkq a k m)]) := ef
      have e2 : wP ts ++ wld layT a k m = wP (ts ++ [(layT, pkq a k m)]) := by
        rw [wP_app]
        show _ = wP ts ++ (gW layT (pkq a k m) ++ [])
        rw [List.append_nil]
        rfl
      have e3 : ((cA, .object "NestRanges$Text") :: tP ts) ++ tysL layT k = ((cA, .object "NestRanges$Text") :: tP (ts ++ [(layT, pkq a k m)]) : List (ClassId × FieldType)) := by
        rw [tP_app]
        show _ :: (tP ts ++ tysL layT k) = _ :: (tP ts ++ (tysL layT (cO (pkq a k m)) ++ []))
        rw [List.append_nil]
        rfl
      rw [ew, ef, e2] at hP hD
      rw [e3] at hK
      refine lv_iinc X.1 X.2.1 (by decide +kernel : decode prog_2_method_1_code 44 = .ok (.iinc 1 1, 3)) hl (k := 0) rfl (v := nI (i + 1)) (by rw [show Int32.ofInt 1 = (1 : Int32) from by decide +kernel, nI_succ]) (by decide) rfl (fun ls2 hl2 => ?_)
      refine lv_goto X.1 X.2.1 (tgt := 25) (by decide +kernel : decode prog_2_method_1_code 47 = .ok (.goto (-22), 3)) (by decide) ?_
      have hfin := ih (i + 1) (ts ++ [(layT, pkq a k m)]) ls2 (by omega) (by rw [List.length_append, hlen]; rfl) (fun x hx => by
        rcases List.mem_append.mp hx with r | r
        · exact hall x r
        · rcases List.mem_cons.mp r with r | r
          · rw [r]
          · cases r) hl2 H1 locs1 ⟨hP, hD, hK, hS⟩
      rw [show 1 + 5 * (i + 1) = 1 + 5 * i + 1 + 4 by omega, show 12 + 34 * (i + 1) = 12 + 34 * i + 6 + 28 by omega] at hfin
      exact hfin
  intro H locs hB
  refine lv_istore_n X.1 X.2.1 (by decide +kernel : decode prog_2_method_1_code 24 = .ok (.istore_n 1, 1)) rfl hl (by decide) rfl (fun ls1 hl1 => ?_)
  exact loop 12 0 [] ls1 rfl rfl (fun x hx => by cases hx) hl1 H locs hB
