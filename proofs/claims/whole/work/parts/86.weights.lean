/-! the constructor of Weights -/
def mul (q : Nat) (c y : ClassId) : Nat → CQ := fun i => match i with
  | 0 => (q, c, fun _ => 0, fun _ => 0)
  | i + 1 => (q + 1 + i, y, fun _ => 0, fun _ => 0)
theorem mul_a (q : Nat) (c y : ClassId) (j : Nat) : aO (mul q c y) (0 + 1 + 1 * j) = q + 1 + j := by
  rw [show 0 + 1 + 1 * j = j + 1 by omega]
  rfl
theorem mul31 (q : Nat) (c y : ClassId) : gW [31, 10120, 10120, 10120, 10120, 10120, 10120, 10120, 10120, 10120, 10120, 10120, 10120, 10120, 10120, 10120] (mul q c y) = [(q, .inl (c, 15, .inr (.inr (.inr (.inr (fun i => if i < 15 then some (q + 1 + i) else none))))))] ++ ((List.range 15).map (fun i => q + 1 + i)).map (fun a => (a, .inl (y, 120, .inl (fun _ => 0)))) := by
  have h0 : cellE (aO (mul q c y)) (cO (mul q c y)) (mO (mul q c y)) 31 0 = .inl (c, 15, .inr (.inr (.inr (.inr (fun i => if i < 15 then some (q + 1 + i) else none))))) := by
    refine congrArg (fun z => Sum.inl (c, (15, Sum.inr (Sum.inr (Sum.inr (Sum.inr z)))))) (funext fun j => ?_)
    show (if j < 15 then some (aO (mul q c y) (0 + 1 + 1 * j)) else none) = _
    rw [mul_a]
  rw [← h0]
  rfl
theorem tmul31 (q : Nat) (c y : ClassId) : tysL [31, 10120, 10120, 10120, 10120, 10120, 10120, 10120, 10120, 10120, 10120, 10120, 10120, 10120, 10120, 10120] (cO (mul q c y)) = (c, .array .int) :: List.replicate 15 (y, .int) := rfl
theorem mul32 (q : Nat) (c y : ClassId) : gW [32, 10120, 10120] (mul q c y) = [(q, .inl (c, 2, .inr (.inr (.inr (.inr (fun i => if i < 2 then some (q + 1 + i) else none))))))] ++ ((List.range 2).map (fun i => q + 1 + i)).map (fun a => (a, .inl (y, 120, .inl (fun _ => 0)))) := by
  have h0 : cellE (aO (mul q c y)) (cO (mul q c y)) (mO (mul q c y)) 32 0 = .inl (c, 2, .inr (.inr (.inr (.inr (fun i => if i < 2 then some (q + 1 + i) else none))))) := by
    refine congrArg (fun z => Sum.inl (c, (2, Sum.inr (Sum.inr (Sum.inr (Sum.inr z)))))) (funext fun j => ?_)
    show (if j < 2 then some (aO (mul q c y) (0 + 1 + 1 * j)) else none) = _
    rw [mul_a]
  rw [← h0]
  rfl
theorem tmul32 (q : Nat) (c y : ClassId) : tysL [32, 10120, 10120] (cO (mul q c y)) = (c, .array .int) :: List.replicate 2 (y, .int) := rfl
theorem amA {α : Type} {P : α → Prop} {a b : List α} (h1 : ∀ x ∈ a, P x) (h2 : ∀ x ∈ b, P x) : ∀ x ∈ a ++ b, P x := fun x hx => (List.mem_append.mp hx).elim (h1 x) (h2 x)
theorem amC {α : Type} {P : α → Prop} {a : α} {l : List α} (h1 : P a) (h2 : ∀ x ∈ l, P x) : ∀ x ∈ a :: l, P x := fun x hx => (List.mem_cons.mp hx).elim (fun e => by rw [e]; exact h1) (h2 x)
theorem amR {α : Type} {P : α → Prop} {a : α} {n : Nat} (h1 : P a) : ∀ x ∈ List.replicate n a, P x := fun x hx => by rw [List.eq_of_mem_replicate hx]; exact h1
theorem amN {α : Type} {P : α → Prop} : ∀ x ∈ ([] : List α), P x := fun x hx => by cases hx
def cnW_z (h : Nat) (q0 : Nat) (c0 y0 : ClassId) (q1 : Nat) (c1 y1 : ClassId) (q2 : Nat) (c2 y2 : ClassId) (q3 : Nat) (c3 : ClassId) (q4 : Nat) (c4 : ClassId) : CQ := (h, c0, (fun k => match k with | 5 => (nI 0) | 6 => (nI 0) | 7 => (nI 1) | _ => 0), fun _ => 0)
def cnW_p (h : Nat) (q0 : Nat) (c0 y0 : ClassId) (q1 : Nat) (c1 y1 : ClassId) (q2 : Nat) (c2 y2 : ClassId) (q3 : Nat) (c3 : ClassId) (q4 : Nat) (c4 : ClassId) : PL := [([31, 10120, 10120, 10120, 10120, 10120, 10120, 10120, 10120, 10120, 10120, 10120, 10120, 10120, 10120, 10120], mul q0 c0 y0), ([31, 10120, 10120, 10120, 10120, 10120, 10120, 10120, 10120, 10120, 10120, 10120, 10120, 10120, 10120, 10120], mul q1 c1 y1), ([32, 10120, 10120], mul q2 c2 y2), ([10015], one q3 c3), ([10008], one q4 c4)]
def cnW_g (h : Nat) (q0 : Nat) (c0 y0 : ClassId) (q1 : Nat) (c1 y1 : ClassId) (q2 : Nat) (c2 y2 : ClassId) (q3 : Nat) (c3 : ClassId) (q4 : Nat) (c4 : ClassId) : Nat → CQ := glH (cnW_z h q0 c0 y0 q1 c1 y1 q2 c2 y2 q3 c3 q4 c4) (cnW_p h q0 c0 y0 q1 c1 y1 q2 c2 y2 q3 c3 q4 c4)
theorem cnW_w (h : Nat) (q0 : Nat) (c0 y0 : ClassId) (q1 : Nat) (c1 y1 : ClassId) (q2 : Nat) (c2 y2 : ClassId) (q3 : Nat) (c3 : ClassId) (q4 : Nat) (c4 : ClassId) : ((h, .inr (4, [.ref q0, .ref q1, .ref q2, .ref q3, .ref q4, .int (nI 0), .int (nI 0), .int (nI 1)])) :: (((((((([] ++ [(q0, .inl (c0, 15, .inr (.inr (.inr (.inr (fun i => if i < 15 then some (q0 + 1 + i) else none))))))]) ++ ((List.range 15).map (fun i => q0 + 1 + i)).map (fun a => (a, .inl (y0, 120, .inl (fun _ => 0))))) ++ [(q1, .inl (c1, 15, .inr (.inr (.inr (.inr (fun i => if i < 15 then some (q1 + 1 + i) else none))))))]) ++ ((List.range 15).map (fun i => q1 + 1 + i)).map (fun a => (a, .inl (y1, 120, .inl (fun _ => 0))))) ++ [(q2, .inl (c2, 2, .inr (.inr (.inr (.inr (fun i => if i < 2 then some (q2 + 1 + i) else none))))))]) ++ ((List.range 2).map (fun i => q2 + 1 + i)).map (fun a => (a, .inl (y2, 120, .inl (fun _ => 0))))) ++ [(q3, .inl (c3, 15, .inl (fun _ => 0)))]) ++ [(q4, .inl (c4, 8, .inl (fun _ => 0)))]) : va_W) = wld layW (aO (cnW_g h q0 c0 y0 q1 c1 y1 q2 c2 y2 q3 c3 q4 c4)) (cO (cnW_g h q0 c0 y0 q1 c1 y1 q2 c2 y2 q3 c3 q4 c4)) (mO (cnW_g h q0 c0 y0 q1 c1 y1 q2 c2 y2 q3 c3 q4 c4)) := by
  have hw : ∀ q ∈ cnW_p h q0 c0 y0 q1 c1 y1 q2 c2 y2 q3 c3 q4 c4, wfB q.1 = true := (fal (by show wfB [31, 10120, 10120, 10120, 10120, 10120, 10120, 10120, 10120, 10120, 10120, 10120, 10120, 10120, 10120, 10120] = true; decide +kernel) (fal (by show wfB [31, 10120, 10120, 10120, 10120, 10120, 10120, 10120, 10120, 10120, 10120, 10120, 10120, 10120, 10120, 10120] = true; decide +kernel) (fal (by show wfB [32, 10120, 10120] = true; decide +kernel) (fal (by show wfB [10015] = true; decide +kernel) (fal (by show wfB [10008] = true; decide +kernel) fal0)))))
  have h1 := glued (τ := 14) (ci := 4) (ps := cnW_p h q0 c0 y0 q1 c1 y1 q2 c2 y2 q3 c3 q4 c4) (z := cnW_z h q0 c0 y0 q1 c1 y1 q2 c2 y2 q3 c3 q4 c4) (fs := [.ref q0, .ref q1, .ref q2, .ref q3, .ref q4, .int (nI 0), .int (nI 0), .int (nI 1)]) hw rfl
  refine Eq.trans ?_ h1.symm
  refine congrArg (List.cons _) ?_
  simp only [cnW_p, wP, List.append_assoc, List.nil_append, List.append_nil, mul31 q0 c0 y0, mul31 q1 c1 y1, mul32 q2 c2 y2]
  rfl
theorem cnW_t (h q0 q1 q2 q3 q4 : Nat) (c0 c1 c2 c3 c4 : ClassId) : ∀ x ∈ tysL layW (cO (cnW_g h q0 c0 c3 q1 c1 c3 q2 c2 c3 q3 c3 q4 c4)), x ∈ ([(c0, .array .int), (c1, .array .int), (c2, .array .int), (c3, .int), (c4, .int)] : List (ClassId × FieldType)) := fun x hx => by
  have h1 : x ∈ tP (cnW_p h q0 c0 c3 q1 c1 c3 q2 c2 c3 q3 c3 q4 c4) := tys_glued (by decide) x hx
  simp only [cnW_p, tP, tmul31, tmul32, List.append_nil] at h1
  exact (amA (amC (List.mem_of_getElem? (i := 0) rfl) (amR (List.mem_of_getElem? (i := 3) rfl))) (amA (amC (List.mem_of_getElem? (i := 1) rfl) (amR (List.mem_of_getElem? (i := 3) rfl))) (amA (amC (List.mem_of_getElem? (i := 2) rfl) (amR (List.mem_of_getElem? (i := 3) rfl))) (amA (amC (List.mem_of_getElem? (i := 3) rfl) amN) (amC (List.mem_of_getElem? (i := 4) rfl) amN))))) x h1
set_option maxRecDepth 100000 in
set_option maxHeartbeats 4000000 in
theorem cnW (l : Launch) (D : va_G) : Cn l D 0 ⟨"NestRanges$Weights", "<init>", "()V"⟩ prog_7_method_1_code 1 4 [.null, .null, .null, .null, .null, .int 0, .int 0, .int 0] layW (fun _ => True) 37 3895 := by
  refine Cn_intro (by decide +kernel) rfl (by decide) (fun p e s m args below meth c Q A ls h X hAO hl hR => ?_)
  have X : BX p s m args meth c prog_7_method_1_code 1 "NestRanges$Weights" A ls h := X
  refine b_ld X (by decide +kernel : decode prog_7_method_1_code 0 = .ok (.aload_n 0, 1)) ?_
  refine b_obj X (by decide +kernel : decode prog_7_method_1_code 1 = .ok (.invokespecial 3, 3)) (wAt_in (pl := 150) (by decide +kernel) rfl) (wAt_in (pl := 80) (by decide +kernel) rfl) (wAt_in (pl := 81) (by decide +kernel) rfl) ⟨(Nat.le_of_ble_eq_true rfl), (Nat.le_of_ble_eq_true rfl)⟩ ?_
  have hL0 : ([.null, .null, .null, .null, .null, .int 0, .int 0, .int 0] : List Value).length = 8 := rfl
  refine s_mul X hAO (q0 := ("NestRanges$Weights", cT4, 8)) (ci := 4) (idx := 11) (i2 := 9) (k := 0) (n := 15) (n2 := 120) (ln := 2) (ln2 := 2) (ty := cY4 0) 16 16 1815 rfl (by decide) (by decide +kernel : decode prog_7_method_1_code 4 = .ok (.aload_n 0, 1)) (Or.inr (Or.inl ⟨(by decide +kernel : decode prog_7_method_1_code 5 = .ok (.bipush 15, 2)), rfl, by decide +kernel⟩)) (Or.inr (Or.inl ⟨(by decide +kernel : decode prog_7_method_1_code 7 = .ok (.bipush 120, 2)), rfl, by decide +kernel⟩)) (by decide +kernel : decode prog_7_method_1_code 9 = .ok (.multianewarray 9 2, 4)) (by decide +kernel : decode prog_7_method_1_code 13 = .ok (.putfield 11, 3)) (wAt_in (pl := 124) (by decide +kernel) rfl) (wAt_in (pl := 151) (by decide +kernel) rfl) (wAt_in (pl := 153) (by decide +kernel) rfl) rfl rfl (cY4_ok 0 (by decide)) (fun _ => rfl) (fun _ => rfl) (by rw [hL0]; decide) (Nat.le_of_ble_eq_true rfl) (Nat.le_of_ble_eq_true rfl) (Nat.le_of_ble_eq_true rfl) (Nat.le_of_ble_eq_true rfl) rfl rfl rfl (fun q0 c0 y0 rest1 tys1 fs1 hy0 er1 et1 ef1 hl1 => ?_)
  have hL1 := hl1.trans hL0
  refine s_mul X hAO (q0 := ("NestRanges$Weights", cT4, 8)) (ci := 4) (idx := 16) (i2 := 9) (k := 1) (n := 15) (n2 := 120) (ln := 2) (ln2 := 2) (ty := cY4 1) 28 32 3630 rfl (by decide) (by decide +kernel : decode prog_7_method_1_code 16 = .ok (.aload_n 0, 1)) (Or.inr (Or.inl ⟨(by decide +kernel : decode prog_7_method_1_code 17 = .ok (.bipush 15, 2)), rfl, by decide +kernel⟩)) (Or.inr (Or.inl ⟨(by decide +kernel : decode prog_7_method_1_code 19 = .ok (.bipush 120, 2)), rfl, by decide +kernel⟩)) (by decide +kernel : decode prog_7_method_1_code 21 = .ok (.multianewarray 9 2, 4)) (by decide +kernel : decode prog_7_method_1_code 25 = .ok (.putfield 16, 3)) (wAt_in (pl := 124) (by decide +kernel) rfl) (wAt_in (pl := 151) (by decide +kernel) rfl) (wAt_in (pl := 154) (by decide +kernel) rfl) rfl rfl (cY4_ok 1 (by decide)) (fun _ => rfl) (fun _ => rfl) (by rw [hL1]; decide) (Nat.le_of_ble_eq_true rfl) (Nat.le_of_ble_eq_true rfl) (Nat.le_of_ble_eq_true rfl) (Nat.le_of_ble_eq_true rfl) rfl rfl rfl (fun q1 c1 y1 rest2 tys2 fs2 hy1 er2 et2 ef2 hl2 => ?_)
  have hL2 := hl2.trans hL1
  refine s_mul X hAO (q0 := ("NestRanges$Weights", cT4, 8)) (ci := 4) (idx := 19) (i2 := 9) (k := 2) (n := 2) (n2 := 120) (ln := 1) (ln2 := 2) (ty := cY4 2) 39 35 3872 rfl (by decide) (by decide +kernel : decode prog_7_method_1_code 28 = .ok (.aload_n 0, 1)) (Or.inl ⟨(by decide +kernel : decode prog_7_method_1_code 29 = .ok (.iconst 2, 1)), rfl, by decide +kernel⟩) (Or.inr (Or.inl ⟨(by decide +kernel : decode prog_7_method_1_code 30 = .ok (.bipush 120, 2)), rfl, by decide +kernel⟩)) (by decide +kernel : decode prog_7_method_1_code 32 = .ok (.multianewarray 9 2, 4)) (by decide +kernel : decode prog_7_method_1_code 36 = .ok (.putfield 19, 3)) (wAt_in (pl := 124) (by decide +kernel) rfl) (wAt_in (pl := 151) (by decide +kernel) rfl) (wAt_in (pl := 155) (by decide +kernel) rfl) rfl rfl (cY4_ok 2 (by decide)) (fun _ => rfl) (fun _ => rfl) (by rw [hL2]; decide) (Nat.le_of_ble_eq_true rfl) (Nat.le_of_ble_eq_true rfl) (Nat.le_of_ble_eq_true rfl) (Nat.le_of_ble_eq_true rfl) rfl rfl rfl (fun q2 c2 y2 rest3 tys3 fs3 hy2 er3 et3 ef3 hl3 => ?_)
  have hL3 := hl3.trans hL2
  refine s_arrI X (q0 := ("NestRanges$Weights", cT4, 8)) (ci := 4) (idx := 22) (k := 3) (n := 15) (ln := 2) (ty := cY4 3) 47 36 3887 rfl (by decide) (by decide +kernel : decode prog_7_method_1_code 39 = .ok (.aload_n 0, 1)) (Or.inr (Or.inl ⟨(by decide +kernel : decode prog_7_method_1_code 40 = .ok (.bipush 15, 2)), rfl, by decide +kernel⟩)) (by decide +kernel : decode prog_7_method_1_code 42 = .ok (.newarray .int, 2)) (by decide +kernel : decode prog_7_method_1_code 44 = .ok (.putfield 22, 3)) (wAt_in (pl := 124) (by decide +kernel) rfl) (wAt_in (pl := 156) (by decide +kernel) rfl) rfl rfl (cY4_ok 3 (by decide)) (fun _ => rfl) (fun _ => rfl) (by rw [hL3]; decide) (Nat.le_of_ble_eq_true rfl) (Nat.le_of_ble_eq_true rfl) (Nat.le_of_ble_eq_true rfl) rfl rfl rfl (fun q3 c3 rest4 tys4 fs4 er4 et4 ef4 hl4 => ?_)
  have hL4 := hl4.trans hL3
  refine s_arrI X (q0 := ("NestRanges$Weights", cT4, 8)) (ci := 4) (idx := 26) (k := 4) (n := 8) (ln := 2) (ty := cY4 4) 55 37 3895 rfl (by decide) (by decide +kernel : decode prog_7_method_1_code 47 = .ok (.aload_n 0, 1)) (Or.inr (Or.inl ⟨(by decide +kernel : decode prog_7_method_1_code 48 = .ok (.bipush 8, 2)), rfl, by decide +kernel⟩)) (by decide +kernel : decode prog_7_method_1_code 50 = .ok (.newarray .int, 2)) (by decide +kernel : decode prog_7_method_1_code 52 = .ok (.putfield 26, 3)) (wAt_in (pl := 124) (by decide +kernel) rfl) (wAt_in (pl := 157) (by decide +kernel) rfl) rfl rfl (cY4_ok 4 (by decide)) (fun _ => rfl) (fun _ => rfl) (by rw [hL4]; decide) (Nat.le_of_ble_eq_true rfl) (Nat.le_of_ble_eq_true rfl) (Nat.le_of_ble_eq_true rfl) rfl rfl rfl (fun q4 c4 rest5 tys5 fs5 er5 et5 ef5 hl5 => ?_)
  have hL5 := hl5.trans hL4
  refine s_int X (q0 := ("NestRanges$Weights", cT4, 8)) (ci := 4) (idx := 29) (k := 5) (n := 0) (ln := 1) (ty := cY4 5) 60 rfl (by decide) (by decide +kernel : decode prog_7_method_1_code 55 = .ok (.aload_n 0, 1)) (Or.inl ⟨(by decide +kernel : decode prog_7_method_1_code 56 = .ok (.iconst 0, 1)), rfl, by decide +kernel⟩) (by decide +kernel : decode prog_7_method_1_code 57 = .ok (.putfield 29, 3)) (wAt_in (pl := 158) (by decide +kernel) rfl) rfl (cY4_ok 5 (by decide)) (by decide +kernel) (by decide +kernel) (by rw [hL5]; decide) rfl (fun fs6 ef6 hl6 => ?_)
  have hL6 := hl6.trans hL5
  refine s_int X (q0 := ("NestRanges$Weights", cT4, 8)) (ci := 4) (idx := 33) (k := 6) (n := 0) (ln := 1) (ty := cY4 6) 65 rfl (by decide) (by decide +kernel : decode prog_7_method_1_code 60 = .ok (.aload_n 0, 1)) (Or.inl ⟨(by decide +kernel : decode prog_7_method_1_code 61 = .ok (.iconst 0, 1)), rfl, by decide +kernel⟩) (by decide +kernel : decode prog_7_method_1_code 62 = .ok (.putfield 33, 3)) (wAt_in (pl := 159) (by decide +kernel) rfl) rfl (cY4_ok 6 (by decide)) (by decide +kernel) (by decide +kernel) (by rw [hL6]; decide) rfl (fun fs7 ef7 hl7 => ?_)
  have hL7 := hl7.trans hL6
  refine s_int X (q0 := ("NestRanges$Weights", cT4, 8)) (ci := 4) (idx := 36) (k := 7) (n := 1) (ln := 1) (ty := cY4 7) 70 rfl (by decide) (by decide +kernel : decode prog_7_method_1_code 65 = .ok (.aload_n 0, 1)) (Or.inl ⟨(by decide +kernel : decode prog_7_method_1_code 66 = .ok (.iconst 1, 1)), rfl, by decide +kernel⟩) (by decide +kernel : decode prog_7_method_1_code 67 = .ok (.putfield 36, 3)) (wAt_in (pl := 161) (by decide +kernel) rfl) rfl (cY4_ok 7 (by decide)) (by decide +kernel) (by decide +kernel) (by rw [hL7]; decide) rfl (fun fs8 ef8 hl8 => ?_)
  have hL8 := hl8.trans hL7
  clear hl8 hL8 hl7 hL7 hl6 hL6 hl5 hL5 hl4 hL4 hl3 hL3 hl2 hL2 hl1 hL1
  subst er1
  subst et1
  subst ef1
  subst er2
  subst et2
  subst ef2
  subst er3
  subst et3
  subst ef3
  subst er4
  subst et4
  subst ef4
  subst er5
  subst et5
  subst ef5
  subst ef6
  subst ef7
  subst ef8
  intro H locs hB
  have hi : s.vm.findClass "[I" = some c3 := va_nm_int (hB.2.2.1.2 3 (c3, .int) rfl).2
  have hs : (FieldType.array .int).toString = "[I" := by decide +kernel
  rw [hs, hi] at hy0 hy1 hy2
  have e0 := Option.some.inj hy0
  have e1 := Option.some.inj hy1
  have e2 := Option.some.inj hy2
  subst e0
  subst e1
  subst e2
  refine b_eq (cnW_w h q0 c0 c3 q1 c1 c3 q2 c2 c3 q3 c3 q4 c4) ?_ H locs hB
  exact hR ls 70 _ _ _ _ _ _ (by decide +kernel : decode prog_7_method_1_code 70 = .ok (.return_, 1)) rfl trivial (cnW_t h q0 q1 q2 q3 q4 c0 c1 c2 c3 c4) (Nat.le_of_ble_eq_true rfl) (Nat.le_of_ble_eq_true rfl)
