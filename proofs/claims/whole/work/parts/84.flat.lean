/-! constructors of single objects -/
def layT : List Nat := [13, 10008, 10008, 10008, 10004]
def layS : List Nat := [12, 10016, 10015, 10015]
def layN : List Nat := [11, 12, 10016, 10015, 10015, 10015, 10083, 10083, 10083, 10083, 10083, 10005]
def layW : List Nat := [14, 31, 10120, 10120, 10120, 10120, 10120, 10120, 10120, 10120, 10120, 10120, 10120, 10120, 10120, 10120, 10120, 31, 10120, 10120, 10120, 10120, 10120, 10120, 10120, 10120, 10120, 10120, 10120, 10120, 10120, 10120, 10120, 32, 10120, 10120, 10015, 10008]
def layH : List Nat := [10, 30, 13, 10008, 10008, 10008, 10004, 13, 10008, 10008, 10008, 10004, 13, 10008, 10008, 10008, 10004, 13, 10008, 10008, 10008, 10004, 13, 10008, 10008, 10008, 10004, 13, 10008, 10008, 10008, 10004, 13, 10008, 10008, 10008, 10004, 13, 10008, 10008, 10008, 10004, 13, 10008, 10008, 10008, 10004, 13, 10008, 10008, 10008, 10004, 13, 10008, 10008, 10008, 10004, 13, 10008, 10008, 10008, 10004]
theorem wf_layT : wfB layT = true := by decide +kernel
theorem wf_layS : wfB layS = true := by decide +kernel
theorem wf_layN : wfB layN = true := by decide +kernel
theorem wf_layW : wfB layW = true := by decide +kernel
theorem wf_layH : wfB layH = true := by decide +kernel
def S00 : XS := (([], 40, rk0), [], 0, 0, 0)
def one (q : Nat) (c : ClassId) : Nat → CQ := fun _ => (q, c, fun _ => 0, fun _ => 0)
theorem fal {ps : PL} {q : List Nat × (Nat → CQ)} (h : wfB q.1 = true) (h2 : ∀ q ∈ ps, wfB q.1 = true) : ∀ x ∈ q :: ps, wfB x.1 = true := fun x hx => by
  rcases List.mem_cons.mp hx with e | e
  · rw [e]; exact h
  · exact h2 x e
theorem fal0 : ∀ q ∈ ([] : PL), wfB q.1 = true := fun q hq => by cases hq
def cnS_z (h : Nat) (q0 : Nat) (c0 : ClassId) (q1 : Nat) (c1 : ClassId) (q2 : Nat) (c2 : ClassId) : CQ := (h, c0, fun _ => 0, fun _ => 0)
def cnS_p (h : Nat) (q0 : Nat) (c0 : ClassId) (q1 : Nat) (c1 : ClassId) (q2 : Nat) (c2 : ClassId) : PL := [([10016], one q0 c0), ([10015], one q1 c1), ([10015], one q2 c2)]
def cnS_g (h : Nat) (q0 : Nat) (c0 : ClassId) (q1 : Nat) (c1 : ClassId) (q2 : Nat) (c2 : ClassId) : Nat → CQ := glH (cnS_z h q0 c0 q1 c1 q2 c2) (cnS_p h q0 c0 q1 c1 q2 c2)
theorem cnS_w (h : Nat) (q0 : Nat) (c0 : ClassId) (q1 : Nat) (c1 : ClassId) (q2 : Nat) (c2 : ClassId) : ((h, .inr (2, [.ref q0, .ref q1, .ref q2, .int 0, .int 0])) :: ((([] ++ [(q0, .inl (c0, 16, .inl (fun _ => 0)))]) ++ [(q1, .inl (c1, 15, .inl (fun _ => 0)))]) ++ [(q2, .inl (c2, 15, .inl (fun _ => 0)))]) : va_W) = wld layS (aO (cnS_g h q0 c0 q1 c1 q2 c2)) (cO (cnS_g h q0 c0 q1 c1 q2 c2)) (mO (cnS_g h q0 c0 q1 c1 q2 c2)) := by
  have hw : ∀ q ∈ cnS_p h q0 c0 q1 c1 q2 c2, wfB q.1 = true := (fal (by show wfB [10016] = true; decide +kernel) (fal (by show wfB [10015] = true; decide +kernel) (fal (by show wfB [10015] = true; decide +kernel) fal0)))
  have h1 := glued (τ := 12) (ci := 2) (ps := cnS_p h q0 c0 q1 c1 q2 c2) (z := cnS_z h q0 c0 q1 c1 q2 c2) (fs := [.ref q0, .ref q1, .ref q2, .int 0, .int 0]) hw rfl
  refine Eq.trans ?_ h1.symm
  refine congrArg (List.cons _) ?_
  simp only [cnS_p, wP, List.append_assoc, List.nil_append, List.append_nil]
  rfl
theorem cnS_t (h : Nat) (q0 : Nat) (c0 : ClassId) (q1 : Nat) (c1 : ClassId) (q2 : Nat) (c2 : ClassId) : ∀ x ∈ tysL layS (cO (cnS_g h q0 c0 q1 c1 q2 c2)), x ∈ ((([] ++ [(c0, .int)]) ++ [(c1, .int)]) ++ [(c2, .int)]) := fun x hx => by
  have h1 : x ∈ tP (cnS_p h q0 c0 q1 c1 q2 c2) := tys_glued (by decide) x hx
  simp only [cnS_p, tP, List.append_nil] at h1
  simp only [List.append_assoc, List.nil_append]
  exact h1
set_option maxRecDepth 100000 in
set_option maxHeartbeats 4000000 in
theorem cnS (l : Launch) (D : va_G) : Cn l D 0 ⟨"NestRanges$Sections", "<init>", "()V"⟩ prog_4_method_1_code 1 2 [.null, .null, .null, .int 0, .int 0] layS (fun _ => True) 3 46 := by
  refine Cn_intro (by decide +kernel) rfl (by decide) (fun p e s m args below meth c Q A ls h X hAO hl hR => ?_)
  have X : BX p s m args meth c prog_4_method_1_code 1 "NestRanges$Sections" A ls h := X
  refine b_ld X (by decide +kernel : decode prog_4_method_1_code 0 = .ok (.aload_n 0, 1)) ?_
  refine b_obj X (by decide +kernel : decode prog_4_method_1_code 1 = .ok (.invokespecial 3, 3)) (wAt_in (pl := 185) (by decide +kernel) rfl) (wAt_in (pl := 80) (by decide +kernel) rfl) (wAt_in (pl := 81) (by decide +kernel) rfl) ⟨(Nat.le_of_ble_eq_true rfl), (Nat.le_of_ble_eq_true rfl)⟩ ?_
  refine b_ld X (by decide +kernel : decode prog_4_method_1_code 4 = .ok (.aload_n 0, 1)) ?_
  refine b_bi X (v := (nI 16)) (by decide +kernel : decode prog_4_method_1_code 5 = .ok (.bipush 16, 2)) (by decide +kernel) ?_
  refine b_newI X (n := 16) (by decide +kernel : decode prog_4_method_1_code 7 = .ok (.newarray .int, 2)) (wAt_in (pl := 124) (by decide +kernel) rfl) (by decide) (Nat.le_of_ble_eq_true rfl) (Nat.le_of_ble_eq_true rfl) (fun q0 c0 => ?_)
  refine b_putF X (q0 := ("NestRanges$Sections", cT2, 5)) (ci := 2) (k := 0) (ty := cY2 0) (fs := [.null, .null, .null, .int 0, .int 0]) (rest := ([] ++ [(q0, .inl (c0, 16, .inl (fun _ => 0)))])) (q := q0) rfl (by decide) (by decide +kernel : decode prog_4_method_1_code 9 = .ok (.putfield 9, 3)) (wAt_in (pl := 186) (by decide +kernel) rfl) rfl rfl (cY2_ok 0 (by decide)) rfl rfl (Nat.le_of_ble_eq_true rfl) ?_
  refine b_ld X (by decide +kernel : decode prog_4_method_1_code 12 = .ok (.aload_n 0, 1)) ?_
  refine b_bi X (v := (nI 15)) (by decide +kernel : decode prog_4_method_1_code 13 = .ok (.bipush 15, 2)) (by decide +kernel) ?_
  refine b_newI X (n := 15) (by decide +kernel : decode prog_4_method_1_code 15 = .ok (.newarray .int, 2)) (wAt_in (pl := 124) (by decide +kernel) rfl) (by decide) (Nat.le_of_ble_eq_true rfl) (Nat.le_of_ble_eq_true rfl) (fun q1 c1 => ?_)
  refine b_putF X (q0 := ("NestRanges$Sections", cT2, 5)) (ci := 2) (k := 1) (ty := cY2 1) (fs := [.ref q0, .null, .null, .int 0, .int 0]) (rest := (([] ++ [(q0, .inl (c0, 16, .inl (fun _ => 0)))]) ++ [(q1, .inl (c1, 15, .inl (fun _ => 0)))])) (q := q1) rfl (by decide) (by decide +kernel : decode prog_4_method_1_code 17 = .ok (.putfield 15, 3)) (wAt_in (pl := 189) (by decide +kernel) rfl) rfl rfl (cY2_ok 1 (by decide)) rfl rfl (Nat.le_of_ble_eq_true rfl) ?_
  refine b_ld X (by decide +kernel : decode prog_4_method_1_code 20 = .ok (.aload_n 0, 1)) ?_
  refine b_bi X (v := (nI 15)) (by decide +kernel : decode prog_4_method_1_code 21 = .ok (.bipush 15, 2)) (by decide +kernel) ?_
  refine b_newI X (n := 15) (by decide +kernel : decode prog_4_method_1_code 23 = .ok (.newarray .int, 2)) (wAt_in (pl := 124) (by decide +kernel) rfl) (by decide) (Nat.le_of_ble_eq_true rfl) (Nat.le_of_ble_eq_true rfl) (fun q2 c2 => ?_)
  refine b_putF X (q0 := ("NestRanges$Sections", cT2, 5)) (ci := 2) (k := 2) (ty := cY2 2) (fs := [.ref q0, .ref q1, .null, .int 0, .int 0]) (rest := ((([] ++ [(q0, .inl (c0, 16, .inl (fun _ => 0)))]) ++ [(q1, .inl (c1, 15, .inl (fun _ => 0)))]) ++ [(q2, .inl (c2, 15, .inl (fun _ => 0)))])) (q := q2) rfl (by decide) (by decide +kernel : decode prog_4_method_1_code 25 = .ok (.putfield 18, 3)) (wAt_in (pl := 193) (by decide +kernel) rfl) rfl rfl (cY2_ok 2 (by decide)) rfl rfl (Nat.le_of_ble_eq_true rfl) ?_
  refine b_ld X (by decide +kernel : decode prog_4_method_1_code 28 = .ok (.aload_n 0, 1)) ?_
  refine b_ic X (v := 0) (by decide +kernel : decode prog_4_method_1_code 29 = .ok (.iconst 0, 1)) (by decide +kernel) ?_
  refine b_putI X (q0 := ("NestRanges$Sections", cT2, 5)) (ci := 2) (k := 3) (ty := cY2 3) (fs := [.ref q0, .ref q1, .ref q2, .int 0, .int 0]) (rest := ((([] ++ [(q0, .inl (c0, 16, .inl (fun _ => 0)))]) ++ [(q1, .inl (c1, 15, .inl (fun _ => 0)))]) ++ [(q2, .inl (c2, 15, .inl (fun _ => 0)))])) (v := 0) rfl (by decide) (by decide +kernel : decode prog_4_method_1_code 30 = .ok (.putfield 21, 3)) (wAt_in (pl := 195) (by decide +kernel) rfl) rfl (cY2_ok 3 (by decide)) rfl rfl (Nat.le_of_ble_eq_true rfl) ?_
  refine b_ld X (by decide +kernel : decode prog_4_method_1_code 33 = .ok (.aload_n 0, 1)) ?_
  refine b_ic X (v := 0) (by decide +kernel : decode prog_4_method_1_code 34 = .ok (.iconst 0, 1)) (by decide +kernel) ?_
  refine b_putI X (q0 := ("NestRanges$Sections", cT2, 5)) (ci := 2) (k := 4) (ty := cY2 4) (fs := [.ref q0, .ref q1, .ref q2, .int 0, .int 0]) (rest := ((([] ++ [(q0, .inl (c0, 16, .inl (fun _ => 0)))]) ++ [(q1, .inl (c1, 15, .inl (fun _ => 0)))]) ++ [(q2, .inl (c2, 15, .inl (fun _ => 0)))])) (v := 0) rfl (by decide) (by decide +kernel : decode prog_4_method_1_code 35 = .ok (.putfield 25, 3)) (wAt_in (pl := 196) (by decide +kernel) rfl) rfl (cY2_ok 4 (by decide)) rfl rfl (Nat.le_of_ble_eq_true rfl) ?_
  refine b_eq (cnS_w h q0 c0 q1 c1 q2 c2) ?_
  exact hR ls 38 _ _ _ _ _ _ (by decide +kernel : decode prog_4_method_1_code 38 = .ok (.return_, 1)) rfl trivial (cnS_t h q0 c0 q1 c1 q2 c2) (Nat.le_of_ble_eq_true rfl) (Nat.le_of_ble_eq_true rfl)
def cnT_z (h : Nat) (q0 : Nat) (c0 : ClassId) (q1 : Nat) (c1 : ClassId) (q2 : Nat) (c2 : ClassId) (q3 : Nat) (c3 : ClassId) : CQ := (h, c0, fun _ => 0, fun _ => 0)
def cnT_p (h : Nat) (q0 : Nat) (c0 : ClassId) (q1 : Nat) (c1 : ClassId) (q2 : Nat) (c2 : ClassId) (q3 : Nat) (c3 : ClassId) : PL := [([10008], one q0 c0), ([10008], one q1 c1), ([10008], one q2 c2), ([10004], one q3 c3)]
def cnT_g (h : Nat) (q0 : Nat) (c0 : ClassId) (q1 : Nat) (c1 : ClassId) (q2 : Nat) (c2 : ClassId) (q3 : Nat) (c3 : ClassId) : Nat → CQ := glH (cnT_z h q0 c0 q1 c1 q2 c2 q3 c3) (cnT_p h q0 c0 q1 c1 q2 c2 q3 c3)
theorem cnT_w (h : Nat) (q0 : Nat) (c0 : ClassId) (q1 : Nat) (c1 : ClassId) (q2 : Nat) (c2 : ClassId) (q3 : Nat) (c3 : ClassId) : ((h, .inr (3, [.ref q0, .ref q1, .ref q2, .ref q3, .int 0, .int 0])) :: (((([] ++ [(q0, .inl (c0, 8, .inl (fun _ => 0)))]) ++ [(q1, .inl (c1, 8, .inl (fun _ => 0)))]) ++ [(q2, .inl (c2, 8, .inl (fun _ => 0)))]) ++ [(q3, .inl (c3, 4, .inl (fun _ => 0)))]) : va_W) = wld layT (aO (cnT_g h q0 c0 q1 c1 q2 c2 q3 c3)) (cO (cnT_g h q0 c0 q1 c1 q2 c2 q3 c3)) (mO (cnT_g h q0 c0 q1 c1 q2 c2 q3 c3)) := by
  have hw : ∀ q ∈ cnT_p h q0 c0 q1 c1 q2 c2 q3 c3, wfB q.1 = true := (fal (by show wfB [10008] = true; decide +kernel) (fal (by show wfB [10008] = true; decide +kernel) (fal (by show wfB [10008] = true; decide +kernel) (fal (by show wfB [10004] = true; decide +kernel) fal0))))
  have h1 := glued (τ := 13) (ci := 3) (ps := cnT_p h q0 c0 q1 c1 q2 c2 q3 c3) (z := cnT_z h q0 c0 q1 c1 q2 c2 q3 c3) (fs := [.ref q0, .ref q1, .ref q2, .ref q3, .int 0, .int 0]) hw rfl
  refine Eq.trans ?_ h1.symm
  refine congrArg (List.cons _) ?_
  simp only [cnT_p, wP, List.append_assoc, List.nil_append, List.append_nil]
  rfl
theorem cnT_t (h : Nat) (q0 : Nat) (c0 : ClassId) (q1 : Nat) (c1 : ClassId) (q2 : Nat) (c2 : ClassId) (q3 : Nat) (c3 : ClassId) : ∀ x ∈ tysL layT (cO (cnT_g h q0 c0 q1 c1 q2 c2 q3 c3)), x ∈ (((([] ++ [(c0, .int)]) ++ [(c1, .int)]) ++ [(c2, .int)]) ++ [(c3, .int)]) := fun x hx => by
  have h1 : x ∈ tP (cnT_p h q0 c0 q1 c1 q2 c2 q3 c3) := tys_glued (by decide) x hx
  simp only [cnT_p, tP, List.append_nil] at h1
  simp only [List.append_assoc, List.nil_append]
  exact h1
set_option maxRecDepth 100000 in
set_option maxHeartbeats 4000000 in
theorem cnT (l : Launch) (D : va_G) : Cn l D 1 ⟨"NestRanges$Text", "<init>", "()V"⟩ prog_6_method_1_code 1 3 [.null, .null, .null, .null, .int 0, .int 0] layT (fun μ => TeAt μ 0 ([], 40, rk0)) 4 28 := by
  refine Cn_intro (by decide +kernel) rfl (by decide) (fun p e s m args below meth c Q A ls h X hAO hl hR => ?_)
  have X : BX p s m args meth c prog_6_method_1_code 1 "NestRanges$Text" A ls h := X
  refine b_ld X (by decide +kernel : decode prog_6_method_1_code 0 = .ok (.aload_n 0, 1)) ?_
  refine b_obj X (by decide +kernel : decode prog_6_method_1_code 1 = .ok (.invokespecial 3, 3)) (wAt_in (pl := 87) (by decide +kernel) rfl) (wAt_in (pl := 80) (by decide +kernel) rfl) (wAt_in (pl := 81) (by decide +kernel) rfl) ⟨(Nat.le_of_ble_eq_true rfl), (Nat.le_of_ble_eq_true rfl)⟩ ?_
  refine b_ld X (by decide +kernel : decode prog_6_method_1_code 4 = .ok (.aload_n 0, 1)) ?_
  refine b_bi X (v := (nI 8)) (by decide +kernel : decode prog_6_method_1_code 5 = .ok (.bipush 8, 2)) (by decide +kernel) ?_
  refine b_newI X (n := 8) (by decide +kernel : decode prog_6_method_1_code 7 = .ok (.newarray .int, 2)) (wAt_in (pl := 124) (by decide +kernel) rfl) (by decide) (Nat.le_of_ble_eq_true rfl) (Nat.le_of_ble_eq_true rfl) (fun q0 c0 => ?_)
  refine b_putF X (q0 := ("NestRanges$Text", cT3, 6)) (ci := 3) (k := 0) (ty := cY3 0) (fs := [.null, .null, .null, .null, .int 0, .int 0]) (rest := ([] ++ [(q0, .inl (c0, 8, .inl (fun _ => 0)))])) (q := q0) rfl (by decide) (by decide +kernel : decode prog_6_method_1_code 9 = .ok (.putfield 9, 3)) (wAt_in (pl := 92) (by decide +kernel) rfl) rfl rfl (cY3_ok 0 (by decide)) rfl rfl (Nat.le_of_ble_eq_true rfl) ?_
  refine b_ld X (by decide +kernel : decode prog_6_method_1_code 12 = .ok (.aload_n 0, 1)) ?_
  refine b_bi X (v := (nI 8)) (by decide +kernel : decode prog_6_method_1_code 13 = .ok (.bipush 8, 2)) (by decide +kernel) ?_
  refine b_newI X (n := 8) (by decide +kernel : decode prog_6_method_1_code 15 = .ok (.newarray .int, 2)) (wAt_in (pl := 124) (by decide +kernel) rfl) (by decide) (Nat.le_of_ble_eq_true rfl) (Nat.le_of_ble_eq_true rfl) (fun q1 c1 => ?_)
  refine b_putF X (q0 := ("NestRanges$Text", cT3, 6)) (ci := 3) (k := 1) (ty := cY3 1) (fs := [.ref q0, .null, .null, .null, .int 0, .int 0]) (rest := (([] ++ [(q0, .inl (c0, 8, .inl (fun _ => 0)))]) ++ [(q1, .inl (c1, 8, .inl (fun _ => 0)))])) (q := q1) rfl (by decide) (by decide +kernel : decode prog_6_method_1_code 17 = .ok (.putfield 15, 3)) (wAt_in (pl := 95) (by decide +kernel) rfl) rfl rfl (cY3_ok 1 (by decide)) rfl rfl (Nat.le_of_ble_eq_true rfl) ?_
  refine b_ld X (by decide +kernel : decode prog_6_method_1_code 20 = .ok (.aload_n 0, 1)) ?_
  refine b_bi X (v := (nI 8)) (by decide +kernel : decode prog_6_method_1_code 21 = .ok (.bipush 8, 2)) (by decide +kernel) ?_
  refine b_newI X (n := 8) (by decide +kernel : decode prog_6_method_1_code 23 = .ok (.newarray .int, 2)) (wAt_in (pl := 124) (by decide +kernel) rfl) (by decide) (Nat.le_of_ble_eq_true rfl) (Nat.le_of_ble_eq_true rfl) (fun q2 c2 => ?_)
  refine b_putF X (q0 := ("NestRanges$Text", cT3, 6)) (ci := 3) (k := 2) (ty := cY3 2) (fs := [.ref q0, .ref q1, .null, .null, .int 0, .int 0]) (rest := ((([] ++ [(q0, .inl (c0, 8, .inl (fun _ => 0)))]) ++ [(q1, .inl (c1, 8, .inl (fun _ => 0)))]) ++ [(q2, .inl (c2, 8, .inl (fun _ => 0)))])) (q := q2) rfl (by decide) (by decide +kernel : decode prog_6_method_1_code 25 = .ok (.putfield 18, 3)) (wAt_in (pl := 99) (by decide +kernel) rfl) rfl rfl (cY3_ok 2 (by decide)) rfl rfl (Nat.le_of_ble_eq_true rfl) ?_
  refine b_ld X (by decide +kernel : decode prog_6_method_1_code 28 = .ok (.aload_n 0, 1)) ?_
  refine b_ic X (v := (nI 4)) (by decide +kernel : decode prog_6_method_1_code 29 = .ok (.iconst 4, 1)) (by decide +kernel) ?_
  refine b_newI X (n := 4) (by decide +kernel : decode prog_6_method_1_code 30 = .ok (.newarray .int, 2)) (wAt_in (pl := 124) (by decide +kernel) rfl) (by decide) (Nat.le_of_ble_eq_true rfl) (Nat.le_of_ble_eq_true rfl) (fun q3 c3 => ?_)
  refine b_putF X (q0 := ("NestRanges$Text", cT3, 6)) (ci := 3) (k := 3) (ty := cY3 3) (fs := [.ref q0, .ref q1, .ref q2, .null, .int 0, .int 0]) (rest := (((([] ++ [(q0, .inl (c0, 8, .inl (fun _ => 0)))]) ++ [(q1, .inl (c1, 8, .inl (fun _ => 0)))]) ++ [(q2, .inl (c2, 8, .inl (fun _ => 0)))]) ++ [(q3, .inl (c3, 4, .inl (fun _ => 0)))])) (q := q3) rfl (by decide) (by decide +kernel : decode prog_6_method_1_code 32 = .ok (.putfield 21, 3)) (wAt_in (pl := 102) (by decide +kernel) rfl) rfl rfl (cY3_ok 3 (by decide)) rfl rfl (Nat.le_of_ble_eq_true rfl) ?_
  refine b_ld X (by decide +kernel : decode prog_6_method_1_code 35 = .ok (.aload_n 0, 1)) ?_
  refine b_ic X (v := 0) (by decide +kernel : decode prog_6_method_1_code 36 = .ok (.iconst 0, 1)) (by decide +kernel) ?_
  refine b_putI X (q0 := ("NestRanges$Text", cT3, 6)) (ci := 3) (k := 4) (ty := cY3 4) (fs := [.ref q0, .ref q1, .ref q2, .ref q3, .int 0, .int 0]) (rest := (((([] ++ [(q0, .inl (c0, 8, .inl (fun _ => 0)))]) ++ [(q1, .inl (c1, 8, .inl (fun _ => 0)))]) ++ [(q2, .inl (c2, 8, .inl (fun _ => 0)))]) ++ [(q3, .inl (c3, 4, .inl (fun _ => 0)))])) (v := 0) rfl (by decide) (by decide +kernel : decode prog_6_method_1_code 37 = .ok (.putfield 24, 3)) (wAt_in (pl := 104) (by decide +kernel) rfl) rfl (cY3_ok 4 (by decide)) rfl rfl (Nat.le_of_ble_eq_true rfl) ?_
  refine b_ld X (by decide +kernel : decode prog_6_method_1_code 40 = .ok (.aload_n 0, 1)) ?_
  refine b_ic X (v := 0) (by decide +kernel : decode prog_6_method_1_code 41 = .ok (.iconst 0, 1)) (by decide +kernel) ?_
  refine b_putI X (q0 := ("NestRanges$Text", cT3, 6)) (ci := 3) (k := 5) (ty := cY3 5) (fs := [.ref q0, .ref q1, .ref q2, .ref q3, .int 0, .int 0]) (rest := (((([] ++ [(q0, .inl (c0, 8, .inl (fun _ => 0)))]) ++ [(q1, .inl (c1, 8, .inl (fun _ => 0)))]) ++ [(q2, .inl (c2, 8, .inl (fun _ => 0)))]) ++ [(q3, .inl (c3, 4, .inl (fun _ => 0)))])) (v := 0) rfl (by decide) (by decide +kernel : decode prog_6_method_1_code 42 = .ok (.putfield 28, 3)) (wAt_in (pl := 108) (by decide +kernel) rfl) rfl (cY3_ok 5 (by decide)) rfl rfl (Nat.le_of_ble_eq_true rfl) ?_
  refine b_ld X (by decide +kernel : decode prog_6_method_1_code 45 = .ok (.aload_n 0, 1)) ?_
  refine b_bi X (v := (nI 40)) (by decide +kernel : decode prog_6_method_1_code 46 = .ok (.bipush 40, 2)) (by decide +kernel) ?_
  refine b_eq (cnT_w h q0 c0 q1 c1 q2 c2 q3 c3) ?_
  refine b_callV X (ci := 3) (M := mTe_clear) (d' := 0) (x := nI 40) (by decide +kernel : decode prog_6_method_1_code 48 = .ok (.invokevirtual 31, 3)) (clear_ok wf_layT 0 _ 0 (L := 40)) rfl (by decide) rfl (wAt_in (pl := 88) (by decide +kernel) rfl) (wAt_in (pl := 89) (by decide +kernel) rfl) (wAt_in (pl := 90) (by decide +kernel) rfl) (wAt_in (pl := 65) (by decide +kernel) rfl) (wAt_in (pl := 91) (by decide +kernel) rfl) ⟨by decide +kernel, by decide +kernel, by decide +kernel⟩ (by decide) (by decide +kernel) (cnT_t h q0 c0 q1 c1 q2 c2 q3 c3) ⟨(Nat.le_of_ble_eq_true rfl), (Nat.le_of_ble_eq_true rfl)⟩ (Nat.le_of_ble_eq_true rfl) (Nat.le_of_ble_eq_true rfl) (fun μ1 hp => ?_)
  exact hR ls 51 _ _ _ _ _ _ (by decide +kernel : decode prog_6_method_1_code 51 = .ok (.return_, 1)) rfl hp.2.1 (cnT_t h q0 c0 q1 c1 q2 c2 q3 c3) (Nat.le_of_ble_eq_true rfl) (Nat.le_of_ble_eq_true rfl)
