/-! the constructor of Nest -/
def cnN_z (h : Nat) (a0 : Nat → Nat) (k0 : Nat → ClassId) (m0 : Mem) (q1 : Nat) (c1 : ClassId) (q2 : Nat) (c2 : ClassId) (q3 : Nat) (c3 : ClassId) (q4 : Nat) (c4 : ClassId) (q5 : Nat) (c5 : ClassId) (q6 : Nat) (c6 : ClassId) (q7 : Nat) (c7 : ClassId) : CQ := (h, k0 0, (fun k => match k with | 8 => (nI 0) | 9 => (nI 0) | 10 => (nI 1) | 11 => (nI 0) | _ => 0), fun _ => 0)
def cnN_p (h : Nat) (a0 : Nat → Nat) (k0 : Nat → ClassId) (m0 : Mem) (q1 : Nat) (c1 : ClassId) (q2 : Nat) (c2 : ClassId) (q3 : Nat) (c3 : ClassId) (q4 : Nat) (c4 : ClassId) (q5 : Nat) (c5 : ClassId) (q6 : Nat) (c6 : ClassId) (q7 : Nat) (c7 : ClassId) : PL := [(layS, pkq a0 k0 m0), ([10015], one q1 c1), ([10083], one q2 c2), ([10083], one q3 c3), ([10083], one q4 c4), ([10083], one q5 c5), ([10083], one q6 c6), ([10005], one q7 c7)]
def cnN_g (h : Nat) (a0 : Nat → Nat) (k0 : Nat → ClassId) (m0 : Mem) (q1 : Nat) (c1 : ClassId) (q2 : Nat) (c2 : ClassId) (q3 : Nat) (c3 : ClassId) (q4 : Nat) (c4 : ClassId) (q5 : Nat) (c5 : ClassId) (q6 : Nat) (c6 : ClassId) (q7 : Nat) (c7 : ClassId) : Nat → CQ := glH (cnN_z h a0 k0 m0 q1 c1 q2 c2 q3 c3 q4 c4 q5 c5 q6 c6 q7 c7) (cnN_p h a0 k0 m0 q1 c1 q2 c2 q3 c3 q4 c4 q5 c5 q6 c6 q7 c7)
theorem cnN_w (h : Nat) (a0 : Nat → Nat) (k0 : Nat → ClassId) (m0 : Mem) (q1 : Nat) (c1 : ClassId) (q2 : Nat) (c2 : ClassId) (q3 : Nat) (c3 : ClassId) (q4 : Nat) (c4 : ClassId) (q5 : Nat) (c5 : ClassId) (q6 : Nat) (c6 : ClassId) (q7 : Nat) (c7 : ClassId) : ((h, .inr (1, [.ref (a0 0), .ref q1, .ref q2, .ref q3, .ref q4, .ref q5, .ref q6, .ref q7, .int (nI 0), .int (nI 0), .int (nI 1), .int (nI 0)])) :: (((((((([] ++ wld layS a0 k0 m0) ++ [(q1, .inl (c1, 15, .inl (fun _ => 0)))]) ++ [(q2, .inl (c2, 83, .inl (fun _ => 0)))]) ++ [(q3, .inl (c3, 83, .inl (fun _ => 0)))]) ++ [(q4, .inl (c4, 83, .inl (fun _ => 0)))]) ++ [(q5, .inl (c5, 83, .inl (fun _ => 0)))]) ++ [(q6, .inl (c6, 83, .inl (fun _ => 0)))]) ++ [(q7, .inl (c7, 5, .inl (fun _ => 0)))]) : va_W) = wld layN (aO (cnN_g h a0 k0 m0 q1 c1 q2 c2 q3 c3 q4 c4 q5 c5 q6 c6 q7 c7)) (cO (cnN_g h a0 k0 m0 q1 c1 q2 c2 q3 c3 q4 c4 q5 c5 q6 c6 q7 c7)) (mO (cnN_g h a0 k0 m0 q1 c1 q2 c2 q3 c3 q4 c4 q5 c5 q6 c6 q7 c7)) := by
  have hw : ∀ q ∈ cnN_p h a0 k0 m0 q1 c1 q2 c2 q3 c3 q4 c4 q5 c5 q6 c6 q7 c7, wfB q.1 = true := (fal wf_layS (fal (by show wfB [10015] = true; decide +kernel) (fal (by show wfB [10083] = true; decide +kernel) (fal (by show wfB [10083] = true; decide +kernel) (fal (by show wfB [10083] = true; decide +kernel) (fal (by show wfB [10083] = true; decide +kernel) (fal (by show wfB [10083] = true; decide +kernel) (fal (by show wfB [10005] = true; decide +kernel) fal0))))))))
  have h1 := glued (τ := 11) (ci := 1) (ps := cnN_p h a0 k0 m0 q1 c1 q2 c2 q3 c3 q4 c4 q5 c5 q6 c6 q7 c7) (z := cnN_z h a0 k0 m0 q1 c1 q2 c2 q3 c3 q4 c4 q5 c5 q6 c6 q7 c7) (fs := [.ref (a0 0), .ref q1, .ref q2, .ref q3, .ref q4, .ref q5, .ref q6, .ref q7, .int (nI 0), .int (nI 0), .int (nI 1), .int (nI 0)]) hw rfl
  refine Eq.trans ?_ h1.symm
  refine congrArg (List.cons _) ?_
  simp only [cnN_p, wP, List.append_assoc, List.nil_append, List.append_nil]
  rfl
theorem cnN_t (h : Nat) (a0 : Nat → Nat) (k0 : Nat → ClassId) (m0 : Mem) (q1 : Nat) (c1 : ClassId) (q2 : Nat) (c2 : ClassId) (q3 : Nat) (c3 : ClassId) (q4 : Nat) (c4 : ClassId) (q5 : Nat) (c5 : ClassId) (q6 : Nat) (c6 : ClassId) (q7 : Nat) (c7 : ClassId) : ∀ x ∈ tysL layN (cO (cnN_g h a0 k0 m0 q1 c1 q2 c2 q3 c3 q4 c4 q5 c5 q6 c6 q7 c7)), x ∈ (((((((([] ++ tysL layS k0) ++ [(c1, .int)]) ++ [(c2, .int)]) ++ [(c3, .int)]) ++ [(c4, .int)]) ++ [(c5, .int)]) ++ [(c6, .int)]) ++ [(c7, .int)]) := fun x hx => by
  have h1 : x ∈ tP (cnN_p h a0 k0 m0 q1 c1 q2 c2 q3 c3 q4 c4 q5 c5 q6 c6 q7 c7) := tys_glued (by decide) x hx
  simp only [cnN_p, tP, List.append_nil] at h1
  simp only [List.append_assoc, List.nil_append]
  exact h1
set_option maxRecDepth 100000 in
set_option maxHeartbeats 4000000 in
theorem cnN (l : Launch) (D : va_G) : Cn l D 1 ⟨"NestRanges$Nest", "<init>", "()V"⟩ prog_3_method_1_code 1 1 [.null, .null, .null, .null, .null, .null, .null, .null, .int 0, .int 0, .int 0, .int 0] layN (fun _ => True) 11 486 := by
  refine Cn_intro (by decide +kernel) rfl (by decide) (fun p e s m args below meth c Q A ls h X hAO hl hR => ?_)
  have X : BX p s m args meth c prog_3_method_1_code 1 "NestRanges$Nest" A ls h := X
  refine b_ld X (by decide +kernel : decode prog_3_method_1_code 0 = .ok (.aload_n 0, 1)) ?_
  refine b_obj X (by decide +kernel : decode prog_3_method_1_code 1 = .ok (.invokespecial 3, 3)) (wAt_in (pl := 215) (by decide +kernel) rfl) (wAt_in (pl := 80) (by decide +kernel) rfl) (wAt_in (pl := 81) (by decide +kernel) rfl) ⟨(Nat.le_of_ble_eq_true rfl), (Nat.le_of_ble_eq_true rfl)⟩ ?_
  have hL0 : ([.null, .null, .null, .null, .null, .null, .null, .null, .int 0, .int 0, .int 0, .int 0] : List Value).length = 12 := rfl
  refine s_obj X hAO (q1 := ("NestRanges$Nest", cT1, 12)) (ci := 1) (q0 := ("NestRanges$Sections", cT2, 5)) (ci' := 2) (k := 0) (ty := cY2) (ty1 := cY1 0) (y := ⟨"NestRanges$Sections", "<init>", "()V"⟩) (fs' := [.null, .null, .null, .int 0, .int 0]) 15 4 51 rfl (by decide) rfl (by decide +kernel : decode prog_3_method_1_code 4 = .ok (.aload_n 0, 1)) (by decide +kernel : decode prog_3_method_1_code 5 = .ok (.new 9, 3)) (by decide +kernel : decode prog_3_method_1_code 8 = .ok (.dup, 1)) (by decide +kernel : decode prog_3_method_1_code 9 = .ok (.invokespecial 11, 3)) (by decide +kernel : decode prog_3_method_1_code 12 = .ok (.putfield 12, 3)) cY2_ok (fun j hj => by have hj : j < 5 := hj; rcases (show j = 0 ∨ j = 1 ∨ j = 2 ∨ j = 3 ∨ j = 4 by omega) with e | e | e | e | e <;> subst e <;> rfl) (wAt_in (pl := 216) (by decide +kernel) rfl) (wAt_in (pl := 181) (by decide +kernel) rfl) (wAt_in (pl := 68) (by decide +kernel) rfl) (wAt_in (pl := 217) (by decide +kernel) rfl) (wAt_in (pl := 183) (by decide +kernel) rfl) (wAt_in (pl := 184) (by decide +kernel) rfl) rfl rfl ⟨by decide +kernel, by decide +kernel, by decide +kernel⟩ (by decide) (cnS l D) (wAt_in (pl := 218) (by decide +kernel) rfl) rfl rfl (cY1_ok 0 (by decide)) (fun _ => rfl) (fun _ => rfl) (by rw [hL0]; decide) ⟨(Nat.le_of_ble_eq_true rfl), (Nat.le_of_ble_eq_true rfl)⟩ (Nat.le_of_ble_eq_true rfl) (Nat.le_of_ble_eq_true rfl) rfl rfl rfl (fun a0 k0 m0 rest1 tys1 fs1 hΦ0 er1 et1 ef1 hl1 => ?_)
  have hL1 := hl1.trans hL0
  refine s_arrI X (q0 := ("NestRanges$Nest", cT1, 12)) (ci := 1) (idx := 18) (k := 1) (n := 15) (ln := 2) (ty := cY1 1) 23 5 66 rfl (by decide) (by decide +kernel : decode prog_3_method_1_code 15 = .ok (.aload_n 0, 1)) (Or.inr (Or.inl ⟨(by decide +kernel : decode prog_3_method_1_code 16 = .ok (.bipush 15, 2)), rfl, by decide +kernel⟩)) (by decide +kernel : decode prog_3_method_1_code 18 = .ok (.newarray .int, 2)) (by decide +kernel : decode prog_3_method_1_code 20 = .ok (.putfield 18, 3)) (wAt_in (pl := 124) (by decide +kernel) rfl) (wAt_in (pl := 220) (by decide +kernel) rfl) rfl rfl (cY1_ok 1 (by decide)) (fun _ => rfl) (fun _ => rfl) (by rw [hL1]; decide) (Nat.le_of_ble_eq_true rfl) (Nat.le_of_ble_eq_true rfl) (Nat.le_of_ble_eq_true rfl) rfl rfl rfl (fun q1 c1 rest2 tys2 fs2 er2 et2 ef2 hl2 => ?_)
  have hL2 := hl2.trans hL1
  refine s_arrI X (q0 := ("NestRanges$Nest", cT1, 12)) (ci := 1) (idx := 22) (k := 2) (n := 83) (ln := 2) (ty := cY1 2) 31 6 149 rfl (by decide) (by decide +kernel : decode prog_3_method_1_code 23 = .ok (.aload_n 0, 1)) (Or.inr (Or.inl ⟨(by decide +kernel : decode prog_3_method_1_code 24 = .ok (.bipush 83, 2)), rfl, by decide +kernel⟩)) (by decide +kernel : decode prog_3_method_1_code 26 = .ok (.newarray .int, 2)) (by decide +kernel : decode prog_3_method_1_code 28 = .ok (.putfield 22, 3)) (wAt_in (pl := 124) (by decide +kernel) rfl) (wAt_in (pl := 222) (by decide +kernel) rfl) rfl rfl (cY1_ok 2 (by decide)) (fun _ => rfl) (fun _ => rfl) (by rw [hL2]; decide) (Nat.le_of_ble_eq_true rfl) (Nat.le_of_ble_eq_true rfl) (Nat.le_of_ble_eq_true rfl) rfl rfl rfl (fun q2 c2 rest3 tys3 fs3 er3 et3 ef3 hl3 => ?_)
  have hL3 := hl3.trans hL2
  refine s_arrI X (q0 := ("NestRanges$Nest", cT1, 12)) (ci := 1) (idx := 25) (k := 3) (n := 83) (ln := 2) (ty := cY1 3) 39 7 232 rfl (by decide) (by decide +kernel : decode prog_3_method_1_code 31 = .ok (.aload_n 0, 1)) (Or.inr (Or.inl ⟨(by decide +kernel : decode prog_3_method_1_code 32 = .ok (.bipush 83, 2)), rfl, by decide +kernel⟩)) (by decide +kernel : decode prog_3_method_1_code 34 = .ok (.newarray .int, 2)) (by decide +kernel : decode prog_3_method_1_code 36 = .ok (.putfield 25, 3)) (wAt_in (pl := 124) (by decide +kernel) rfl) (wAt_in (pl := 224) (by decide +kernel) rfl) rfl rfl (cY1_ok 3 (by decide)) (fun _ => rfl) (fun _ => rfl) (by rw [hL3]; decide) (Nat.le_of_ble_eq_true rfl) (Nat.le_of_ble_eq_true rfl) (Nat.le_of_ble_eq_true rfl) rfl rfl rfl (fun q3 c3 rest4 tys4 fs4 er4 et4 ef4 hl4 => ?_)
  have hL4 := hl4.trans hL3
  refine s_arrI X (q0 := ("NestRanges$Nest", cT1, 12)) (ci := 1) (idx := 28) (k := 4) (n := 83) (ln := 2) (ty := cY1 4) 47 8 315 rfl (by decide) (by decide +kernel : decode prog_3_method_1_code 39 = .ok (.aload_n 0, 1)) (Or.inr (Or.inl ⟨(by decide +kernel : decode prog_3_method_1_code 40 = .ok (.bipush 83, 2)), rfl, by decide +kernel⟩)) (by decide +kernel : decode prog_3_method_1_code 42 = .ok (.newarray .int, 2)) (by decide +kernel : decode prog_3_method_1_code 44 = .ok (.putfield 28, 3)) (wAt_in (pl := 124) (by decide +kernel) rfl) (wAt_in (pl := 226) (by decide +kernel) rfl) rfl rfl (cY1_ok 4 (by decide)) (fun _ => rfl) (fun _ => rfl) (by rw [hL4]; decide) (Nat.le_of_ble_eq_true rfl) (Nat.le_of_ble_eq_true rfl) (Nat.le_of_ble_eq_true rfl) rfl rfl rfl (fun q4 c4 rest5 tys5 fs5 er5 et5 ef5 hl5 => ?_)
  have hL5 := hl5.trans hL4
  refine s_arrI X (q0 := ("NestRanges$Nest", cT1, 12)) (ci := 1) (idx := 31) (k := 5) (n := 83) (ln := 2) (ty := cY1 5) 55 9 398 rfl (by decide) (by decide +kernel : decode prog_3_method_1_code 47 = .ok (.aload_n 0, 1)) (Or.inr (Or.inl ⟨(by decide +kernel : decode prog_3_method_1_code 48 = .ok (.bipush 83, 2)), rfl, by decide +kernel⟩)) (by decide +kernel : decode prog_3_method_1_code 50 = .ok (.newarray .int, 2)) (by decide +kernel : decode prog_3_method_1_code 52 = .ok (.putfield 31, 3)) (wAt_in (pl := 124) (by decide +kernel) rfl) (wAt_in (pl := 228) (by decide +kernel) rfl) rfl rfl (cY1_ok 5 (by decide)) (fun _ => rfl) (fun _ => rfl) (by rw [hL5]; decide) (Nat.le_of_ble_eq_true rfl) (Nat.le_of_ble_eq_true rfl) (Nat.le_of_ble_eq_true rfl) rfl rfl rfl (fun q5 c5 rest6 tys6 fs6 er6 et6 ef6 hl6 => ?_)
  have hL6 := hl6.trans hL5
  refine s_arrI X (q0 := ("NestRanges$Nest", cT1, 12)) (ci := 1) (idx := 34) (k := 6) (n := 83) (ln := 2) (ty := cY1 6) 63 10 481 rfl (by decide) (by decide +kernel : decode prog_3_method_1_code 55 = .ok (.aload_n 0, 1)) (Or.inr (Or.inl ⟨(by decide +kernel : decode prog_3_method_1_code 56 = .ok (.bipush 83, 2)), rfl, by decide +kernel⟩)) (by decide +kernel : decode prog_3_method_1_code 58 = .ok (.newarray .int, 2)) (by decide +kernel : decode prog_3_method_1_code 60 = .ok (.putfield 34, 3)) (wAt_in (pl := 124) (by decide +kernel) rfl) (wAt_in (pl := 230) (by decide +kernel) rfl) rfl rfl (cY1_ok 6 (by decide)) (fun _ => rfl) (fun _ => rfl) (by rw [hL6]; decide) (Nat.le_of_ble_eq_true rfl) (Nat.le_of_ble_eq_true rfl) (Nat.le_of_ble_eq_true rfl) rfl rfl rfl (fun q6 c6 rest7 tys7 fs7 er7 et7 ef7 hl7 => ?_)
  have hL7 := hl7.trans hL6
  refine s_arrI X (q0 := ("NestRanges$Nest", cT1, 12)) (ci := 1) (idx := 37) (k := 7) (n := 5) (ln := 1) (ty := cY1 7) 70 11 486 rfl (by decide) (by decide +kernel : decode prog_3_method_1_code 63 = .ok (.aload_n 0, 1)) (Or.inl ⟨(by decide +kernel : decode prog_3_method_1_code 64 = .ok (.iconst 5, 1)), rfl, by decide +kernel⟩) (by decide +kernel : decode prog_3_method_1_code 65 = .ok (.newarray .int, 2)) (by decide +kernel : decode prog_3_method_1_code 67 = .ok (.putfield 37, 3)) (wAt_in (pl := 124) (by decide +kernel) rfl) (wAt_in (pl := 232) (by decide +kernel) rfl) rfl rfl (cY1_ok 7 (by decide)) (fun _ => rfl) (fun _ => rfl) (by rw [hL7]; decide) (Nat.le_of_ble_eq_true rfl) (Nat.le_of_ble_eq_true rfl) (Nat.le_of_ble_eq_true rfl) rfl rfl rfl (fun q7 c7 rest8 tys8 fs8 er8 et8 ef8 hl8 => ?_)
  have hL8 := hl8.trans hL7
  refine s_int X (q0 := ("NestRanges$Nest", cT1, 12)) (ci := 1) (idx := 40) (k := 8) (n := 0) (ln := 1) (ty := cY1 8) 75 rfl (by decide) (by decide +kernel : decode prog_3_method_1_code 70 = .ok (.aload_n 0, 1)) (Or.inl ⟨(by decide +kernel : decode prog_3_method_1_code 71 = .ok (.iconst 0, 1)), rfl, by decide +kernel⟩) (by decide +kernel : decode prog_3_method_1_code 72 = .ok (.putfield 40, 3)) (wAt_in (pl := 233) (by decide +kernel) rfl) rfl (cY1_ok 8 (by decide)) (by decide +kernel) (by decide +kernel) (by rw [hL8]; decide) rfl (fun fs9 ef9 hl9 => ?_)
  have hL9 := hl9.trans hL8
  refine s_int X (q0 := ("NestRanges$Nest", cT1, 12)) (ci := 1) (idx := 44) (k := 9) (n := 0) (ln := 1) (ty := cY1 9) 80 rfl (by decide) (by decide +kernel : decode prog_3_method_1_code 75 = .ok (.aload_n 0, 1)) (Or.inl ⟨(by decide +kernel : decode prog_3_method_1_code 76 = .ok (.iconst 0, 1)), rfl, by decide +kernel⟩) (by decide +kernel : decode prog_3_method_1_code 77 = .ok (.putfield 44, 3)) (wAt_in (pl := 235) (by decide +kernel) rfl) rfl (cY1_ok 9 (by decide)) (by decide +kernel) (by decide +kernel) (by rw [hL9]; decide) rfl (fun fs10 ef10 hl10 => ?_)
  have hL10 := hl10.trans hL9
  refine s_int X (q0 := ("NestRanges$Nest", cT1, 12)) (ci := 1) (idx := 47) (k := 10) (n := 1) (ln := 1) (ty := cY1 10) 85 rfl (by decide) (by decide +kernel : decode prog_3_method_1_code 80 = .ok (.aload_n 0, 1)) (Or.inl ⟨(by decide +kernel : decode prog_3_method_1_code 81 = .ok (.iconst 1, 1)), rfl, by decide +kernel⟩) (by decide +kernel : decode prog_3_method_1_code 82 = .ok (.putfield 47, 3)) (wAt_in (pl := 237) (by decide +kernel) rfl) rfl (cY1_ok 10 (by decide)) (by decide +kernel) (by decide +kernel) (by rw [hL10]; decide) rfl (fun fs11 ef11 hl11 => ?_)
  have hL11 := hl11.trans hL10
  refine s_int X (q0 := ("NestRanges$Nest", cT1, 12)) (ci := 1) (idx := 50) (k := 11) (n := 0) (ln := 1) (ty := cY1 11) 90 rfl (by decide) (by decide +kernel : decode prog_3_method_1_code 85 = .ok (.aload_n 0, 1)) (Or.inl ⟨(by decide +kernel : decode prog_3_method_1_code 86 = .ok (.iconst 0, 1)), rfl, by decide +kernel⟩) (by decide +kernel : decode prog_3_method_1_code 87 = .ok (.putfield 50, 3)) (wAt_in (pl := 239) (by decide +kernel) rfl) rfl (cY1_ok 11 (by decide)) (by decide +kernel) (by decide +kernel) (by rw [hL11]; decide) rfl (fun fs12 ef12 hl12 => ?_)
  have hL12 := hl12.trans hL11
  clear hl12 hL12 hl11 hL11 hl10 hL10 hl9 hL9 hl8 hL8 hl7 hL7 hl6 hL6 hl5 hL5 hl4 hL4 hl3 hL3 hl2 hL2 hl1 hL1
  subst er1
  subst et1
  subst ef1
  subst er2
  subst et2
  subst ef2
  subst er3
  subst et3
  subst ef3
  subst er4
  subst et4
  subst ef4
  subst er5
  subst et5
  subst ef5
  subst er6
  subst et6
  subst ef6
  subst er7
  subst et7
  subst ef7
  subst er8
  subst et8
  subst ef8
  subst ef9
  subst ef10
  subst ef11
  subst ef12
  refine b_eq (cnN_w h a0 k0 m0 q1 c1 q2 c2 q3 c3 q4 c4 q5 c5 q6 c6 q7 c7) ?_
  exact hR ls 90 _ _ _ _ _ _ (by decide +kernel : decode prog_3_method_1_code 90 = .ok (.return_, 1)) rfl trivial (cnN_t h a0 k0 m0 q1 c1 q2 c2 q3 c3 q4 c4 q5 c5 q6 c6 q7 c7) (Nat.le_of_ble_eq_true rfl) (Nat.le_of_ble_eq_true rfl)
