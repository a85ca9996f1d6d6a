/-! one turn of the law's loop -/
def LF (s : State) (D : va_G) (aX aM : Nat → Nat) (cX cM : Nat → ClassId) : Prop := va_K D classes (tysL layX cX) s ∧ va_K D classes (tysL layM cM) s ∧ injA layX aX ∧ injA layM aM ∧ (∀ i, i < layX.length → s.heap.size ≤ aX i) ∧ (∀ i, i < layM.length → s.heap.size ≤ aM i) ∧ ∀ i j, i < layX.length → j < layM.length → aX i ≠ aM j
def LI (s : State) (D : va_G) (aX aM : Nat → Nat) (cX cM : Nat → ClassId) (S : XS) (H : Heap) (locs : List Loc) : Prop := ∃ μX μM, va_P D classes (wld layX aX cX μX) H ∧ va_P D classes (wld layM aM cM μM) H ∧ XAt μX 0 S ∧ MAt μM 0 S ∧ va_S (A0 s) s.heap H locs
/-- the law at a place with an empty stack, in some state of the two objects -/
def LG (p : Program) (l : Launch) (e : Env) (s : State) (m : MethodId) (below : List Frame) (meth : Method) (c : Code) (Q : State → Prop) (b : Nat) (D : va_G) (aX aM : Nat → Nat) (cX cM : Nat → ClassId) (ls : Array Slot) (pc : Nat) : Prop := ∀ (S : XS) (H : Heap) (locs : List Loc), LI s D aX aM cX cM S H locs → W p l e room_1 s m #[Value.ref b] below meth c H locs 148 11486 Q (F0 m pc ls [])
def ArgAt (pc k : Nat) : Prop := decode code pc = .ok (.aload_n 0, 1) ∧ decode code (pc + 1) = .ok (.iload_n 3, 1) ∧ decode code (pc + 1 + 1) = .ok (.iconst k, 1) ∧ Int32.ofInt k = nI k ∧ decode code (pc + 1 + 1 + 1) = .ok (.iadd, 1) ∧ decode code (pc + 1 + 1 + 1 + 1) = .ok (.iaload, 1)
section LAW2
variable {p : Program} {l : Launch} {e : Env} {s : State} {m : MethodId} {below : List Frame} {meth : Method} {c : Code} {Q : State → Prop} {b L : Nat} {xs : Nat → Int32} {D : va_G} {aX aM : Nat → Nat} {cX cM : Nat → ClassId} {ls : Array Slot} {i : Nat}
theorem l_case0 (C0 : lw_At p s m meth c b L xs) (hL : L ≤ 2048) (F : LF s D aX aM cX cM) (hlv : lv_has ls 4 [(3, .int (nI i)), (2, .ref (aM 0)), (1, .ref (aX 0)), (0, .ref b)]) (hi : i + 4 ≤ L) {pc MX MM dX dM iX iM : Nat} {off : Int} (e0 : decode code pc = .ok (.aload_n 1, 1)) (e1 : decode code (pc + 1) = .ok (.invokevirtual iX, 3)) (e2 : decode code (pc + 4) = .ok (.aload_n 2, 1)) (e3 : decode code (pc + 5) = .ok (.invokevirtual iM, 3)) (e4 : decode code (pc + 8) = .ok (.if_icmp .eq off, 3)) (ht : ((pc + 8 : Nat) : Int) + off = ((811 : Nat) : Int)) (lX : LM MX iX 0) (lM : LM MM iM 0) (kX : rkOf (mRt MX) = 1 ∧ clsNm 5 = (mNm MX).cls ∧ dX ≤ 20) (kM : rkOf (mRt MM) = 1 ∧ clsNm 6 = (mNm MM).cls ∧ dM ≤ 20) (hA : ∀ (μX μM : Mem) (S : XS), XAt μX 0 S → MAt μM 0 S → AgC dX dM MX MM [] μX μM) (hk : LG p l e s m below meth c Q b D aX aM cX cM ls 811) : LG p l e s m below meth c Q b D aX aM cX cM ls pc := by
  intro S H locs hI
  obtain ⟨μX, μM, hPX, hPM, hX, hM, hS⟩ := hI
  obtain ⟨v, S', rX, rM⟩ := hA μX μM S hX hM
  refine lv_aload_n C0.1 C0.2.1 e0 rfl (lv_at hlv 2 rfl) ?_
  refine l_calli (vs := []) (rest := []) (ci := 5) (lay' := layM) (adr' := aM) C0 hlv.1 F.1 F.2.2.1 F.2.2.2.2.1 (fun i j h1 h2 h3 => F.2.2.2.2.2.2 j i h2 h1 h3.symm) hPX hPM hS e1 rX rfl (by decide) kX.1 lX kX.2.1 kX.2.2 (by decide) (by decide) (by decide) (fun y μX1 H1 locs1 hp hPX hPM hS => ?_)
  obtain ⟨y1, h9, q9, hX1⟩ := hp
  have hy : y = v := (Sum.inl.inj (Option.some.inj h9)).trans q9
  subst hy
  refine lv_aload_n C0.1 C0.2.1 e2 rfl (lv_at hlv 1 rfl) ?_
  refine l_calli (vs := []) (rest := [.int y]) (ci := 6) (lay' := layX) (adr' := aX) C0 hlv.1 F.2.1 F.2.2.2.1 F.2.2.2.2.2.1 F.2.2.2.2.2.2 hPM hPX hS e3 rM rfl (by decide) kM.1 lM kM.2.1 kM.2.2 (by show 1 ≤ 8; decide) (by decide) (by decide) (fun z μM1 H2 locs2 hp hPM hPX hS => ?_)
  obtain ⟨z1, h7, q7, hM1⟩ := hp
  have hz : z = y := (Sum.inl.inj (Option.some.inj h7)).trans q7
  exact lv_icmp_eq C0.1 C0.2.1 e4 ht (fun _ => hk S' H2 locs2 ⟨μX1, μM1, hPX, hPM, hX1, hM1, hS⟩) (fun q => absurd hz.symm q)
theorem l_case1 (C0 : lw_At p s m meth c b L xs) (hL : L ≤ 2048) (F : LF s D aX aM cX cM) (hlv : lv_has ls 4 [(3, .int (nI i)), (2, .ref (aM 0)), (1, .ref (aX 0)), (0, .ref b)]) (hi : i + 4 ≤ L) {pc MX MM dX dM iX iM : Nat} {off : Int} (e0 : decode code pc = .ok (.aload_n 1, 1)) (f0 : ArgAt (pc + 1) 1) (e1 : decode code (pc + 6) = .ok (.invokevirtual iX, 3)) (e2 : decode code (pc + 9) = .ok (.aload_n 2, 1)) (g0 : ArgAt (pc + 10) 1) (e3 : decode code (pc + 15) = .ok (.invokevirtual iM, 3)) (e4 : decode code (pc + 18) = .ok (.if_icmp .eq off, 3)) (ht : ((pc + 18 : Nat) : Int) + off = ((811 : Nat) : Int)) (lX : LM MX iX 1) (lM : LM MM iM 1) (kX : rkOf (mRt MX) = 1 ∧ clsNm 5 = (mNm MX).cls ∧ dX ≤ 20) (kM : rkOf (mRt MM) = 1 ∧ clsNm 6 = (mNm MM).cls ∧ dM ≤ 20) (hA : ∀ (μX μM : Mem) (S : XS), XAt μX 0 S → MAt μM 0 S → AgC dX dM MX MM [xs (i + 1)] μX μM) (hk : LG p l e s m below meth c Q b D aX aM cX cM ls 811) : LG p l e s m below meth c Q b D aX aM cX cM ls pc := by
  intro S H locs hI
  obtain ⟨μX, μM, hPX, hPM, hX, hM, hS⟩ := hI
  obtain ⟨v, S', rX, rM⟩ := hA μX μM S hX hM
  refine lv_aload_n C0.1 C0.2.1 e0 rfl (lv_at hlv 2 rfl) ?_
  refine l_arg C0 (i := i) (k := 1) hL (lv_at hlv 3 rfl) (lv_at hlv 0 rfl) (by omega) hS f0.1 f0.2.1 f0.2.2.1 f0.2.2.2.1 f0.2.2.2.2.1 f0.2.2.2.2.2 ?_
  refine l_calli (vs := [xs (i + 1)]) (rest := []) (ci := 5) (lay' := layM) (adr' := aM) C0 hlv.1 F.1 F.2.2.1 F.2.2.2.2.1 (fun i j h1 h2 h3 => F.2.2.2.2.2.2 j i h2 h1 h3.symm) hPX hPM hS e1 rX rfl (by decide) kX.1 lX kX.2.1 kX.2.2 (by decide) (by decide) (by decide) (fun y μX1 H1 locs1 hp hPX hPM hS => ?_)
  obtain ⟨y1, h9, q9, hX1⟩ := hp
  have hy : y = v := (Sum.inl.inj (Option.some.inj h9)).trans q9
  subst hy
  refine lv_aload_n C0.1 C0.2.1 e2 rfl (lv_at hlv 1 rfl) ?_
  refine l_arg C0 (i := i) (k := 1) hL (lv_at hlv 3 rfl) (lv_at hlv 0 rfl) (by omega) hS g0.1 g0.2.1 g0.2.2.1 g0.2.2.2.1 g0.2.2.2.2.1 g0.2.2.2.2.2 ?_
  refine l_calli (vs := [xs (i + 1)]) (rest := [.int y]) (ci := 6) (lay' := layX) (adr' := aX) C0 hlv.1 F.2.1 F.2.2.2.1 F.2.2.2.2.2.1 F.2.2.2.2.2.2 hPM hPX hS e3 rM rfl (by decide) kM.1 lM kM.2.1 kM.2.2 (by show 1 ≤ 8; decide) (by decide) (by decide) (fun z μM1 H2 locs2 hp hPM hPX hS => ?_)
  obtain ⟨z1, h7, q7, hM1⟩ := hp
  have hz : z = y := (Sum.inl.inj (Option.some.inj h7)).trans q7
  exact lv_icmp_eq C0.1 C0.2.1 e4 ht (fun _ => hk S' H2 locs2 ⟨μX1, μM1, hPX, hPM, hX1, hM1, hS⟩) (fun q => absurd hz.symm q)
theorem l_case2 (C0 : lw_At p s m meth c b L xs) (hL : L ≤ 2048) (F : LF s D aX aM cX cM) (hlv : lv_has ls 4 [(3, .int (nI i)), (2, .ref (aM 0)), (1, .ref (aX 0)), (0, .ref b)]) (hi : i + 4 ≤ L) {pc MX MM dX dM iX iM : Nat} {off : Int} (e0 : decode code pc = .ok (.aload_n 1, 1)) (f0 : ArgAt (pc + 1) 1) (f1 : ArgAt (pc + 6) 2) (e1 : decode code (pc + 11) = .ok (.invokevirtual iX, 3)) (e2 : decode code (pc + 14) = .ok (.aload_n 2, 1)) (g0 : ArgAt (pc + 15) 1) (g1 : ArgAt (pc + 20) 2) (e3 : decode code (pc + 25) = .ok (.invokevirtual iM, 3)) (e4 : decode code (pc + 28) = .ok (.if_icmp .eq off, 3)) (ht : ((pc + 28 : Nat) : Int) + off = ((811 : Nat) : Int)) (lX : LM MX iX 2) (lM : LM MM iM 2) (kX : rkOf (mRt MX) = 1 ∧ clsNm 5 = (mNm MX).cls ∧ dX ≤ 20) (kM : rkOf (mRt MM) = 1 ∧ clsNm 6 = (mNm MM).cls ∧ dM ≤ 20) (hA : ∀ (μX μM : Mem) (S : XS), XAt μX 0 S → MAt μM 0 S → AgC dX dM MX MM [xs (i + 1), xs (i + 2)] μX μM) (hk : LG p l e s m below meth c Q b D aX aM cX cM ls 811) : LG p l e s m below meth c Q b D aX aM cX cM ls pc := by
  intro S H locs hI
  obtain ⟨μX, μM, hPX, hPM, hX, hM, hS⟩ := hI
  obtain ⟨v, S', rX, rM⟩ := hA μX μM S hX hM
  refine lv_aload_n C0.1 C0.2.1 e0 rfl (lv_at hlv 2 rfl) ?_
  refine l_arg C0 (i := i) (k := 1) hL (lv_at hlv 3 rfl) (lv_at hlv 0 rfl) (by omega) hS f0.1 f0.2.1 f0.2.2.1 f0.2.2.2.1 f0.2.2.2.2.1 f0.2.2.2.2.2 ?_
  refine l_arg C0 (i := i) (k := 2) hL (lv_at hlv 3 rfl) (lv_at hlv 0 rfl) (by omega) hS f1.1 f1.2.1 f1.2.2.1 f1.2.2.2.1 f1.2.2.2.2.1 f1.2.2.2.2.2 ?_
  refine l_calli (vs := [xs (i + 1), xs (i + 2)]) (rest := []) (ci := 5) (lay' := layM) (adr' := aM) C0 hlv.1 F.1 F.2.2.1 F.2.2.2.2.1 (fun i j h1 h2 h3 => F.2.2.2.2.2.2 j i h2 h1 h3.symm) hPX hPM hS e1 rX rfl (by decide) kX.1 lX kX.2.1 kX.2.2 (by decide) (by decide) (by decide) (fun y μX1 H1 locs1 hp hPX hPM hS => ?_)
  obtain ⟨y1, h9, q9, hX1⟩ := hp
  have hy : y = v := (Sum.inl.inj (Option.some.inj h9)).trans q9
  subst hy
  refine lv_aload_n C0.1 C0.2.1 e2 rfl (lv_at hlv 1 rfl) ?_
  refine l_arg C0 (i := i) (k := 1) hL (lv_at hlv 3 rfl) (lv_at hlv 0 rfl) (by omega) hS g0.1 g0.2.1 g0.2.2.1 g0.2.2.2.1 g0.2.2.2.2.1 g0.2.2.2.2.2 ?_
  refine l_arg C0 (i := i) (k := 2) hL (lv_at hlv 3 rfl) (lv_at hlv 0 rfl) (by omega) hS g1.1 g1.2.1 g1.2.2.1 g1.2.2.2.1 g1.2.2.2.2.1 g1.2.2.2.2.2 ?_
  refine l_calli (vs := [xs (i + 1), xs (i + 2)]) (rest := [.int y]) (ci := 6) (lay' := layX) (adr' := aX) C0 hlv.1 F.2.1 F.2.2.2.1 F.2.2.2.2.2.1 F.2.2.2.2.2.2 hPM hPX hS e3 rM rfl (by decide) kM.1 lM kM.2.1 kM.2.2 (by show 1 ≤ 8; decide) (by decide) (by decide) (fun z μM1 H2 locs2 hp hPM hPX hS => ?_)
  obtain ⟨z1, h7, q7, hM1⟩ := hp
  have hz : z = y := (Sum.inl.inj (Option.some.inj h7)).trans q7
  exact lv_icmp_eq C0.1 C0.2.1 e4 ht (fun _ => hk S' H2 locs2 ⟨μX1, μM1, hPX, hPM, hX1, hM1, hS⟩) (fun q => absurd hz.symm q)
theorem l_case3 (C0 : lw_At p s m meth c b L xs) (hL : L ≤ 2048) (F : LF s D aX aM cX cM) (hlv : lv_has ls 4 [(3, .int (nI i)), (2, .ref (aM 0)), (1, .ref (aX 0)), (0, .ref b)]) (hi : i + 4 ≤ L) {pc MX MM dX dM iX iM : Nat} {off : Int} (e0 : decode code pc = .ok (.aload_n 1, 1)) (f0 : ArgAt (pc + 1) 1) (f1 : ArgAt (pc + 6) 2) (f2 : ArgAt (pc + 11) 3) (e1 : decode code (pc + 16) = .ok (.invokevirtual iX, 3)) (e2 : decode code (pc + 19) = .ok (.aload_n 2, 1)) (g0 : ArgAt (pc + 20) 1) (g1 : ArgAt (pc + 25) 2) (g2 : ArgAt (pc + 30) 3) (e3 : decode code (pc + 35) = .ok (.invokevirtual iM, 3)) (e4 : decode code (pc + 38) = .ok (.if_icmp .eq off, 3)) (ht : ((pc + 38 : Nat) : Int) + off = ((811 : Nat) : Int)) (lX : LM MX iX 3) (lM : LM MM iM 3) (kX : rkOf (mRt MX) = 1 ∧ clsNm 5 = (mNm MX).cls ∧ dX ≤ 20) (kM : rkOf (mRt MM) = 1 ∧ clsNm 6 = (mNm MM).cls ∧ dM ≤ 20) (hA : ∀ (μX μM : Mem) (S : XS), XAt μX 0 S → MAt μM 0 S → AgC dX dM MX MM [xs (i + 1), xs (i + 2), xs (i + 3)] μX μM) (hk : LG p l e s m below meth c Q b D aX aM cX cM ls 811) : LG p l e s m below meth c Q b D aX aM cX cM ls pc := by
  intro S H locs hI
  obtain ⟨μX, μM, hPX, hPM, hX, hM, hS⟩ := hI
  obtain ⟨v, S', rX, rM⟩ := hA μX μM S hX hM
  refine lv_aload_n C0.1 C0.2.1 e0 rfl (lv_at hlv 2 rfl) ?_
  refine l_arg C0 (i := i) (k := 1) hL (lv_at hlv 3 rfl) (lv_at hlv 0 rfl) (by omega) hS f0.1 f0.2.1 f0.2.2.1 f0.2.2.2.1 f0.2.2.2.2.1 f0.2.2.2.2.2 ?_
  refine l_arg C0 (i := i) (k := 2) hL (lv_at hlv 3 rfl) (lv_at hlv 0 rfl) (by omega) hS f1.1 f1.2.1 f1.2.2.1 f1.2.2.2.1 f1.2.2.2.2.1 f1.2.2.2.2.2 ?_
  refine l_arg C0 (i := i) (k := 3) hL (lv_at hlv 3 rfl) (lv_at hlv 0 rfl) (by omega) hS f2.1 f2.2.1 f2.2.2.1 f2.2.2.2.1 f2.2.2.2.2.1 f2.2.2.2.2.2 ?_
  refine l_calli (vs := [xs (i + 1), xs (i + 2), xs (i + 3)]) (rest := []) (ci := 5) (lay' := layM) (adr' := aM) C0 hlv.1 F.1 F.2.2.1 F.2.2.2.2.1 (fun i j h1 h2 h3 => F.2.2.2.2.2.2 j i h2 h1 h3.symm) hPX hPM hS e1 rX rfl (by decide) kX.1 lX kX.2.1 kX.2.2 (by decide) (by decide) (by decide) (fun y μX1 H1 locs1 hp hPX hPM hS => ?_)
  obtain ⟨y1, h9, q9, hX1⟩ := hp
  have hy : y = v := (Sum.inl.inj (Option.some.inj h9)).trans q9
  subst hy
  refine lv_aload_n C0.1 C0.2.1 e2 rfl (lv_at hlv 1 rfl) ?_
  refine l_arg C0 (i := i) (k := 1) hL (lv_at hlv 3 rfl) (lv_at hlv 0 rfl) (by omega) hS g0.1 g0.2.1 g0.2.2.1 g0.2.2.2.1 g0.2.2.2.2.1 g0.2.2.2.2.2 ?_
  refine l_arg C0 (i := i) (k := 2) hL (lv_at hlv 3 rfl) (lv_at hlv 0 rfl) (by omega) hS g1.1 g1.2.1 g1.2.2.1 g1.2.2.2.1 g1.2.2.2.2.1 g1.2.2.2.2.2 ?_
  refine l_arg C0 (i := i) (k := 3) hL (lv_at hlv 3 rfl) (lv_at hlv 0 rfl) (by omega) hS g2.1 g2.2.1 g2.2.2.1 g2.2.2.2.1 g2.2.2.2.2.1 g2.2.2.2.2.2 ?_
  refine l_calli (vs := [xs (i + 1), xs (i + 2), xs (i + 3)]) (rest := [.int y]) (ci := 6) (lay' := layX) (adr' := aX) C0 hlv.1 F.2.1 F.2.2.2.1 F.2.2.2.2.2.1 F.2.2.2.2.2.2 hPM hPX hS e3 rM rfl (by decide) kM.1 lM kM.2.1 kM.2.2 (by show 1 ≤ 8; decide) (by decide) (by decide) (fun z μM1 H2 locs2 hp hPM hPX hS => ?_)
  obtain ⟨z1, h7, q7, hM1⟩ := hp
  have hz : z = y := (Sum.inl.inj (Option.some.inj h7)).trans q7
  exact lv_icmp_eq C0.1 C0.2.1 e4 ht (fun _ => hk S' H2 locs2 ⟨μX1, μM1, hPX, hPM, hX1, hM1, hS⟩) (fun q => absurd hz.symm q)
end LAW2
