/-! the law's beginning -/
theorem wld_g (lay : List Nat) (adr : Nat → Nat) (cA : Nat → ClassId) (μ : Mem) (i : Nat) (hi : i < lay.length) : (wld lay adr cA μ)[i]? = some (adr i, cellE adr cA μ (knd lay i) i) := by
  unfold wld
  rw [List.getElem?_map, List.getElem?_range hi]
  rfl
theorem wld_len (lay : List Nat) (adr : Nat → Nat) (cA : Nat → ClassId) (μ : Mem) : (wld lay adr cA μ).length = lay.length := by
  unfold wld
  rw [List.length_map, List.length_range]
theorem wld_apart {A : Nat → Prop} {lay lay' : List Nat} {adr adr' : Nat → Nat} {cA cA' : Nat → ClassId} {μ μ' : Mem} {ws : va_W} (hD : va_D A ((ws ++ wld lay adr cA μ) ++ wld lay' adr' cA' μ')) (i j : Nat) (hi : i < lay.length) (hj : j < lay'.length) : adr i ≠ adr' j := fun hij => by
  have hl := wld_len lay adr cA μ
  have h1 : ((ws ++ wld lay adr cA μ) ++ wld lay' adr' cA' μ')[ws.length + i]? = some (adr i, cellE adr cA μ (knd lay i) i) := by
    rw [List.getElem?_append_left (by rw [List.length_append, hl]; omega), List.getElem?_append_right (by omega), Nat.add_sub_cancel_left]
    exact wld_g lay adr cA μ i hi
  have h2 : ((ws ++ wld lay adr cA μ) ++ wld lay' adr' cA' μ')[ws.length + lay.length + j]? = some (adr' j, cellE adr' cA' μ' (knd lay' j) j) := by
    rw [List.getElem?_append_right (by rw [List.length_append, hl]; omega), List.length_append, hl, Nat.add_sub_cancel_left]
    exact wld_g lay' adr' cA' μ' j hj
  have := hD.1 _ _ _ _ h1 h2 hij
  omega
theorem l_new {p : Program} {l : Launch} {e : Env} {s : State} {m : MethodId} {below : List Frame} {meth : Method} {c : Code} {Q : State → Prop} {b L : Nat} {xs : Nat → Int32} {D : va_G} (C0 : lw_At p s m meth c b L xs) {q0 : vw_C} {ci' idx idx2 d mL mc ms pc cells slots : Nat} {ty : Nat → FieldType} {y : MethodName} {cy : ByteArray} {fs' st : List Value} {lay : List Nat} {Φ : Mem → Prop} {ws : va_W} {tys : List (ClassId × FieldType)} {ls : Array Slot} {H : Heap} {locs : List Loc} (hls : ls.size = 4) (hq : classes[ci']? = some q0) (hd1 : decode code pc = .ok (.new idx, 3)) (hd2 : decode code (pc + 3) = .ok (.dup, 1)) (hd3 : decode code (pc + 4) = .ok (.invokespecial idx2, 3)) (hty : ∀ k, k < q0.2.2 → parseFieldDescriptor (q0.2.1 k).2.2.1 = some (ty k)) (hfs : ∀ j, j < q0.2.2 → defaultValue (ty j) = vp_V fs' j) (w1 : Cond.classLink R_law idx q0.1 ∈ lg) (w2 : Cond.instantiable q0.1 q0.2.2 ∈ lg) (w3 : Cond.initialized q0.1 ∈ lg) (w4 : Cond.methodLink R_law idx2 y ∈ lg) (w5 : Cond.instanceMethod y ∈ lg) (w6 : Cond.code y cy mL none ∈ lg) (hy : y.name = "<init>") (hyc : y.cls = q0.1) (hyd : y.cls ≠ "java/lang/invoke/MethodHandle" ∧ y.cls ≠ "java/lang/invoke/VarHandle" ∧ (parseMethodDescriptor y.desc).map (fun d => d.parameters.length) = some 0) (hmL : mL ≤ 40) (hC : Cn l D d y cy mL ci' fs' lay Φ mc ms) (hAO : AOk s) (hR : d ≤ 20) (hc : cells + 1 + mc ≤ 600000) (hs : slots + q0.2.2 + ms ≤ 7302250) (hst : (st.map fun v => v.category).sum ≤ 7) (hP : va_P D classes ws H) (hD : va_D (A0 s) ws) (hK : va_K D classes tys s) (hS : va_S (A0 s) s.heap H locs)
    (kk : ∀ (adr : Nat → Nat) (cA : Nat → ClassId) (μ : Mem) (H2 : Heap) (locs2 : List Loc), Φ μ → va_P D classes (ws ++ wld lay adr cA μ) H2 → va_D (A0 s) (ws ++ wld lay adr cA μ) → va_K D classes (tys ++ tysL lay cA) s → va_S (A0 s) s.heap H2 locs2 → W p l e room_1 s m #[Value.ref b] below meth c H2 locs2 (cells + 1 + mc) (slots + q0.2.2 + ms) Q (F0 m (pc + 7) ls (.ref (adr 0) :: st))) : W p l e room_1 s m #[Value.ref b] below meth c H locs cells slots Q (F0 m pc ls st) := by
  obtain ⟨c1, _, c3, c4, c5⟩ := clsOK ci' q0 hq
  have hlg := lw_lg C0
  have hA0 : ∀ q, s.heap.size ≤ q → A0 s q := fun q h => h
  refine va_new (ci := ci') (fs := fs') C0.1 C0.2.1 hlg c1 ty hty C0.2.2.2.2.1 (hlg _ w1) (hlg _ w2) (hlg _ w3) hK hP hD hS hA0 hq hfs (by show cells + 1 ≤ 600000; omega) (by show slots + q0.2.2 ≤ 7302250; omega) hd1 (fun q H1 hP hD hS => ?_)
  refine lv_dup C0.1 C0.2.1 hd2 rfl ?_
  have hF : ∀ x, va_A [(q, .inr (ci', fs'))] H1.size x → A0 s x := fun x hx => by
    rcases hx with ⟨k, e, hx⟩ | hx
    · have : k = 0 := by have := (List.getElem?_eq_some_iff.mp hx).1; simpa using this
      subst this
      have hx : (q, Sum.inr (ci', fs')) = (x, e) := Option.some.inj hx
      have := hD.2 ws.length (q, .inr (ci', fs')) (by rw [List.getElem?_append_right (Nat.le_refl _), Nat.sub_self]; rfl)
      have e1 : q = x := congrArg Prod.fst hx
      rw [← e1]
      exact this
    · exact Nat.le_trans hS.1 hx
  have hG : GoodIn lg (Cond.code y cy mL none :: lg) := gInL (fun w hw => by
    rcases List.mem_cons.mp hw with e | e
    · rw [e]; exact w6
    · exact e)
  refine va_callv (va_runI (As := []) (rest := .ref q :: st) ⟨C0.1, C0.2.1, C0.2.2.2.1, C0.2.2.2.2.1, hlg⟩ (hC q H1.size) (cwI 0 hlg hG rfl rfl rfl (by rw [hyc]; exact hlg _ w3) (hlg _ w4) (hlg _ w5) hy hyd ⟨by show d + 1 + 1 ≤ 2048; omega, by show 8 + (mL + 11) + 60 * (d + 1) ≤ 84000; omega⟩) ⟨fun a U g mk q => by obtain ⟨q0, q1, qP, qK, qA⟩ := q; exact ⟨q0, q1, qP, va_K.moved (u := U) (U := U.calling g mk a) (Vm.Alike.refl U.vm) qK, AOk.moved (u := U) (U := U.calling g mk a) (Vm.Alike.refl U.vm) qA⟩, fun U hU hW => ⟨rfl, by rw [hU], by rw [hU]; exact hP.rgt, va_K.moved hW.alike (hK.sub [] rfl), hAO.moved hW.alike⟩⟩ rfl rfl hls rfl (lv_room (by show (1 + (st.map fun v => v.category).sum) ≤ 8; omega)) hd3 ⟨hc, hs⟩) hS (fun x _ hx => hF x hx) hF (fun u t H2 locs ht hvm hw hB hz1 hk1 hS => ?_)
  obtain ⟨adr, cA, μ, a0, aΦ, hP1, hK1, hD1⟩ := hB
  rw [ht] at hP1
  obtain ⟨hP, hD⟩ := jn hP hD hk1 hF hP1 hD1
  have := kk adr cA μ H2 locs aΦ hP hD (hK.app (va_K.moved hvm.symm hK1)) hS
  rw [a0] at this
  exact this
set_option maxHeartbeats 4000000 in
theorem whole_start {p : Program} {e : Env} {s : State} {m : MethodId} {below : List Frame} {meth : Method} {c : Code} (l : Launch) (hflags : l.flags = flags0) {b L : Nat} {xs : Nat → Int32} (hL : L ≤ 2048) (C0 : lw_At p s m meth c b L xs) : W p l e room_1 s m #[Value.ref b] below meth c s.heap [] 0 0 (lw_Z below #[Value.ref b] s) (entryFrame m ([Value.ref b] : List Value).toArray 4) := by
  obtain ⟨hx, hb, hr, hml, hown, hts, hX, hbl, hlocks, hgv⟩ := id C0
  have hAO : AOk s := ⟨hts (.arrayOver (.object "NestRanges$Text")) (List.mem_of_getElem? (i := 132) (by decide +kernel)), hts (.arrayOver (.array .int)) (List.mem_of_getElem? (i := 152) (by decide +kernel))⟩
  obtain ⟨c0, iS0, hKn0⟩ := u_known (C := "NestRanges$History") (T := cT0) (N := 3) (n := 3) hts cW0 (hts _ (List.mem_of_getElem? (i := 126) (by decide +kernel)))
  obtain ⟨c1, iS1, hKn1⟩ := u_known (C := "NestRanges$Nest") (T := cT1) (N := 12) (n := 12) hts cW1 (hts _ (List.mem_of_getElem? (i := 211) (by decide +kernel)))
  obtain ⟨c2, iS2, hKn2⟩ := u_known (C := "NestRanges$Sections") (T := cT2) (N := 5) (n := 5) hts cW2 (hts _ (List.mem_of_getElem? (i := 181) (by decide +kernel)))
  obtain ⟨c3, iS3, hKn3⟩ := u_known (C := "NestRanges$Text") (T := cT3) (N := 6) (n := 6) hts cW3 (hts _ (List.mem_of_getElem? (i := 83) (by decide +kernel)))
  obtain ⟨c4, iS4, hKn4⟩ := u_known (C := "NestRanges$Weights") (T := cT4) (N := 8) (n := 8) hts cW4 (hts _ (List.mem_of_getElem? (i := 146) (by decide +kernel)))
  obtain ⟨c5, iS5, hKn5⟩ := u_known (C := "NestRanges") (T := cT5) (N := 10) (n := 10) hts cW5 (hts _ (List.mem_of_getElem? (i := 75) (by decide +kernel)))
  obtain ⟨c6, iS6, hKn6⟩ := u_known (C := "NestRangesModel") (T := cT6) (N := 25) (n := 25) hts cW6 (hts _ (List.mem_of_getElem? (i := 698) (by decide +kernel)))
  obtain ⟨dC, dI, hKc⟩ : ∃ (dC : Nat → ClassId) (dI : Nat → Nat → Nat), ∀ (k : Nat) (q : vw_C), classes[k]? = some q → u_Kn s q.1 q.2.1 q.2.2 (dC k) (dI k) := by
    refine ⟨fun k => match k with | 0 => c0 | 1 => c1 | 2 => c2 | 3 => c3 | 4 => c4 | 5 => c5 | _ => c6, fun k => match k with | 0 => iS0 | 1 => iS1 | 2 => iS2 | 3 => iS3 | 4 => iS4 | 5 => iS5 | _ => iS6, ?_⟩
    intro k q hq
    match k, hq with
    | 0, hq => cases hq; exact hKn0
    | 1, hq => cases hq; exact hKn1
    | 2, hq => cases hq; exact hKn2
    | 3, hq => cases hq; exact hKn3
    | 4, hq => cases hq; exact hKn4
    | 5, hq => cases hq; exact hKn5
    | 6, hq => cases hq; exact hKn6
    | k + 7, hq => simp [classes] at hq
  have hS : va_S (A0 s) s.heap s.heap [] := va_S.rf
  have hK : va_K (dC, dI) classes [] s := ⟨hKc, fun k q h => by simp at h⟩
  have hP : va_P (dC, dI) classes [] s.heap := fun k q h => by simp at h
  have hD : va_D (A0 s) [] := ⟨fun i j p q h => by simp at h, fun k q h => by simp at h⟩
  have hl := lv_entry ([.ref b]) (n := 4) (Nat.le_of_ble_eq_true rfl)
  rw [lg_entry_eq]
  generalize (lg_sl ([.ref b]) ++ List.replicate (4 - (lg_sl ([.ref b])).length) Slot.unset).toArray = ls at hl ⊢
  have hl : lv_has ls 4 [(0, .ref b)] := hl
  refine l_new C0 (q0 := ("NestRanges", cT5, 10)) (ci' := 5) (ty := cY5) (y := ⟨"NestRanges", "<init>", "()V"⟩) (fs' := [.null, .null, .null, .null, .null, .null, .int 0, .int 0, .int 0, .int 0]) hl.1 rfl (by decide +kernel : decode code 0 = .ok (.new 7, 3)) (by decide +kernel : decode code 3 = .ok (.dup, 1)) (by decide +kernel : decode code 4 = .ok (.invokespecial 9, 3)) cY5_ok (fun j hj => by have hj : j < 10 := hj; rcases (show j = 0 ∨ j = 1 ∨ j = 2 ∨ j = 3 ∨ j = 4 ∨ j = 5 ∨ j = 6 ∨ j = 7 ∨ j = 8 ∨ j = 9 by omega) with e | e | e | e | e | e | e | e | e | e <;> subst e <;> rfl) (wAt_in (pl := 74) (by decide +kernel) rfl) (wAt_in (pl := 75) (by decide +kernel) rfl) (wAt_in (pl := 64) (by decide +kernel) rfl) (wAt_in (pl := 76) (by decide +kernel) rfl) (wAt_in (pl := 77) (by decide +kernel) rfl) (wAt_in (pl := 78) (by decide +kernel) rfl) rfl rfl ⟨by decide +kernel, by decide +kernel, by decide +kernel⟩ (by decide) (cnX l (dC, dI)) hAO (by decide) (by decide) (by decide) (by decide) hP hD hK hS (fun aX cX μX H locs hΦX hP hD hK hS => ?_)
  refine lv_astore_n hx hb (by decide +kernel : decode code 7 = .ok (.astore_n 1, 1)) rfl hl (by decide) rfl (fun ls1 hl1 => ?_)
  refine l_new C0 (q0 := ("NestRangesModel", cT6, 25)) (ci' := 6) (ty := cY6) (y := ⟨"NestRangesModel", "<init>", "()V"⟩) (fs' := [.null, .int 0, .int 0, .null, .null, .null, .null, .null, .int 0, .int 0, .null, .null, .null, .null, .null, .null, .null, .null, .int 0, .null, .null, .null, .null, .null, .null]) hl1.1 rfl (by decide +kernel : decode code 8 = .ok (.new 10, 3)) (by decide +kernel : decode code 11 = .ok (.dup, 1)) (by decide +kernel : decode code 12 = .ok (.invokespecial 12, 3)) cY6_ok (fun j hj => by have hj : j < 25 := hj; rcases (show j = 0 ∨ j = 1 ∨ j = 2 ∨ j = 3 ∨ j = 4 ∨ j = 5 ∨ j = 6 ∨ j = 7 ∨ j = 8 ∨ j = 9 ∨ j = 10 ∨ j = 11 ∨ j = 12 ∨ j = 13 ∨ j = 14 ∨ j = 15 ∨ j = 16 ∨ j = 17 ∨ j = 18 ∨ j = 19 ∨ j = 20 ∨ j = 21 ∨ j = 22 ∨ j = 23 ∨ j = 24 by omega) with e | e | e | e | e | e | e | e | e | e | e | e | e | e | e | e | e | e | e | e | e | e | e | e | e <;> subst e <;> rfl) (wAt_in (pl := 697) (by decide +kernel) rfl) (wAt_in (pl := 698) (by decide +kernel) rfl) (wAt_in (pl := 70) (by decide +kernel) rfl) (wAt_in (pl := 699) (by decide +kernel) rfl) (wAt_in (pl := 700) (by decide +kernel) rfl) (wAt_in (pl := 701) (by decide +kernel) rfl) rfl rfl ⟨by decide +kernel, by decide +kernel, by decide +kernel⟩ (by decide) (cnM l (dC, dI)) hAO (by decide) (by decide) (by decide) (by decide) hP hD hK hS (fun aM cM μM H locs hΦM hP hD hK hS => ?_)
  refine lv_astore_n hx hb (by decide +kernel : decode code 15 = .ok (.astore_n 2, 1)) rfl hl1 (by decide) rfl (fun ls2 hl2 => ?_)
  refine lv_iconst hx hb (v := nI 0) (by decide +kernel : decode code 16 = .ok (.iconst 0, 1)) (by decide +kernel) ?_
  refine lv_istore_n hx hb (by decide +kernel : decode code 17 = .ok (.istore_n 3, 1)) rfl hl2 (by decide) rfl (fun ls3 hl3 => ?_)
  have hDX := hD.lft
  have hPX := hP.lft
  have hF : LF s (dC, dI) aX aM cX cM := ⟨hK.mem (fun x hx => List.mem_append_left _ (List.mem_append_right _ hx)), hK.mem (fun x hx => List.mem_append_right _ hx), wld_inj hDX.rgt, wld_inj hD.rgt, fun i hi => wld_in hDX.rgt hi, fun i hi => wld_in hD.rgt hi, wld_apart hD⟩
  exact l_loop C0 hL hF 2048 0 ls3 (by omega) (by omega) hl3 S00 H locs ⟨μX, μM, hPX.rgt, hP.rgt, hΦX, hΦM, hS⟩
