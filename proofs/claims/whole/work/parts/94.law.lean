/-! the law: two worlds that lie apart, and calls -/
def A0 (s : State) : Nat → Prop := fun q => s.heap.size ≤ q
theorem lw_lg {p : Program} {s : State} {m : MethodId} {meth : Method} {c : Code} {b L : Nat} {xs : Nat → Int32} (C0 : lw_At p s m meth c b L xs) : ∀ w ∈ lg, w.before #[Value.ref b] s = true := fun w hw => C0.2.2.2.2.2.1 w (List.mem_filter.mp hw).1
theorem wld_keep {D : va_G} {lay lay' : List Nat} {adr adr' : Nat → Nat} {cA' : Nat → ClassId} {μ' : Mem} {H H1 : Heap} (hap : ∀ i j, i < lay'.length → j < lay.length → adr' i ≠ adr j) (hP' : va_P D classes (wld lay' adr' cA' μ') H) (hk : ∀ q : Nat, q < H.size → ¬ Aset lay adr H.size q → H1[q]? = H[q]?) : va_P D classes (wld lay' adr' cA' μ') H1 := hP'.kept (fun k x hx => by
  obtain ⟨l1, e1⟩ := wld_at hx
  have hlt := (hP' k x hx).lt
  refine hk x.1 hlt (fun h => ?_)
  rcases h with ⟨j, j1, j2⟩ | h
  · rw [e1] at j2
    exact hap k j l1 j1 j2
  · omega)
section LAW
variable {p : Program} {l : Launch} {e : Env} {s : State} {m : MethodId} {below : List Frame} {meth : Method} {c : Code} {Q : State → Prop} {b L : Nat} {xs : Nat → Int32} {D : va_G}
variable {lay lay' : List Nat} {adr adr' : Nat → Nat} {cA cA' : Nat → ClassId} {μ μ' : Mem} {ci M d idx pc n : Nat} {P : PT} {vs : List Int32} {rest : List Value} {ls : Array Slot} {H : Heap} {locs : List Loc} {cells slots : Nat}
/-- what the words say of a method that the law calls -/
def LM (M idx n : Nat) : Prop := Cond.methodLink R_law idx (mNm M) ∈ lg ∧ Cond.instanceMethod (mNm M) ∈ lg ∧ Cond.selects (mNm M).cls (mNm M) (mNm M) ∈ lg ∧ Cond.initialized (mNm M).cls ∈ lg ∧ Cond.code (mNm M) (mBy M) (mMx M) (mRt M) ∈ lg ∧ ((mNm M).cls ≠ "java/lang/invoke/MethodHandle" ∧ (mNm M).cls ≠ "java/lang/invoke/VarHandle" ∧ (parseMethodDescriptor (mNm M).desc).map (fun d => d.parameters.length) = some n) ∧ mMx M ≤ 40
theorem l_run (C0 : lw_At p s m meth c b L xs) (hls : ls.size = 4) (hK : va_K D classes (tysL lay cA) s) (hi : injA lay adr) (hP : va_P D classes (wld lay adr cA μ) H) (hd : decode code pc = .ok (.invokevirtual idx, 3)) (hRn : Rn lay d M (rf (ci + 10) 0 :: vs.map vi) μ P) (hk : knd lay 0 = ci + 10) (hci : ci < classes.length) (hm : LM M idx vs.length) (hcn : clsNm ci = (mNm M).cls) (hd9 : d ≤ 20) (hst : (rest.map fun v => v.category).sum ≤ 8) (hc : cells ≤ 600000) (hs : slots ≤ 7302250) :
    va_Run p l e room_1 s m #[Value.ref b] below meth c H locs cells slots 0 0 (F0 m pc ls ((vs.map Value.int).reverse ++ .ref (adr 0) :: rest)) rest (Qr D lay adr cA (Aset lay adr H.size) (rkOf (mRt M)) P (Value.ref (adr 0) :: vs.map Value.int).toArray) (Aset lay adr H.size) := by
  obtain ⟨w1, w2, w3, w4, w5, hn, hmx⟩ := hm
  have hM := hRn (fun v hv => by
    rcases List.mem_cons.mp hv with e | e
    · rw [e]; exact Or.inr hk
    · obtain ⟨x, -, hx⟩ := List.mem_map.mp e
      rw [← hx]; trivial) l D adr cA H.size hi
  have hT : GoodIn lg (wsV R_law idx (mNm M).cls (mNm M) (wsOf M)) := gInL (fun w hw => by
    rcases List.mem_append.mp hw with q | q
    · rcases List.mem_cons.mp q with e | q
      · rw [e]; exact w1
      rcases List.mem_cons.mp q with e | q
      · rw [e]; exact w2
      rcases List.mem_cons.mp q with e | q
      · rw [e]; exact w3
      rcases List.mem_cons.mp q with e | q
      · rw [e]; exact w4
      cases q
    · exact ws_in w5 w q)
  obtain ⟨q, hq⟩ : ∃ q : vw_C, classes[ci]? = some q := ⟨classes[ci], List.getElem?_eq_getElem hci⟩
  have hqn : q.1 = (mNm M).cls := by
    rw [← hcn]
    unfold clsNm
    rw [List.getD, hq]
    rfl
  have he : (wld lay adr cA μ)[0]? = some (adr 0, .inr (ci, (List.range (nfl ci)).map (fval adr μ 0 ci))) := by
    rw [wld_get hk (by omega), cellE_obj hci]
  have hrv := va_recv hK hP hq he
  rw [hqn] at hrv
  have hav : (rf (ci + 10) 0 :: vs.map vi).map (cv adr) = Value.ref (adr 0) :: vs.map Value.int := by
    rw [List.map_cons, List.map_map]
    rfl
  rw [hav] at hM
  have hlg := lw_lg C0
  exact va_runV (C := (mNm M).cls) (b := adr 0) (As := vs.map Value.int) (rest := rest) ⟨C0.1, C0.2.1, C0.2.2.2.1, C0.2.2.2.2.1, hlg⟩ hM (cwV vs.length hlg hT rfl rfl rfl ⟨rfl, hn⟩ ⟨by show d + 1 + 1 ≤ 2048; omega, by show 8 + (mMx M + 11) + 60 * (d + 1) ≤ 84000; omega⟩) ⟨pre_blind, hrv, fun U hU hW => ⟨rfl, by rw [hU], by rw [hU]; exact hP, va_K.moved hW.alike hK⟩⟩ rfl (by simp) hls rfl (lv_room hst) hd ⟨hc, hs⟩
theorem l_calli (C0 : lw_At p s m meth c b L xs) (hls : ls.size = 4) (hK : va_K D classes (tysL lay cA) s) (hi : injA lay adr) (hz : ∀ i, i < lay.length → s.heap.size ≤ adr i) (hap : ∀ i j, i < lay'.length → j < lay.length → adr' i ≠ adr j) (hP : va_P D classes (wld lay adr cA μ) H) (hP' : va_P D classes (wld lay' adr' cA' μ') H) (hS : va_S (A0 s) s.heap H locs) (hd : decode code pc = .ok (.invokevirtual idx, 3)) (hRn : Rn lay d M (rf (ci + 10) 0 :: vs.map vi) μ P) (hk : knd lay 0 = ci + 10) (hci : ci < classes.length) (hrt : rkOf (mRt M) = 1) (hm : LM M idx vs.length) (hcn : clsNm ci = (mNm M).cls) (hd9 : d ≤ 20) (hst : (rest.map fun v => v.category).sum ≤ 8) (hc : cells ≤ 600000) (hs : slots ≤ 7302250)
    (kk : ∀ (y : Int32) (μ1 : Mem) (H1 : Heap) (locs1 : List Loc), P (some (vi y)) μ1 → va_P D classes (wld lay adr cA μ1) H1 → va_P D classes (wld lay' adr' cA' μ') H1 → va_S (A0 s) s.heap H1 locs1 → W p l e room_1 s m #[Value.ref b] below meth c H1 locs1 cells slots Q (F0 m (pc + 3) ls (.int y :: rest))) : W p l e room_1 s m #[Value.ref b] below meth c H locs cells slots Q (F0 m pc ls ((vs.map Value.int).reverse ++ .ref (adr 0) :: rest)) := by
  have hr := l_run (l := l) (e := e) (below := below) (locs := locs) C0 hls hK hi hP hd hRn hk hci hm hcn hd9 hst hc hs
  rw [hrt] at hr
  have hF : ∀ q, Aset lay adr H.size q → A0 s q := fun q h => by
    rcases h with ⟨id, h1, h2⟩ | h
    · rw [h2]; exact hz id h1
    · exact Nat.le_trans hS.1 h
  exact va_calli (a := (Value.ref (adr 0) :: vs.map Value.int).toArray) hr hS (fun q _ h => hF q h) hF (fun y u t H1 locs1 ht hvm hw hB hz hk hS1 => kk y u H1 locs1 hw (by rw [← ht]; exact hB) (wld_keep hap hP' hk) hS1)
theorem l_calll (C0 : lw_At p s m meth c b L xs) (hls : ls.size = 4) (hK : va_K D classes (tysL lay cA) s) (hi : injA lay adr) (hz : ∀ i, i < lay.length → s.heap.size ≤ adr i) (hap : ∀ i j, i < lay'.length → j < lay.length → adr' i ≠ adr j) (hP : va_P D classes (wld lay adr cA μ) H) (hP' : va_P D classes (wld lay' adr' cA' μ') H) (hS : va_S (A0 s) s.heap H locs) (hd : decode code pc = .ok (.invokevirtual idx, 3)) (hRn : Rn lay d M (rf (ci + 10) 0 :: vs.map vi) μ P) (hk : knd lay 0 = ci + 10) (hci : ci < classes.length) (hrt : rkOf (mRt M) = 2) (hm : LM M idx vs.length) (hcn : clsNm ci = (mNm M).cls) (hd9 : d ≤ 20) (hst : (rest.map fun v => v.category).sum ≤ 8) (hc : cells ≤ 600000) (hs : slots ≤ 7302250)
    (kk : ∀ (y : Int64) (μ1 : Mem) (H1 : Heap) (locs1 : List Loc), P (some (vl y)) μ1 → va_P D classes (wld lay adr cA μ1) H1 → va_P D classes (wld lay' adr' cA' μ') H1 → va_S (A0 s) s.heap H1 locs1 → W p l e room_1 s m #[Value.ref b] below meth c H1 locs1 cells slots Q (F0 m (pc + 3) ls (.long y :: rest))) : W p l e room_1 s m #[Value.ref b] below meth c H locs cells slots Q (F0 m pc ls ((vs.map Value.int).reverse ++ .ref (adr 0) :: rest)) := by
  have hr := l_run (l := l) (e := e) (below := below) (locs := locs) C0 hls hK hi hP hd hRn hk hci hm hcn hd9 hst hc hs
  rw [hrt] at hr
  have hF : ∀ q, Aset lay adr H.size q → A0 s q := fun q h => by
    rcases h with ⟨id, h1, h2⟩ | h
    · rw [h2]; exact hz id h1
    · exact Nat.le_trans hS.1 h
  exact va_calll (a := (Value.ref (adr 0) :: vs.map Value.int).toArray) hr hS (fun q _ h => hF q h) hF (fun y u t H1 locs1 ht hvm hw hB hz hk hS1 => kk y u H1 locs1 hw (by rw [← ht]; exact hB) (wld_keep hap hP' hk) hS1)
/-- an int of the script is read -/
theorem l_arg (C0 : lw_At p s m meth c b L xs) {i k : Nat} (hL : L ≤ 2048) (hl0 : ls[0]? = some (.val (.ref b))) (hl3 : ls[3]? = some (.val (.int (nI i)))) (hik : i + k < L) (hS : va_S (A0 s) s.heap H locs) (d0 : decode code pc = .ok (.aload_n 0, 1)) (d1 : decode code (pc + 1) = .ok (.iload_n 3, 1)) (d2 : decode code (pc + 1 + 1) = .ok (.iconst k, 1)) (hv : Int32.ofInt k = nI k) (d3 : decode code (pc + 1 + 1 + 1) = .ok (.iadd, 1)) (d4 : decode code (pc + 1 + 1 + 1 + 1) = .ok (.iaload, 1))
    (kk : W p l e room_1 s m #[Value.ref b] below meth c H locs cells slots Q (F0 m (pc + 5) ls (.int (xs (i + k)) :: rest))) : W p l e room_1 s m #[Value.ref b] below meth c H locs cells slots Q (F0 m pc ls rest) := by
  refine lv_aload_n C0.1 C0.2.1 d0 rfl hl0 ?_
  refine lv_iload_n C0.1 C0.2.1 d1 rfl hl3 ?_
  refine lv_iconst C0.1 C0.2.1 d2 hv ?_
  refine lv_iadd C0.1 C0.2.1 d3 ?_
  rw [nI_add]
  refine va_sld C0.1 C0.2.1 C0.2.2.2.2.2.2.1 C0.2.2.2.2.2.2.2.1 (Nat.not_le.mpr C0.2.2.2.2.2.2.2.1) hS (by rw [nx_in' (by omega) (by omega)]; exact hik) d4 ?_
  rw [nx_cl (by omega)]
  exact kk
end LAW
