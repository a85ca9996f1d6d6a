/-! constructors: beginning, end, calls -/
def RetOK (p : Program) (l : Launch) (e : Env) (R : Room) (s : State) (m : MethodId) (args : Array Value) (below : List Frame) (meth : Method) (c : Code) (Q : State → Prop) (D : va_G) (A : Nat → Prop) (cc : ByteArray) (lay : List Nat) (Φ : Mem → Prop) (h mc ms : Nat) : Prop := ∀ (ls : Array Slot) (pc : Nat) (tys : List (ClassId × FieldType)) (cells slots : Nat) (adr : Nat → Nat) (cA : Nat → ClassId) (μ : Mem), decode cc pc = .ok (.return_, 1) → adr 0 = h → Φ μ → (∀ x ∈ tysL lay cA, x ∈ tys) → cells ≤ mc → slots ≤ ms → GB p l e R s m args below meth c Q D A ls pc [] (wld lay adr cA μ) tys cells slots
theorem Cn_intro {l : Launch} {D : va_G} {d : Nat} {y : MethodName} {cc : ByteArray} {maxL ci : Nat} {fs : List Value} {lay : List Nat} {Φ : Mem → Prop} {mc ms : Nat} (hy : plainName y.cls = true) (hn : y.name = "<init>") (hm : 1 ≤ maxL) (HG : ∀ (p : Program) (e : Env) (s : State) (m : MethodId) (args : Array Value) (below : List Frame) (meth : Method) (c : Code) (Q : State → Prop) (A : Nat → Prop) (ls : Array Slot) (h : Nat), BX p s m args meth c cc maxL y.cls A ls h → AOk s → lv_has ls maxL [(0, .ref h)] → RetOK p l e (CnR d mc ms) s m args below meth c Q D A cc lay Φ h mc ms → GB p l e (CnR d mc ms) s m args below meth c Q D A ls 0 [] [(h, .inr (ci, fs))] [] 0 0) : Cn l D d y cc maxL ci fs lay Φ mc ms := by
  intro h sz
  refine Met.ofW (cc := cc) (maxL := maxL) (ret := none) hy rfl ?_
  intro p e s m args below meth c s₁ B hml hv
  obtain ⟨rfl, hsz, hP, hK, hAO⟩ := hv
  subst hsz
  have hts := atoms_spec (ws := Cond.code y cc maxL none :: lg) B.pre
  have hown : s.vm.findClass y.cls = some m.cls := findClass_of_methodNamed B.named
  have hin : meth.name = "<init>" := (name_of_methodNamed B.named B.method).1.trans hn
  have hx := B.exec
  have hb := B.bytes
  have hr := B.returns
  have hlocks := B.notSynchronized
  have hl := lv_entry ([.ref h]) (n := maxL) hm
  rw [lg_entry_eq]
  generalize (lg_sl ([.ref h]) ++ List.replicate (maxL - (lg_sl ([.ref h])).length) Slot.unset).toArray = ls at hl ⊢
  have hl : lv_has ls maxL [(0, .ref h)] := hl
  refine HG p e s m _ below meth c _ (va_A [(h, .inr (ci, fs))] s.heap.size) ls h ⟨hx, hb, hml, hown, fun w hw => hts w (List.mem_cons_of_mem _ hw), hin, hl.1, lv_at hl 0 rfl, fun q hq => Or.inr hq⟩ hAO hl ?_ s.heap [] ⟨hP, ?_, hK, va_S.rf⟩
  · intro ls pc tys cells slots adr cA μ hd h0 hΦ hm hc hs H locs hB
    obtain ⟨hP, hD, hK, hS⟩ := hB
    refine W.widen (k := mc) (n := ms) hc hs ?_
    exact W.vret hx hb hr (fun t ht hW => ⟨⟨(), rfl, trivial, adr, cA, μ, h0, hΦ, by rw [ht]; exact hP, va_K.moved hW.alike (hK.mem hm), hD⟩, hS.F ht⟩) hS.2.2 hd
  · refine ⟨fun i j x y hi hj _ => ?_, fun k q hq => Or.inl ⟨k, q.2, hq⟩⟩
    have h1 := (List.getElem?_eq_some_iff.mp hi).1
    have h2 := (List.getElem?_eq_some_iff.mp hj).1
    simp at h1 h2
    omega
theorem gInL {ws : List Cond} (h : ∀ w ∈ ws, w ∈ lg) : GoodIn lg ws := fun w hw => ⟨h w hw, good_of_word (List.mem_filter.mp (h w hw)).2⟩
section BLD2
variable {p : Program} {l : Launch} {e : Env} {R : Room} {s : State} {m : MethodId} {args : Array Value} {below : List Frame} {meth : Method} {c : Code} {Q : State → Prop}
variable {cc : ByteArray} {own : String} {maxL : Nat} {D : va_G} {A : Nat → Prop} {h ci pc : Nat} {ls : Array Slot} {st : List Value} {ws rest : va_W} {tys : List (ClassId × FieldType)} {cells slots : Nat} {fs : List Value}
theorem b_eq {ws ws' : va_W} (hw : ws = ws') (k : GB p l e R s m args below meth c Q D A ls pc st ws' tys cells slots) : GB p l e R s m args below meth c Q D A ls pc st ws tys cells slots := by rw [hw]; exact k
/-- an int method without an answer, called by a constructor on the object that it makes -/
theorem b_callV (X : BX p s m args meth c cc maxL own A ls h) {lay : List Nat} {adr : Nat → Nat} {cA : Nat → ClassId} {μ : Mem} {idx M d' : Nat} {x : Int32} {P : PT} (hd : decode cc pc = .ok (.invokevirtual idx, 3)) (hRn : Rn lay d' M [rf (ci + 10) 0, vi x] μ P) (hk : knd lay 0 = ci + 10) (hci : ci < classes.length) (hrt : mRt M = none) (w1 : Cond.methodLink own idx (mNm M) ∈ lg) (w2 : Cond.instanceMethod (mNm M) ∈ lg) (w3 : Cond.selects (mNm M).cls (mNm M) (mNm M) ∈ lg) (w4 : Cond.initialized (mNm M).cls ∈ lg) (w5 : Cond.code (mNm M) (mBy M) (mMx M) (mRt M) ∈ lg) (hn : (mNm M).cls ≠ "java/lang/invoke/MethodHandle" ∧ (mNm M).cls ≠ "java/lang/invoke/VarHandle" ∧ (parseMethodDescriptor (mNm M).desc).map (fun d => d.parameters.length) = some 1) (hmx : mMx M ≤ 40) (hcn : clsNm ci = (mNm M).cls) (hty : ∀ x ∈ tysL lay cA, x ∈ tys) (hR : d' + 2 ≤ R.frames ∧ 60 * (d' + 2) ≤ R.locals) (hc : cells ≤ R.cells) (hs : slots ≤ R.slots) (kk : ∀ μ1, P none μ1 → GB p l e R s m args below meth c Q D A ls (pc + 3) [] (wld lay adr cA μ1) tys cells slots) : GB p l e R s m args below meth c Q D A ls pc [.int x, .ref (adr 0)] (wld lay adr cA μ) tys cells slots := fun H locs hB => by
  obtain ⟨hP, hD, hK, hS⟩ := hB
  have hM := hRn (fun v hv => by
    rcases List.mem_cons.mp hv with e | e
    · rw [e]; exact Or.inr hk
    · rcases List.mem_cons.mp e with e | e
      · rw [e]; trivial
      · cases e) l D adr cA H.size (wld_inj hD)
  have hrk : rkOf (mRt M) = 0 := by rw [hrt]; rfl
  rw [hrk] at hM
  have hKt : va_K D classes (tysL lay cA) s := hK.mem hty
  have hT : GoodIn lg (wsV own idx (mNm M).cls (mNm M) (wsOf M)) := gInL (fun w hw => by
    rcases List.mem_append.mp hw with q | q
    · rcases List.mem_cons.mp q with e | q
      · rw [e]; exact w1
      rcases List.mem_cons.mp q with e | q
      · rw [e]; exact w2
      rcases List.mem_cons.mp q with e | q
      · rw [e]; exact w3
      rcases List.mem_cons.mp q with e | q
      · rw [e]; exact w4
      cases q
    · exact ws_in w5 w q)
  obtain ⟨q, hq⟩ : ∃ q : vw_C, classes[ci]? = some q := ⟨classes[ci], List.getElem?_eq_getElem hci⟩
  have hqn : q.1 = (mNm M).cls := by
    rw [← hcn]
    unfold clsNm
    rw [List.getD, hq]
    rfl
  have he : (wld lay adr cA μ)[0]? = some (adr 0, .inr (ci, (List.range (nfl ci)).map (fval adr μ 0 ci))) := by
    rw [wld_get hk (by omega), cellE_obj hci]
  have hrv := va_recv hKt hP hq he
  rw [hqn] at hrv
  have hF : ∀ q, Aset lay adr H.size q → A q := fun q h => by
    rcases h with ⟨id, h1, h2⟩ | h
    · rw [h2]; exact wld_in hD h1
    · exact X.2.2.2.2.2.2.2.2 q (Nat.le_trans hS.1 h)
  refine va_callv (va_runV (C := (mNm M).cls) (b := adr 0) (As := [.int x]) (rest := []) ⟨X.1, X.2.1, X.2.2.1, X.2.2.2.1, X.2.2.2.2.1⟩ hM (cwV 1 X.2.2.2.2.1 hT rfl rfl rfl ⟨rfl, hn⟩ ⟨by show d' + 1 + 1 ≤ R.frames; omega, by show 8 + (mMx M + 11) + 60 * (d' + 1) ≤ R.locals; omega⟩) ⟨pre_blind, hrv, fun U hU hW => ⟨rfl, by rw [hU], by rw [hU]; exact hP, va_K.moved hW.alike hKt⟩⟩ rfl rfl X.2.2.2.2.2.2.1 rfl (lv_room (by show 0 ≤ 8; omega)) hd ⟨hc, hs⟩) hS (fun q _ h => hF q h) hF (fun u t H1 locs1 ht hvm hw hB hz hk hS1 => ?_)
  exact kk u hw H1 locs1 ⟨by rw [← ht]; exact hB, wld_D2 hD, hK, hS1⟩
end BLD2
