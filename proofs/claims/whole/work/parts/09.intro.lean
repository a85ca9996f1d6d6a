/-! a method's contract out of its own steps -/
/-- locals that are forgotten -/
def fgt (m : List Nat) (ls : List TV) : List TV := m.foldl (fun l k => l.set k un) ls
def Clo (lay : List Nat) (d M : Nat) (P : PT) (G : KT) : Prop := (∀ K : KT, (∀ pc ls st μ, K pc ls st μ → G pc ls st μ) → ∀ pc ls st μ, stpE (CD lay d) (lk (mTb M) pc) P pc ls st μ K → G pc ls st μ) ∧ ∀ m pc ls st μ, G pc (fgt m ls) st μ → G pc ls st μ
theorem LH.fg {adr : Nat → Nat} {la : Array Slot} {nL : Nat} : ∀ {m : List Nat} {ls : List TV}, LH adr la nL ls → LH adr la nL (fgt m ls)
  | [], ls, h => h
  | k :: m, ls, h => by
    have h2 : LH adr la nL (ls.set k un) := by
      refine ⟨⟨h.1.1, h.1.2.1, fun q hq => h.1.2.2 q ?_⟩, by rw [List.length_set]; exact h.2⟩
      obtain ⟨j, w, h1, h2, h3⟩ := prs_mem.mp hq
      refine prs_mem.mpr ⟨j, w, ?_, h2, h3⟩
      by_cases e : j = k
      · subst e
        rw [List.getElem?_set] at h1
        simp at h1
        obtain ⟨-, h1⟩ := h1
        subst h1
        simp [kn] at h2
      · rw [List.getElem?_set_ne (Ne.symm e)] at h1
        exact h1
    exact LH.fg (m := m) h2
theorem fg_in {lay : List Nat} : ∀ {m : List Nat} {ls : List TV}, (∀ u ∈ ls, kOK lay u) → ∀ u ∈ fgt m ls, kOK lay u
  | [], ls, h => h
  | k :: m, ls, h => fg_in (m := m) (ls := ls.set k un) (fun u hu => by
    rcases List.mem_or_eq_of_mem_set hu with q | q
    · exact h u q
    · rw [q]; exact kOK_un lay)
section INTRO
variable {p : Program} {l : Launch} {e : Env} {s : State} {m : MethodId} {args : Array Value} {below : List Frame} {meth : Method} {c : Code}
variable {lay : List Nat} {adr : Nat → Nat} {cA : Nat → ClassId} {D : va_G} {M d : Nat} {P : PT}
theorem clo_WW (X : Cx lay adr cA D M p s m args c) (hr : meth.sig.returnType = mRt M) (hlocks : meth.locks = false) (hok : okB M = true) : Clo lay d M P (WW lay adr cA D M d (QM D lay adr cA s args below (rkOf (mRt M)) P) p l e s m args below meth c) := by
  refine ⟨?_, fun m pc ls st μ h H locs la hP hS hL h1 h2 => h H locs la hP hS hL.fg (fg_in h1) h2⟩
  intro K hK pc ls st μ h
  have hc := okB_at hok pc
  generalize lk (mTb M) pc = i at h hc
  unfold stpE at h
  split at h
  · exact ok_const X hK hc h
  · exact ok_lconst X hK hc h
  · exact ok_iload X hK hc h
  · exact ok_lload X hK hc h
  · exact ok_aload X hK hc h
  · exact ok_istore X hK hc h
  · exact ok_lstore X hK hc h
  · exact ok_astore X hK hc h
  · exact ok_iinc X hK hc h
  · exact ok_ibin X hK hc h
  · exact ok_idr X hK hc h
  · exact ok_lbin X hK hc h
  · exact ok_ldr X hK hc h
  · exact ok_i2l X hK hc h
  · exact ok_l2i X hK hc h
  · exact ok_lcmp X hK hc h
  · exact ok_dup X hK hc h
  · exact ok_dup2 X hK hc h
  · exact ok_pop X hK hc h
  · exact ok_goto X hK hc h
  · exact ok_if X hK hc h
  · exact ok_icmp X hK hc h
  · exact ok_switch X hK hc h
  · exact ok_get X hK hc h
  · exact ok_put X hK hc h
  · exact ok_iald X hK hc h
  · exact ok_iast X hK hc h
  · exact ok_lald X hK hc h
  · exact ok_last X hK hc h
  · exact ok_aald X hK hc h
  · exact ok_alen X hK hc h
  · exact ok_iret X hr hlocks hc h
  · exact ok_lret X hr hlocks hc h
  · exact ok_ret X hr hlocks hc h
  · exact ok_callV X hK hc h
  · exact ok_callS X hK hc h
  · next a idx b bs =>
    rcases bs with _ | ⟨p0, _ | ⟨p1, _ | ⟨p2, _ | ⟨p3, _ | ⟨q, bs⟩⟩⟩⟩⟩
    · exact absurd hc (by simp [chkE])
    · exact absurd hc (by simp [chkE])
    · exact absurd hc (by simp [chkE])
    · exact absurd hc (by simp [chkE])
    · exact ok_math X hK hc h
    · exact absurd hc (by simp [chkE])
  · exact h.elim
end INTRO
def aLoc : List TV → List TV
  | [] => []
  | v :: l => match isL v with
    | true => v :: un :: aLoc l
    | false => v :: aLoc l
def padL : Nat → List TV → List TV
  | 0, l => l
  | n + 1, [] => un :: padL n []
  | n + 1, v :: l => v :: padL n l
theorem padL_len : ∀ {n : Nat} {l : List TV}, l.length ≤ n → (padL n l).length = n
  | 0, l, h => by simp only [padL]; omega
  | n + 1, [], h => by simp only [padL, List.length_cons]; rw [padL_len (Nat.zero_le n)]
  | n + 1, v :: l, h => by simp only [padL, List.length_cons]; rw [padL_len (by simpa using h)]
theorem padL_in {v : TV} : ∀ {n : Nat} {l : List TV}, v ∈ padL n l → v = un ∨ v ∈ l
  | 0, l, h => Or.inr h
  | n + 1, [], h => by
    simp only [padL] at h
    rcases List.mem_cons.mp h with e | e
    · exact Or.inl e
    · rcases padL_in e with q | q
      · exact Or.inl q
      · cases q
  | n + 1, w :: l, h => by
    simp only [padL] at h
    rcases List.mem_cons.mp h with e | e
    · exact Or.inr (by rw [e]; exact List.mem_cons_self)
    · rcases padL_in e with q | q
      · exact Or.inl q
      · exact Or.inr (List.mem_cons_of_mem _ q)
theorem padL_prs {adr : Nat → Nat} : ∀ {n i : Nat} {l : List TV}, prs adr i (padL n l) = prs adr i l
  | 0, i, l => rfl
  | n + 1, i, [] => by
    simp only [padL]
    show prs adr (i + 1) (padL n []) = []
    rw [padL_prs]
    rfl
  | n + 1, i, v :: l => by
    simp only [padL, prs]
    cases kn v with
    | true => simp only; rw [padL_prs]
    | false => simp only; rw [padL_prs]
theorem aLoc_in {v : TV} : ∀ {l : List TV}, v ∈ aLoc l → v = un ∨ v ∈ l
  | [], h => by cases h
  | w :: l, h => by
    simp only [aLoc] at h
    split at h
    · rcases List.mem_cons.mp h with e | h
      · exact Or.inr (by rw [e]; exact List.mem_cons_self)
      rcases List.mem_cons.mp h with e | h
      · exact Or.inl e
      rcases aLoc_in h with q | q
      · exact Or.inl q
      · exact Or.inr (List.mem_cons_of_mem _ q)
    · rcases List.mem_cons.mp h with e | h
      · exact Or.inr (by rw [e]; exact List.mem_cons_self)
      rcases aLoc_in h with q | q
      · exact Or.inl q
      · exact Or.inr (List.mem_cons_of_mem _ q)
theorem aLoc_sl {adr : Nat → Nat} : ∀ {l : List TV}, (lg_sl (l.map (cv adr))).length = (aLoc l).length
  | [] => rfl
  | v :: l => by
    have ih := aLoc_sl (adr := adr) (l := l)
    unfold lg_sl at ih ⊢
    rw [List.map_cons, List.flatMap_cons, List.length_append, ih, cv_cat]
    simp only [aLoc]
    rcases v with x | x | x
    · simp [tcat, isL]; omega
    · simp [tcat, isL]; omega
    · simp [tcat, isL]; omega
theorem aLoc_prs {adr : Nat → Nat} {q : Nat × Value} : ∀ {l : List TV} {i : Nat}, q ∈ prs adr i (aLoc l) → q ∈ lv_args i (l.map (cv adr))
  | [], i, h => by cases h
  | v :: l, i, h => by
    rw [List.map_cons]
    unfold lv_args
    rw [cv_cat]
    rcases v with x | x | ⟨_ | τ, id⟩
    · simp only [aLoc, isL, prs, kn, tcat] at h ⊢
      rcases List.mem_cons.mp h with e | h
      · rw [e]; exact List.mem_cons_self
      · exact List.mem_cons_of_mem _ (aLoc_prs h)
    · simp only [aLoc, isL, prs, kn, tcat] at h ⊢
      rcases List.mem_cons.mp h with e | h
      · rw [e]; exact List.mem_cons_self
      · exact List.mem_cons_of_mem _ (aLoc_prs h)
    · simp only [aLoc, isL, prs, kn, tcat] at h ⊢
      exact List.mem_cons_of_mem _ (aLoc_prs h)
    · simp only [aLoc, isL, prs, kn, tcat] at h ⊢
      rcases List.mem_cons.mp h with e | h
      · rw [e]; exact List.mem_cons_self
      · exact List.mem_cons_of_mem _ (aLoc_prs h)
theorem Rn_intro {lay : List Nat} {d M : Nat} {av : List TV} {μ : Mem} {P : PT} (hok : okB M = true) (hwf : wfB lay = true) (hlen : Nat.ble (aLoc av).length (mMx M) = true) (HG : ∀ G : KT, Clo lay d M P G → G 0 (padL (mMx M) (aLoc av)) [] μ) : Rn lay d M av μ P := by
  intro hkv l D adr cA sz hi
  have hlen := Nat.le_of_ble_eq_true hlen
  have hy : plainName (mNm M).cls = true := by
    have h := hok
    simp only [okB, Bool.and_eq_true] at h
    exact h.1
  refine Met.ofW (cc := mBy M) (maxL := mMx M) (ret := mRt M) hy rfl ?_
  intro p e s m args below meth c s₁ B hml hv
  obtain ⟨rfl, hsz, hP, hK⟩ := hv
  subst hsz
  have hts := atoms_spec (ws := wsOf M) B.pre
  have hown : s.vm.findClass (mNm M).cls = some m.cls := findClass_of_methodNamed B.named
  have X : Cx lay adr cA D M p s m (av.map (cv adr)).toArray c := ⟨B.exec, B.bytes, hml, hown, hts, hK, hi, hwf⟩
  have hc := HG _ (clo_WW (l := l) (e := e) (below := below) (d := d) (P := P) X B.returns B.notSynchronized hok)
  have hl := lv_entry (av.map (cv adr)) (n := mMx M) (by rw [aLoc_sl]; exact hlen)
  rw [lg_entry_eq]
  refine hc s.heap [] _ hP va_S.rf ⟨⟨hl.1, hl.2.1, fun q hq => hl.2.2 q ?_⟩, padL_len hlen⟩ (fun v hv => ?_) (fun v hv => by cases hv)
  · rw [padL_prs] at hq
    exact aLoc_prs hq
  · rcases padL_in hv with e | e
    · rw [e]; exact kOK_un lay
    · rcases aLoc_in e with e | e
      · rw [e]; exact kOK_un lay
      · exact hkv v e
def lkS : List (Nat × List Nat) → Nat → Option (List Nat)
  | [], _ => none
  | (a, m) :: l, pc => match Nat.beq a pc with
    | true => some m
    | false => lkS l pc
/-- many steps at once, as far as the places S -/
def go (C : CT) (t : List (List INS)) (S : List (Nat × List Nat)) (P : PT) (G : KT) : Nat → KT
  | 0, pc, ls, st, μ => G pc ls st μ
  | n + 1, pc, ls, st, μ => match lkS S pc with
    | some m => G pc (fgt m ls) st μ
    | none => stpE C (lk t pc) P pc ls st μ (go C t S P G n)
theorem go_ok {lay : List Nat} {d M : Nat} {P : PT} {G : KT} (hC : Clo lay d M P G) (S : List (Nat × List Nat)) : ∀ (n : Nat) (pc : Nat) (ls st : List TV) (μ : Mem), go (CD lay d) (mTb M) S P G n pc ls st μ → G pc ls st μ
  | 0, pc, ls, st, μ, h => h
  | n + 1, pc, ls, st, μ, h => by
    unfold go at h
    split at h
    · exact hC.2 _ _ _ _ _ h
    · exact hC.1 _ (go_ok hC S n) pc ls st μ h
theorem seg {lay : List Nat} {d M : Nat} {P : PT} {G : KT} (hC : Clo lay d M P G) (S : List (Nat × List Nat)) (n : Nat) {t : List (List INS)} (ht : mTb M = t) {pc : Nat} {ls st : List TV} {μ : Mem} (h : stpE (CD lay d) (lk t pc) P pc ls st μ (go (CD lay d) t S P G n)) : G pc ls st μ := by
  subst ht
  exact hC.1 _ (go_ok hC S n) pc ls st μ h
