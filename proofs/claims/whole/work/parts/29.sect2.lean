/-! Sections: all cuts, all covers -/
def cutU (rs : List RG) (sk : Nat) : Nat → List Nat
  | 0 => []
  | i + 1 => if i = sk ∨ ra rs i = rb rs i then cutU rs sk i else insC (insC (cutU rs sk i) (ra rs i)) (rb rs i)
def cutsOf (rs : List RG) (sk : Nat) : List Nat := cutU rs sk rs.length
theorem insC_in {l : List Nat} {p c : Nat} (h : c ∈ insC l p) : c = p ∨ c ∈ l := by
  unfold insC at h
  split at h
  · exact Or.inr h
  · rcases List.mem_append.mp h with h | h
    · exact Or.inr (List.mem_of_mem_take h)
    · rcases List.mem_cons.mp h with h | h
      · exact Or.inl h
      · exact Or.inr (List.mem_of_mem_drop h)
theorem cutU_len (rs : List RG) (sk : Nat) : ∀ i, (cutU rs sk i).length ≤ 2 * i
  | 0 => by simp [cutU]
  | i + 1 => by
    have ih := cutU_len rs sk i
    unfold cutU
    split
    · omega
    · have h1 := insC_len (l := cutU rs sk i) (p := ra rs i)
      have h2 := insC_len (l := insC (cutU rs sk i) (ra rs i)) (p := rb rs i)
      omega
theorem cutU_le {L : Nat} {rs : List RG} (h : WR L rs) (sk : Nat) : ∀ i, i ≤ rs.length → ∀ c ∈ cutU rs sk i, c ≤ L
  | 0, _, c, hc => by simp [cutU] at hc
  | i + 1, hi, c, hc => by
    have ih := cutU_le h sk i (by omega)
    obtain ⟨-, a2, a3⟩ := h.at (show i < rs.length by omega)
    unfold cutU at hc
    split at hc
    · exact ih c hc
    · rcases insC_in hc with e | e
      · omega
      · rcases insC_in e with e | e
        · omega
        · exact ih c e
/-- a range that is left out, as a number; 8 and above: none -/
def skI (sk : Nat) : Int32 := if sk < 8 then nI sk else mI 0
theorem skI_eq {sk i : Nat} (hi : i < 8) : (nI i = skI sk) = (i = sk) := by
  unfold skI
  split
  · rw [nx_eq (by omega) (by omega)]
  · exact propext ⟨fun h => absurd h.symm (mI_ne (by omega) (by omega)), fun h => by omega⟩
def clr (c sk : Nat) : Nat := if sk < 8 then c &&& (255 - 2 ^ sk) else c
theorem clr_and : ∀ sk, sk < 8 → ∀ c, c < 256 → nI c &&& (((nI 1) <<< (nI sk &&& 31)) ^^^ (mI 0)) = nI (c &&& (255 - 2 ^ sk)) := by decide +kernel
theorem clr_m1 : ∀ c, c < 256 → nI c &&& mI 0 = nI c := by decide +kernel
theorem clr_lt {c sk : Nat} (h : c < 256) : clr c sk < 256 := by
  unfold clr
  split
  · exact Nat.lt_of_le_of_lt Nat.and_le_left h
  · exact h
def cvL (rs : List RG) (sk : Nat) (cs : List Nat) : List Nat := (List.range (cs.length - 1)).map fun i => clr (cov rs (cs.getD i 0)) sk
def SeAt (μ : Mem) (s : Nat) (cs cv : List Nat) : Prop := CuAt μ s cs ∧ μ.1 s 4 = nI cv.length ∧ (∀ i, i < cv.length → μ.1 (s + 2) i = nI (cv.getD i 0)) ∧ ∀ i, i + 1 < cv.length → μ.1 (s + 3) i = nI (popN (cv.getD i 0 &&& cv.getD (i + 1) 0))
theorem cvL_len (rs : List RG) (sk : Nat) (cs : List Nat) : (cvL rs sk cs).length = cs.length - 1 := by simp [cvL]
theorem cvL_at {rs : List RG} {sk i : Nat} {cs : List Nat} (h : i < cs.length - 1) : (cvL rs sk cs).getD i 0 = clr (cov rs (cs.getD i 0)) sk := by
  unfold cvL
  rw [List.getD, List.getElem?_map, List.getElem?_range h]
  rfl
abbrev seC (s : Nat) : List Nat := [s, s + 1, s + 2, s + 3]
theorem cover_ok {lay : List Nat} (hwf : wfB lay = true) (d : Nat) {μ : Mem} {s t : Nat} {T : TS} {cs : List Nat} {sk : Nat} (hC : CuAt μ s cs) (h4 : μ.1 s 4 = nI (cs.length - 1)) (hl : cs.length ≤ 16) (hb : ∀ c ∈ cs, c ≤ 90) (hT : TeAt μ t T) (hw : WT T) (hd : t + 5 ≤ s ∨ s + 4 ≤ t) : Rn lay (d + 1) mSe_cover [rf 12 s, rf 13 t, vi (skI sk)] μ (Pn fun μ1 => SeAt μ1 s cs (cvL T.1 sk cs) ∧ Fr [s + 2, s + 3] μ μ1) := by
  obtain ⟨hc, hi⟩ := hC
  have hn := hw.1.1
  have hbd : ∀ i, cs.getD i 0 ≤ 90 := fun i => by
    rw [List.getD]
    cases hq : cs[i]? with
    | none => simp
    | some c => exact hb c (List.mem_of_getElem? hq)
  refine Rn_intro ok_Se_cover hwf rfl (fun G hG => g_Se_cover_0 hG ?_)
  have loop : ∀ (mk : Int32), (∀ c, c < 256 → nI c &&& mk = nI (clr c sk)) → ∀ n i (μ' : Mem), i + n = cs.length - 1 → (∀ j, j < i → μ'.1 (s + 2) j = nI (clr (cov T.1 (cs.getD j 0)) sk)) → (∀ j, j + 1 < i → μ'.1 (s + 3) j = nI (popN (clr (cov T.1 (cs.getD j 0)) sk &&& clr (cov T.1 (cs.getD (j + 1) 0)) sk))) → Fr [s + 2, s + 3] μ μ' → G 17 [rf 12 s, rf 13 t, un, vi mk, vi (nI i)] [] μ' := by
    intro mk hmk n
    induction n with
    | zero =>
      intro i μ' hin hcv hsh hf
      have e0 := hf.1 s (by simp)
      have e1 := hf.1 (s + 1) (by simp)
      refine g_Se_cover_17 hG ?_
      rw [e0, h4, nx_le (by omega) (by omega)]
      refine ⟨fun _ => ⟨rfl, ⟨⟨by rw [e0]; exact hc, fun j hj => by rw [e1]; exact hi j hj⟩, by rw [e0, cvL_len]; exact h4, fun j hj => ?_, fun j hj => ?_⟩, hf⟩, fun z => absurd (by omega) z⟩
      · rw [cvL_len] at hj
        rw [cvL_at hj]
        exact hcv j (by omega)
      · rw [cvL_len] at hj
        rw [cvL_at (by omega), cvL_at hj]
        exact hsh j (by omega)
    | succ n ih =>
      intro i μ' hin hcv hsh hf
      have e0 := hf.1 s (by simp)
      have e1 := hf.1 (s + 1) (by simp)
      have hb1 := hbd i
      have hT' : TeAt μ' t T := hT.far hf (fun b hb2 hb3 => by simp at hb2 hb3; omega)
      have hcl : ∀ p, clr (cov T.1 p) sk < 256 := fun p => clr_lt (cov_lt hn)
      refine g_Se_cover_17 hG ?_
      simp (disch := omega) only [e0, e1, h4, nx_le, nx_cl, nx_in', hi i (by omega), nI_add]
      refine ⟨fun z => absurd z (by omega), fun _ => ⟨fun z => absurd z (by omega), fun _ => ⟨by omega, ?_⟩⟩⟩
      refine useV (coverAt_ok hwf d hT' hw (by omega)) ?_
      rw [hmk _ (cov_lt hn)]
      refine ⟨by omega, by omega, fun z => ?_, fun z => ?_⟩
      · rw [nx_0, nx_le (by omega) (by omega)] at z
        refine ih (i + 1) _ (by omega) (fun j hj => ?_) (fun j hj => by omega) ((hf.up (by simp)).up (by simp))
        rw [show j = i by omega, up_n1 (by omega), up_at]
      · rw [nx_0, nx_le (by omega) (by omega)] at z
        rw [nx_sub (by omega)]
        simp (disch := omega) only [nx_cl, nx_in', up_n1, up_n2, up_at, hcv (i - 1) (by omega), nx_and]
        refine ⟨by omega, by omega, ?_⟩
        refine useV (bitCount_ok hwf d (Nat.lt_of_le_of_lt Nat.and_le_left (hcl _)) _) ?_
        refine ⟨by omega, ih (i + 1) _ (by omega) (fun j hj => ?_) (fun j hj => ?_) (((hf.up (by simp)).up (by simp)).up (by simp))⟩
        · by_cases e : j = i
          · subst e
            simp (disch := omega) only [up_n1, up_at]
          · simp (disch := omega) only [up_n1, up_n2]
            exact hcv j (by omega)
        · by_cases e : j = i - 1
          · subst e
            rw [up_at, show i - 1 + 1 = i by omega]
          · rw [up_n2 e, up_n2 (by omega), up_n1 (by omega)]
            exact hsh j (by omega)
  unfold skI
  by_cases hsk : sk < 8
  · rw [if_pos hsk]
    refine ⟨fun _ => loop _ (fun c hcl => ?_) (cs.length - 1) 0 μ (by omega) (fun j hj => by omega) (fun j hj => by omega) (Fr.rf _ _), fun z => absurd (nI_pos' (by omega)) z⟩
    rw [clr_and sk hsk c hcl, clr, if_pos hsk]
  · rw [if_neg hsk]
    refine ⟨fun z => absurd z (by decide), fun _ => loop _ (fun c hcl => ?_) (cs.length - 1) 0 μ (by omega) (fun j hj => by omega) (fun j hj => by omega) (Fr.rf _ _)⟩
    rw [clr_m1 c hcl, clr, if_neg hsk]
theorem cut_ok {lay : List Nat} (hwf : wfB lay = true) (d : Nat) {μ : Mem} {s t : Nat} {T : TS} {sk : Nat} (hT : TeAt μ t T) (hw : WT T) (hd : t + 5 ≤ s ∨ s + 4 ≤ t) : Rn lay (d + 2) mSe_cut [rf 12 s, rf 13 t, vi (skI sk)] μ (Pn fun μ1 => SeAt μ1 s (cutsOf T.1 sk) (cvL T.1 sk (cutsOf T.1 sk)) ∧ Fr (seC s) μ μ1) := by
  have hn := hw.1.1
  have hL := hw.2.1
  refine Rn_intro ok_Se_cut hwf rfl (fun G hG => g_Se_cut_0 hG ?_)
  have f60 : ∀ (μ' : Mem), CuAt μ' s (cutsOf T.1 sk) → Fr (seC s) μ μ' → G 60 [rf 12 s, rf 13 t, vi (skI sk), un] [] μ' := by
    intro μ' hc hf
    have hl := cutU_len T.1 sk T.1.length
    have hle := cutU_le hw.1 sk T.1.length (Nat.le_refl _)
    refine g_Se_cut_60 hG ?_
    have hsz : (if nI 0 < (μ'.1 s 3) - (nI 1) then (μ'.1 s 3) - (nI 1) else nI 0) = nI ((cutsOf T.1 sk).length - 1) := by
      rw [hc.1]
      rcases Nat.eq_zero_or_pos (cutsOf T.1 sk).length with q | q
      · rw [q]
        decide
      · have : (cutsOf T.1 sk).length ≤ 16 := by unfold cutsOf; omega
        rw [nx_sub (by omega)]
        rcases Nat.eq_zero_or_pos ((cutsOf T.1 sk).length - 1) with q2 | q2
        · rw [q2]
          decide
        · rw [if_pos (by rw [nx_lt (by omega) (by omega)]; exact q2)]
    rw [hsz]
    have hT' : TeAt μ' t T := hT.far hf (fun b hb2 hb3 => by simp at hb2 hb3; omega)
    refine useN (cover_ok hwf d (cs := cutsOf T.1 sk) (T := T) ⟨by rw [up_n2 (by omega)]; exact hc.1, fun i hi => by rw [up_n1 (by omega)]; exact hc.2 i hi⟩ (by rw [up_at]) (by unfold cutsOf; omega) (fun c hc2 => Nat.le_trans (hle c hc2) hL) (hT'.fr (fun b hb => up_cell (by simp at hb; omega))) hw hd) (fun μ1 hp => ?_)
    exact ⟨rfl, hp.1, (hf.up (by simp)).tr (hp.2.mono (by simp))⟩
  have loop : ∀ n i (μ' : Mem), i + n = T.1.length → CuAt μ' s (cutU T.1 sk i) → Fr (seC s) μ μ' → G 7 [rf 12 s, rf 13 t, vi (skI sk), vi (nI i)] [] μ' := by
    intro n
    induction n with
    | zero =>
      intro i μ' hi hc hf
      have e0 := hf.1 t (by simp; omega)
      have hi2 : i = T.1.length := by omega
      subst hi2
      refine g_Se_cut_7 hG ?_
      rw [e0, hT.1, nx_le (by omega) (by omega)]
      exact ⟨fun _ => f60 μ' hc hf, fun z => absurd (by omega) z⟩
    | succ n ih =>
      intro i μ' hi hc hf
      have hil : i < T.1.length := by omega
      have e0 := hf.1 t (by simp; omega)
      have hT' : TeAt μ' t T := hT.far hf (fun b hb2 hb3 => by simp at hb2 hb3; omega)
      obtain ⟨e1, e2, e3⟩ := hT'.2.2.1 i hil
      obtain ⟨a1, a2, a3⟩ := hw.1.at hil
      have hl := cutU_len T.1 sk i
      have hle := cutU_le hw.1 sk i (by omega)
      refine g_Se_cut_7 hG ?_
      simp (disch := omega) only [e0, hT.1, nx_le, nI_add, skI_eq, nx_cl, nx_in']
      refine ⟨fun z => absurd z (by omega), fun _ => ⟨fun z => absurd z (by omega), fun _ => ⟨fun z => ?_, fun z => ?_⟩⟩⟩
      · refine ih (i + 1) μ' (by omega) ?_ hf
        unfold cutU
        rw [if_pos (Or.inl z)]
        exact hc
      · refine useV (isEmpty_ok hwf d hT' hw hil) ?_
        rw [bI_eq0, e2]
        refine ⟨fun z2 => ?_, fun z2 => ⟨by omega, ?_⟩⟩
        · refine ih (i + 1) μ' (by omega) ?_ hf
          unfold cutU
          rw [if_pos (Or.inr (Decidable.not_not.mp z2))]
          exact hc
        · refine useN (addCut_ok hwf (d + 1) hc (by omega) (fun c hc2 => Nat.le_trans (hle c hc2) hL) (by omega)) (fun μ1 hp => ?_)
          obtain ⟨p1, p2⟩ := hp
          have g3 : μ1.1 (t + 3) i = nI (rb T.1 i) := by
            rw [p2.1 (t + 3) (by simp; omega)]
            exact e3
          rw [g3]
          refine ⟨by omega, ?_⟩
          have hl2 := insC_len (l := cutU T.1 sk i) (p := ra T.1 i)
          refine useN (addCut_ok hwf (d + 1) p1 (by omega) (fun c hc2 => ?_) (by omega)) (fun μ2 hp2 => ?_)
          · rcases insC_in hc2 with e | e
            · omega
            · exact Nat.le_trans (hle c e) hL
          · obtain ⟨p3, p4⟩ := hp2
            refine ih (i + 1) μ2 (by omega) ?_ ((hf.tr (p2.mono (by simp))).tr (p4.mono (by simp)))
            have ecut : cutU T.1 sk (i + 1) = insC (insC (cutU T.1 sk i) (ra T.1 i)) (rb T.1 i) := by
              conv => lhs; unfold cutU
              rw [if_neg (fun w => w.elim z z2)]
            rw [ecut]
            exact p3
  refine loop T.1.length 0 _ (by omega) ⟨by rw [up_at]; rfl, fun i hi => by simp [cutU] at hi⟩ ((Fr.rf _ _).up (by simp))
theorem seHas_ok {lay : List Nat} (hwf : wfB lay = true) (d : Nat) {μ : Mem} {s : Nat} {cs cv : List Nat} (hS : SeAt μ s cs cv) (hl : cv.length ≤ 15) (x : Int32) : Rn lay d mSe_has [rf 12 s, vi x] μ (Pv (bI (0 ≤ x.toInt ∧ x.toInt < cv.length)) μ) := by
  refine Rn_intro ok_Se_has hwf rfl (fun G hC => g_Se_has_0 hC ?_)
  simp (disch := omega) only [hS.2.1, i_lt, i_le, i_0, nI_ti]
  repeat' first | exact pv_f (by omega) | exact pv_t (by omega) | refine ⟨fun _ => ?_, fun _ => ?_⟩
theorem isCut_ok {lay : List Nat} (hwf : wfB lay = true) (d : Nat) {μ : Mem} {s : Nat} {cs : List Nat} (hS : CuAt μ s cs) (hl : cs.length ≤ 16) (hb : ∀ c ∈ cs, c ≤ 90) {c p : Nat} (hc : c < 1000) (hp : p < 1000) : Rn lay d mSe_isCut [rf 12 s, vi (nI c), vi (nI p)] μ (Pv (bI (c < cs.length ∧ cs.getD c 0 = p)) μ) := by
  have hbd : ∀ i, cs.getD i 0 ≤ 90 := fun i => by
    rw [List.getD]
    cases hq : cs[i]? with
    | none => simp
    | some c => exact hb c (List.mem_of_getElem? hq)
  have := hbd c
  refine Rn_intro ok_Se_isCut hwf rfl (fun G hC => g_Se_isCut_0 hC ?_)
  rw [hS.1, nx_0, nx_lt (by omega) (by omega), nx_le (by omega) (by omega), nx_le (by omega) (by omega), nx_cl (by omega)]
  refine ⟨fun z => absurd z (by omega), fun _ => ⟨fun z => pv_f (by omega), fun z => ⟨fun z2 => absurd z2 (by omega), fun _ => ?_⟩⟩⟩
  rw [hS.2 c (by omega), nx_eq (by omega) (by omega), nx_in' (by omega) (by omega)]
  refine ⟨by omega, fun z2 => pv_f (fun w => z2 w.2), fun z2 => pv_t ⟨by omega, z2⟩⟩
